/-! ===== SPECIAL2, reserved opcodes ===== -/
section INT4
variable {ms : Int32} {mn S : Nat} {g rg hq mf : Nat → Int32} {cd : Int32} {fg : Nat → Int32} {L O : Fr4} {dd bm rr kt : Nat → Int32} {l1 l2 : Int64} {w : Int32}
theorem i_mul (H : pre mn g rg hq mf cd fg w dd bm rr kt) (ho : zz_ushr w 26 = 28) (hf : w &&& 63 = 2) : pfx ms mn g rg hq mf cd fg w dd bm rr kt := by
  refine pfx_mk H 0 (fun L O => (g, wr rg (fI w 11) (rv rg w 21 * rv rg w 16), hlf hq, mf, cd, fg, L, O)) (fun dd l1 l2 => (upd (upd dd 1 0) 2 0, l1, l2, bm, wr rr (fI w 11) (rv rg w 21 * rv rg w 16), kt)) (fun L O P hP => ?_) (fun dd l1 l2 H L O => ⟨oc_0 (q_forget (q_wr H.rel)) H.e5 H.e11 H.e12 H.e13, fun Q hQ => ?_⟩) (fun _ _ _ _ => rfl) (fun _ _ _ _ _ hs => ⟨by repeat first | exact hs | apply lo_upd, rfl, rfl, rfl⟩) (by first | exact Or.inr (fun _ _ => rfl) | exact Or.inl (by unfold q_e; decide)) (fun _ _ _ => rfl)
  · unfold wp_Pr_perform
    refine pr_op ?_
    rw [ho]
    repeat first | refine bq_t (by decide) ?_ | refine bq_f (by decide) ?_
    unfold wp_Pr_special2
    refine pr_rs ⟨fI_in w 21, fun a ea => pr_rt ⟨fI_in w 16, fun b eb => pr_fun ?_⟩⟩
    subst ea
    subst eb
    rw [hf]
    repeat first | refine bq_t (by decide) ?_ | refine bq_f (by decide) ?_
    unfold wp_Hl_forget
    exact pr_rd (pr_result hP)
  · unfold wp_Md_operate
    rw [ho]
    repeat first | refine bq_t (by decide) ?_ | refine bq_f (by decide) ?_
    rw [H.e9, hf]
    repeat first | refine bq_t (by decide) ?_ | refine bq_f (by decide) ?_
    exact md_field H.e9 (md_rs H.e9 H.rel (md_rt H.e9 H.rel (md_into H.e5 hQ)))

theorem i_clz (H : pre mn g rg hq mf cd fg w dd bm rr kt) (ho : zz_ushr w 26 = 28) (hf : w &&& 63 = 32) : pfx ms mn g rg hq mf cd fg w dd bm rr kt := by
  refine pfx_mk H 0 (fun L O => (g, wr rg (fI w 11) (nI (32 - blen (rv rg w 21).toBitVec.toNat)), hq, mf, cd, fg, L, O)) (fun dd l1 l2 => (dd, l1, l2, bm, wr rr (fI w 11) (nI (32 - blen (rv rg w 21).toBitVec.toNat)), kt)) (fun L O P hP => ?_) (fun dd l1 l2 H L O => ⟨oc_0 (q_wr H.rel) H.e5 H.e11 H.e12 H.e13, fun Q hQ => ?_⟩) (fun _ _ _ _ => rfl) (fun _ _ _ _ _ hs => ⟨by repeat first | exact hs | apply lo_upd, rfl, rfl, rfl⟩) (by first | exact Or.inr (fun _ _ => rfl) | exact Or.inl (by unfold q_e; decide)) (fun _ _ _ => rfl)
  · unfold wp_Pr_perform
    refine pr_op ?_
    rw [ho]
    repeat first | refine bq_t (by decide) ?_ | refine bq_f (by decide) ?_
    unfold wp_Pr_special2
    refine pr_rs ⟨fI_in w 21, fun a ea => pr_rt ⟨fI_in w 16, fun b eb => pr_fun ?_⟩⟩
    subst ea
    subst eb
    rw [hf]
    repeat first | refine bq_t (by decide) ?_ | refine bq_f (by decide) ?_
    exact pr_rd (pr_lz (pr_result hP))
  · unfold wp_Md_operate
    rw [ho]
    repeat first | refine bq_t (by decide) ?_ | refine bq_f (by decide) ?_
    rw [H.e9, hf]
    repeat first | refine bq_t (by decide) ?_ | refine bq_f (by decide) ?_
    exact md_rs H.e9 H.rel (md_lz (md_field H.e9 (md_into H.e5 hQ)))

theorem i_clo (H : pre mn g rg hq mf cd fg w dd bm rr kt) (ho : zz_ushr w 26 = 28) (hf : w &&& 63 = 33) : pfx ms mn g rg hq mf cd fg w dd bm rr kt := by
  refine pfx_mk H 0 (fun L O => (g, wr rg (fI w 11) (nI (32 - blen ((rv rg w 21 ^^^ (-1))).toBitVec.toNat)), hq, mf, cd, fg, L, O)) (fun dd l1 l2 => (dd, l1, l2, bm, wr rr (fI w 11) (nI (32 - blen ((rv rg w 21 ^^^ (-1))).toBitVec.toNat)), kt)) (fun L O P hP => ?_) (fun dd l1 l2 H L O => ⟨oc_0 (q_wr H.rel) H.e5 H.e11 H.e12 H.e13, fun Q hQ => ?_⟩) (fun _ _ _ _ => rfl) (fun _ _ _ _ _ hs => ⟨by repeat first | exact hs | apply lo_upd, rfl, rfl, rfl⟩) (by first | exact Or.inr (fun _ _ => rfl) | exact Or.inl (by unfold q_e; decide)) (fun _ _ _ => rfl)
  · unfold wp_Pr_perform
    refine pr_op ?_
    rw [ho]
    repeat first | refine bq_t (by decide) ?_ | refine bq_f (by decide) ?_
    unfold wp_Pr_special2
    refine pr_rs ⟨fI_in w 21, fun a ea => pr_rt ⟨fI_in w 16, fun b eb => pr_fun ?_⟩⟩
    subst ea
    subst eb
    rw [hf]
    repeat first | refine bq_t (by decide) ?_ | refine bq_f (by decide) ?_
    exact pr_rd (pr_lz (pr_result hP))
  · unfold wp_Md_operate
    rw [ho]
    repeat first | refine bq_t (by decide) ?_ | refine bq_f (by decide) ?_
    rw [H.e9, hf]
    repeat first | refine bq_t (by decide) ?_ | refine bq_f (by decide) ?_
    exact md_rs H.e9 H.rel (md_lz (md_field H.e9 (md_into H.e5 hQ)))

theorem i_madd (H : pre mn g rg hq mf cd fg w dd bm rr kt) (ho : zz_ushr w 26 = 28) (hf : w &&& 63 = 0) : pfx ms mn g rg hq mf cd fg w dd bm rr kt := by
  by_cases hv : ¬ hq 2 = 0 ∧ ¬ hq 3 = 0
  · refine pfx_mk H 0 (fun L O => (g, rg, hlw hq (zz_lushr ((zz_lshl (hq 0).toInt64 32 ||| ((hq 1).toInt64 &&& (4294967295 : Int64))) + ((rv rg w 21).toInt64 * (rv rg w 16).toInt64)) 32).toInt32 ((zz_lshl (hq 0).toInt64 32 ||| ((hq 1).toInt64 &&& (4294967295 : Int64))) + ((rv rg w 21).toInt64 * (rv rg w 16).toInt64)).toInt32, mf, cd, fg, L, O)) (fun dd l1 l2 => (upd (upd dd 1 1) 2 1, l1, l2, bm, upd (upd rr 32 (zz_lushr ((zz_lshl (hq 0).toInt64 32 ||| ((hq 1).toInt64 &&& (4294967295 : Int64))) + ((rv rg w 21).toInt64 * (rv rg w 16).toInt64)) 32).toInt32) 33 ((zz_lshl (hq 0).toInt64 32 ||| ((hq 1).toInt64 &&& (4294967295 : Int64))) + ((rv rg w 21).toInt64 * (rv rg w 16).toInt64)).toInt32, kt)) (fun L O P hP => ?_) (fun dd l1 l2 H L O => ⟨oc_0 (q_both H.rel) H.e5 H.e11 H.e12 H.e13, fun Q hQ => ?_⟩) (fun _ _ _ _ => rfl) (fun _ _ _ _ _ hs => ⟨by repeat first | exact hs | apply lo_upd, rfl, rfl, rfl⟩) (by first | exact Or.inr (fun _ _ => rfl) | exact Or.inl (by unfold q_e; decide)) (fun _ _ _ => rfl)
    · unfold wp_Pr_perform
      refine pr_op ?_
      rw [ho]
      repeat first | refine bq_t (by decide) ?_ | refine bq_f (by decide) ?_
      unfold wp_Pr_special2
      refine pr_rs ⟨fI_in w 21, fun a ea => pr_rt ⟨fI_in w 16, fun b eb => pr_fun ?_⟩⟩
      subst ea
      subst eb
      rw [hf]
      repeat first | refine bq_t (by decide) ?_ | refine bq_f (by decide) ?_
      unfold wp_Pr_accumulate wp_Hl_known
      refine bq_f hv.1 (bq_f hv.2 (bq_f (by decide) ?_))
      unfold wp_Hl_both
      refine fun x ex y ey => ?_
      subst ex
      subst ey
      exact hl_keep hP
    · unfold wp_Md_operate
      rw [ho]
      repeat first | refine bq_t (by decide) ?_ | refine bq_f (by decide) ?_
      rw [H.e9, hf]
      repeat first | refine bq_t (by decide) ?_ | refine bq_f (by decide) ?_
      unfold wj_Md_second_52
      have h1 : dd 1 = hq 2 := H.rel.2.2.1.2.1
      have h2 : dd 2 = hq 3 := H.rel.2.2.2.1.2.1
      rw [h1, h2]
      refine bq_f hv.1 (bq_f hv.2 ⟨by unfold vp_in; decide, fun x ex y ey => ⟨by unfold vp_in; decide, fun z ez t et s es => ?_⟩⟩)
      rw [show (32 : Int32).toNatClampNeg = 32 by decide, H.rel.2.2.1.2.2.2 hv.1] at ex
      rw [show (33 : Int32).toNatClampNeg = 33 by decide, H.rel.2.2.2.1.2.2.2 hv.2] at ez
      subst ex
      subst ez
      subst ey
      subst et
      subst es
      repeat first | refine bq_t (by decide) ?_ | refine bq_f (by decide) ?_
      first | refine md_rs H.e9 H.rel (md_rt H.e9 H.rel ?_) | (unfold wp_Md_product; refine bq_f (by decide) (md_rs H.e9 H.rel (md_rt H.e9 H.rel ?_)))
      repeat first | refine bq_t (by decide) ?_ | refine bq_f (by decide) ?_
      refine md_both ?_
      rw [← hi_eq]
      exact hQ
  · refine pfx_mk H 8 (fun L O => (g, rg, hq, mf, cd, fg, L, O)) (fun dd l1 l2 => (upd dd 5 8, l1, l2, bm, rr, kt)) (fun L O P hP => ?_) (fun dd l1 l2 H L O => ⟨oc_end (by unfold q_e; simp) H.rel H.nxt rfl (fun j _ h => pk_un h), fun Q hQ => ?_⟩) (fun _ _ _ _ => rfl) (fun _ _ _ _ _ hs => ⟨by repeat first | exact hs | apply lo_upd, rfl, rfl, rfl⟩) (by first | exact Or.inr (fun _ _ => rfl) | exact Or.inl (by unfold q_e; decide)) (fun _ _ _ => rfl)
    · unfold wp_Pr_perform
      refine pr_op ?_
      rw [ho]
      repeat first | refine bq_t (by decide) ?_ | refine bq_f (by decide) ?_
      unfold wp_Pr_special2
      refine pr_rs ⟨fI_in w 21, fun a ea => pr_rt ⟨fI_in w 16, fun b eb => pr_fun ?_⟩⟩
      subst ea
      subst eb
      rw [hf]
      repeat first | refine bq_t (by decide) ?_ | refine bq_f (by decide) ?_
      unfold wp_Pr_accumulate wp_Hl_known
      refine ⟨fun c => bq_t rfl hP, fun c => ⟨fun d => bq_t rfl hP, fun d => absurd ⟨c, d⟩ hv⟩⟩
    · unfold wp_Md_operate
      rw [ho]
      repeat first | refine bq_t (by decide) ?_ | refine bq_f (by decide) ?_
      rw [H.e9, hf]
      repeat first | refine bq_t (by decide) ?_ | refine bq_f (by decide) ?_
      unfold wj_Md_second_52
      have h1 : dd 1 = hq 2 := H.rel.2.2.1.2.1
      have h2 : dd 2 = hq 3 := H.rel.2.2.2.1.2.1
      rw [h1, h2]
      exact ⟨fun c => md_ends H.e5 hQ, fun c => ⟨fun d => md_ends H.e5 hQ, fun d => absurd ⟨c, d⟩ hv⟩⟩

theorem i_maddu (H : pre mn g rg hq mf cd fg w dd bm rr kt) (ho : zz_ushr w 26 = 28) (hf : w &&& 63 = 1) : pfx ms mn g rg hq mf cd fg w dd bm rr kt := by
  by_cases hv : ¬ hq 2 = 0 ∧ ¬ hq 3 = 0
  · refine pfx_mk H 0 (fun L O => (g, rg, hlw hq (zz_lushr ((zz_lshl (hq 0).toInt64 32 ||| ((hq 1).toInt64 &&& (4294967295 : Int64))) + (((rv rg w 21).toInt64 &&& (4294967295 : Int64)) * ((rv rg w 16).toInt64 &&& (4294967295 : Int64)))) 32).toInt32 ((zz_lshl (hq 0).toInt64 32 ||| ((hq 1).toInt64 &&& (4294967295 : Int64))) + (((rv rg w 21).toInt64 &&& (4294967295 : Int64)) * ((rv rg w 16).toInt64 &&& (4294967295 : Int64)))).toInt32, mf, cd, fg, L, O)) (fun dd l1 l2 => (upd (upd dd 1 1) 2 1, l1, l2, bm, upd (upd rr 32 (zz_lushr ((zz_lshl (hq 0).toInt64 32 ||| ((hq 1).toInt64 &&& (4294967295 : Int64))) + (((rv rg w 21).toInt64 &&& (4294967295 : Int64)) * ((rv rg w 16).toInt64 &&& (4294967295 : Int64)))) 32).toInt32) 33 ((zz_lshl (hq 0).toInt64 32 ||| ((hq 1).toInt64 &&& (4294967295 : Int64))) + (((rv rg w 21).toInt64 &&& (4294967295 : Int64)) * ((rv rg w 16).toInt64 &&& (4294967295 : Int64)))).toInt32, kt)) (fun L O P hP => ?_) (fun dd l1 l2 H L O => ⟨oc_0 (q_both H.rel) H.e5 H.e11 H.e12 H.e13, fun Q hQ => ?_⟩) (fun _ _ _ _ => rfl) (fun _ _ _ _ _ hs => ⟨by repeat first | exact hs | apply lo_upd, rfl, rfl, rfl⟩) (by first | exact Or.inr (fun _ _ => rfl) | exact Or.inl (by unfold q_e; decide)) (fun _ _ _ => rfl)
    · unfold wp_Pr_perform
      refine pr_op ?_
      rw [ho]
      repeat first | refine bq_t (by decide) ?_ | refine bq_f (by decide) ?_
      unfold wp_Pr_special2
      refine pr_rs ⟨fI_in w 21, fun a ea => pr_rt ⟨fI_in w 16, fun b eb => pr_fun ?_⟩⟩
      subst ea
      subst eb
      rw [hf]
      repeat first | refine bq_t (by decide) ?_ | refine bq_f (by decide) ?_
      unfold wp_Pr_unsigned
      refine fun x ex y ey => ?_
      subst ex
      subst ey
      unfold wp_Pr_accumulate wp_Hl_known
      refine bq_f hv.1 (bq_f hv.2 (bq_f (by decide) ?_))
      unfold wp_Hl_both
      refine fun x ex y ey => ?_
      subst ex
      subst ey
      exact hl_keep hP
    · unfold wp_Md_operate
      rw [ho]
      repeat first | refine bq_t (by decide) ?_ | refine bq_f (by decide) ?_
      rw [H.e9, hf]
      repeat first | refine bq_t (by decide) ?_ | refine bq_f (by decide) ?_
      unfold wj_Md_second_52
      have h1 : dd 1 = hq 2 := H.rel.2.2.1.2.1
      have h2 : dd 2 = hq 3 := H.rel.2.2.2.1.2.1
      rw [h1, h2]
      refine bq_f hv.1 (bq_f hv.2 ⟨by unfold vp_in; decide, fun x ex y ey => ⟨by unfold vp_in; decide, fun z ez t et s es => ?_⟩⟩)
      rw [show (32 : Int32).toNatClampNeg = 32 by decide, H.rel.2.2.1.2.2.2 hv.1] at ex
      rw [show (33 : Int32).toNatClampNeg = 33 by decide, H.rel.2.2.2.1.2.2.2 hv.2] at ez
      subst ex
      subst ez
      subst ey
      subst et
      subst es
      repeat first | refine bq_t (by decide) ?_ | refine bq_f (by decide) ?_
      first | refine md_rs H.e9 H.rel (fun x ex => md_rt H.e9 H.rel (fun y ey => ?_)) | (unfold wp_Md_product; refine bq_t rfl (md_rs H.e9 H.rel (fun x ex => md_rt H.e9 H.rel (fun y ey => ?_))))
      subst ex
      subst ey
      repeat first | refine bq_t (by decide) ?_ | refine bq_f (by decide) ?_
      refine md_both ?_
      rw [← hi_eq]
      exact hQ
  · refine pfx_mk H 8 (fun L O => (g, rg, hq, mf, cd, fg, L, O)) (fun dd l1 l2 => (upd dd 5 8, l1, l2, bm, rr, kt)) (fun L O P hP => ?_) (fun dd l1 l2 H L O => ⟨oc_end (by unfold q_e; simp) H.rel H.nxt rfl (fun j _ h => pk_un h), fun Q hQ => ?_⟩) (fun _ _ _ _ => rfl) (fun _ _ _ _ _ hs => ⟨by repeat first | exact hs | apply lo_upd, rfl, rfl, rfl⟩) (by first | exact Or.inr (fun _ _ => rfl) | exact Or.inl (by unfold q_e; decide)) (fun _ _ _ => rfl)
    · unfold wp_Pr_perform
      refine pr_op ?_
      rw [ho]
      repeat first | refine bq_t (by decide) ?_ | refine bq_f (by decide) ?_
      unfold wp_Pr_special2
      refine pr_rs ⟨fI_in w 21, fun a ea => pr_rt ⟨fI_in w 16, fun b eb => pr_fun ?_⟩⟩
      subst ea
      subst eb
      rw [hf]
      repeat first | refine bq_t (by decide) ?_ | refine bq_f (by decide) ?_
      unfold wp_Pr_unsigned
      refine fun x ex y ey => ?_
      subst ex
      subst ey
      unfold wp_Pr_accumulate wp_Hl_known
      refine ⟨fun c => bq_t rfl hP, fun c => ⟨fun d => bq_t rfl hP, fun d => absurd ⟨c, d⟩ hv⟩⟩
    · unfold wp_Md_operate
      rw [ho]
      repeat first | refine bq_t (by decide) ?_ | refine bq_f (by decide) ?_
      rw [H.e9, hf]
      repeat first | refine bq_t (by decide) ?_ | refine bq_f (by decide) ?_
      unfold wj_Md_second_52
      have h1 : dd 1 = hq 2 := H.rel.2.2.1.2.1
      have h2 : dd 2 = hq 3 := H.rel.2.2.2.1.2.1
      rw [h1, h2]
      exact ⟨fun c => md_ends H.e5 hQ, fun c => ⟨fun d => md_ends H.e5 hQ, fun d => absurd ⟨c, d⟩ hv⟩⟩

theorem i_msub (H : pre mn g rg hq mf cd fg w dd bm rr kt) (ho : zz_ushr w 26 = 28) (hf : w &&& 63 = 4) : pfx ms mn g rg hq mf cd fg w dd bm rr kt := by
  by_cases hv : ¬ hq 2 = 0 ∧ ¬ hq 3 = 0
  · refine pfx_mk H 0 (fun L O => (g, rg, hlw hq (zz_lushr ((zz_lshl (hq 0).toInt64 32 ||| ((hq 1).toInt64 &&& (4294967295 : Int64))) - ((rv rg w 21).toInt64 * (rv rg w 16).toInt64)) 32).toInt32 ((zz_lshl (hq 0).toInt64 32 ||| ((hq 1).toInt64 &&& (4294967295 : Int64))) - ((rv rg w 21).toInt64 * (rv rg w 16).toInt64)).toInt32, mf, cd, fg, L, O)) (fun dd l1 l2 => (upd (upd dd 1 1) 2 1, l1, l2, bm, upd (upd rr 32 (zz_lushr ((zz_lshl (hq 0).toInt64 32 ||| ((hq 1).toInt64 &&& (4294967295 : Int64))) - ((rv rg w 21).toInt64 * (rv rg w 16).toInt64)) 32).toInt32) 33 ((zz_lshl (hq 0).toInt64 32 ||| ((hq 1).toInt64 &&& (4294967295 : Int64))) - ((rv rg w 21).toInt64 * (rv rg w 16).toInt64)).toInt32, kt)) (fun L O P hP => ?_) (fun dd l1 l2 H L O => ⟨oc_0 (q_both H.rel) H.e5 H.e11 H.e12 H.e13, fun Q hQ => ?_⟩) (fun _ _ _ _ => rfl) (fun _ _ _ _ _ hs => ⟨by repeat first | exact hs | apply lo_upd, rfl, rfl, rfl⟩) (by first | exact Or.inr (fun _ _ => rfl) | exact Or.inl (by unfold q_e; decide)) (fun _ _ _ => rfl)
    · unfold wp_Pr_perform
      refine pr_op ?_
      rw [ho]
      repeat first | refine bq_t (by decide) ?_ | refine bq_f (by decide) ?_
      unfold wp_Pr_special2
      refine pr_rs ⟨fI_in w 21, fun a ea => pr_rt ⟨fI_in w 16, fun b eb => pr_fun ?_⟩⟩
      subst ea
      subst eb
      rw [hf]
      repeat first | refine bq_t (by decide) ?_ | refine bq_f (by decide) ?_
      unfold wp_Pr_accumulate wp_Hl_known
      refine bq_f hv.1 (bq_f hv.2 (bq_f (by decide) ?_))
      unfold wp_Hl_both
      refine fun x ex y ey => ?_
      subst ex
      subst ey
      rw [← Int64.sub_eq_add_neg]
      exact hl_keep hP
    · unfold wp_Md_operate
      rw [ho]
      repeat first | refine bq_t (by decide) ?_ | refine bq_f (by decide) ?_
      rw [H.e9, hf]
      repeat first | refine bq_t (by decide) ?_ | refine bq_f (by decide) ?_
      unfold wj_Md_second_52
      have h1 : dd 1 = hq 2 := H.rel.2.2.1.2.1
      have h2 : dd 2 = hq 3 := H.rel.2.2.2.1.2.1
      rw [h1, h2]
      refine bq_f hv.1 (bq_f hv.2 ⟨by unfold vp_in; decide, fun x ex y ey => ⟨by unfold vp_in; decide, fun z ez t et s es => ?_⟩⟩)
      rw [show (32 : Int32).toNatClampNeg = 32 by decide, H.rel.2.2.1.2.2.2 hv.1] at ex
      rw [show (33 : Int32).toNatClampNeg = 33 by decide, H.rel.2.2.2.1.2.2.2 hv.2] at ez
      subst ex
      subst ez
      subst ey
      subst et
      subst es
      repeat first | refine bq_t (by decide) ?_ | refine bq_f (by decide) ?_
      first | refine md_rs H.e9 H.rel (md_rt H.e9 H.rel ?_) | (unfold wp_Md_product; refine bq_f (by decide) (md_rs H.e9 H.rel (md_rt H.e9 H.rel ?_)))
      repeat first | refine bq_t (by decide) ?_ | refine bq_f (by decide) ?_
      refine md_both ?_
      rw [← hi_eq]
      exact hQ
  · refine pfx_mk H 8 (fun L O => (g, rg, hq, mf, cd, fg, L, O)) (fun dd l1 l2 => (upd dd 5 8, l1, l2, bm, rr, kt)) (fun L O P hP => ?_) (fun dd l1 l2 H L O => ⟨oc_end (by unfold q_e; simp) H.rel H.nxt rfl (fun j _ h => pk_un h), fun Q hQ => ?_⟩) (fun _ _ _ _ => rfl) (fun _ _ _ _ _ hs => ⟨by repeat first | exact hs | apply lo_upd, rfl, rfl, rfl⟩) (by first | exact Or.inr (fun _ _ => rfl) | exact Or.inl (by unfold q_e; decide)) (fun _ _ _ => rfl)
    · unfold wp_Pr_perform
      refine pr_op ?_
      rw [ho]
      repeat first | refine bq_t (by decide) ?_ | refine bq_f (by decide) ?_
      unfold wp_Pr_special2
      refine pr_rs ⟨fI_in w 21, fun a ea => pr_rt ⟨fI_in w 16, fun b eb => pr_fun ?_⟩⟩
      subst ea
      subst eb
      rw [hf]
      repeat first | refine bq_t (by decide) ?_ | refine bq_f (by decide) ?_
      unfold wp_Pr_accumulate wp_Hl_known
      refine ⟨fun c => bq_t rfl hP, fun c => ⟨fun d => bq_t rfl hP, fun d => absurd ⟨c, d⟩ hv⟩⟩
    · unfold wp_Md_operate
      rw [ho]
      repeat first | refine bq_t (by decide) ?_ | refine bq_f (by decide) ?_
      rw [H.e9, hf]
      repeat first | refine bq_t (by decide) ?_ | refine bq_f (by decide) ?_
      unfold wj_Md_second_52
      have h1 : dd 1 = hq 2 := H.rel.2.2.1.2.1
      have h2 : dd 2 = hq 3 := H.rel.2.2.2.1.2.1
      rw [h1, h2]
      exact ⟨fun c => md_ends H.e5 hQ, fun c => ⟨fun d => md_ends H.e5 hQ, fun d => absurd ⟨c, d⟩ hv⟩⟩

theorem i_msubu (H : pre mn g rg hq mf cd fg w dd bm rr kt) (ho : zz_ushr w 26 = 28) (hf : w &&& 63 = 5) : pfx ms mn g rg hq mf cd fg w dd bm rr kt := by
  by_cases hv : ¬ hq 2 = 0 ∧ ¬ hq 3 = 0
  · refine pfx_mk H 0 (fun L O => (g, rg, hlw hq (zz_lushr ((zz_lshl (hq 0).toInt64 32 ||| ((hq 1).toInt64 &&& (4294967295 : Int64))) - (((rv rg w 21).toInt64 &&& (4294967295 : Int64)) * ((rv rg w 16).toInt64 &&& (4294967295 : Int64)))) 32).toInt32 ((zz_lshl (hq 0).toInt64 32 ||| ((hq 1).toInt64 &&& (4294967295 : Int64))) - (((rv rg w 21).toInt64 &&& (4294967295 : Int64)) * ((rv rg w 16).toInt64 &&& (4294967295 : Int64)))).toInt32, mf, cd, fg, L, O)) (fun dd l1 l2 => (upd (upd dd 1 1) 2 1, l1, l2, bm, upd (upd rr 32 (zz_lushr ((zz_lshl (hq 0).toInt64 32 ||| ((hq 1).toInt64 &&& (4294967295 : Int64))) - (((rv rg w 21).toInt64 &&& (4294967295 : Int64)) * ((rv rg w 16).toInt64 &&& (4294967295 : Int64)))) 32).toInt32) 33 ((zz_lshl (hq 0).toInt64 32 ||| ((hq 1).toInt64 &&& (4294967295 : Int64))) - (((rv rg w 21).toInt64 &&& (4294967295 : Int64)) * ((rv rg w 16).toInt64 &&& (4294967295 : Int64)))).toInt32, kt)) (fun L O P hP => ?_) (fun dd l1 l2 H L O => ⟨oc_0 (q_both H.rel) H.e5 H.e11 H.e12 H.e13, fun Q hQ => ?_⟩) (fun _ _ _ _ => rfl) (fun _ _ _ _ _ hs => ⟨by repeat first | exact hs | apply lo_upd, rfl, rfl, rfl⟩) (by first | exact Or.inr (fun _ _ => rfl) | exact Or.inl (by unfold q_e; decide)) (fun _ _ _ => rfl)
    · unfold wp_Pr_perform
      refine pr_op ?_
      rw [ho]
      repeat first | refine bq_t (by decide) ?_ | refine bq_f (by decide) ?_
      unfold wp_Pr_special2
      refine pr_rs ⟨fI_in w 21, fun a ea => pr_rt ⟨fI_in w 16, fun b eb => pr_fun ?_⟩⟩
      subst ea
      subst eb
      rw [hf]
      repeat first | refine bq_t (by decide) ?_ | refine bq_f (by decide) ?_
      unfold wp_Pr_unsigned
      refine fun x ex y ey => ?_
      subst ex
      subst ey
      unfold wp_Pr_accumulate wp_Hl_known
      refine bq_f hv.1 (bq_f hv.2 (bq_f (by decide) ?_))
      unfold wp_Hl_both
      refine fun x ex y ey => ?_
      subst ex
      subst ey
      rw [← Int64.sub_eq_add_neg]
      exact hl_keep hP
    · unfold wp_Md_operate
      rw [ho]
      repeat first | refine bq_t (by decide) ?_ | refine bq_f (by decide) ?_
      rw [H.e9, hf]
      repeat first | refine bq_t (by decide) ?_ | refine bq_f (by decide) ?_
      unfold wj_Md_second_52
      have h1 : dd 1 = hq 2 := H.rel.2.2.1.2.1
      have h2 : dd 2 = hq 3 := H.rel.2.2.2.1.2.1
      rw [h1, h2]
      refine bq_f hv.1 (bq_f hv.2 ⟨by unfold vp_in; decide, fun x ex y ey => ⟨by unfold vp_in; decide, fun z ez t et s es => ?_⟩⟩)
      rw [show (32 : Int32).toNatClampNeg = 32 by decide, H.rel.2.2.1.2.2.2 hv.1] at ex
      rw [show (33 : Int32).toNatClampNeg = 33 by decide, H.rel.2.2.2.1.2.2.2 hv.2] at ez
      subst ex
      subst ez
      subst ey
      subst et
      subst es
      repeat first | refine bq_t (by decide) ?_ | refine bq_f (by decide) ?_
      first | refine md_rs H.e9 H.rel (fun x ex => md_rt H.e9 H.rel (fun y ey => ?_)) | (unfold wp_Md_product; refine bq_t rfl (md_rs H.e9 H.rel (fun x ex => md_rt H.e9 H.rel (fun y ey => ?_))))
      subst ex
      subst ey
      repeat first | refine bq_t (by decide) ?_ | refine bq_f (by decide) ?_
      refine md_both ?_
      rw [← hi_eq]
      exact hQ
  · refine pfx_mk H 8 (fun L O => (g, rg, hq, mf, cd, fg, L, O)) (fun dd l1 l2 => (upd dd 5 8, l1, l2, bm, rr, kt)) (fun L O P hP => ?_) (fun dd l1 l2 H L O => ⟨oc_end (by unfold q_e; simp) H.rel H.nxt rfl (fun j _ h => pk_un h), fun Q hQ => ?_⟩) (fun _ _ _ _ => rfl) (fun _ _ _ _ _ hs => ⟨by repeat first | exact hs | apply lo_upd, rfl, rfl, rfl⟩) (by first | exact Or.inr (fun _ _ => rfl) | exact Or.inl (by unfold q_e; decide)) (fun _ _ _ => rfl)
    · unfold wp_Pr_perform
      refine pr_op ?_
      rw [ho]
      repeat first | refine bq_t (by decide) ?_ | refine bq_f (by decide) ?_
      unfold wp_Pr_special2
      refine pr_rs ⟨fI_in w 21, fun a ea => pr_rt ⟨fI_in w 16, fun b eb => pr_fun ?_⟩⟩
      subst ea
      subst eb
      rw [hf]
      repeat first | refine bq_t (by decide) ?_ | refine bq_f (by decide) ?_
      unfold wp_Pr_unsigned
      refine fun x ex y ey => ?_
      subst ex
      subst ey
      unfold wp_Pr_accumulate wp_Hl_known
      refine ⟨fun c => bq_t rfl hP, fun c => ⟨fun d => bq_t rfl hP, fun d => absurd ⟨c, d⟩ hv⟩⟩
    · unfold wp_Md_operate
      rw [ho]
      repeat first | refine bq_t (by decide) ?_ | refine bq_f (by decide) ?_
      rw [H.e9, hf]
      repeat first | refine bq_t (by decide) ?_ | refine bq_f (by decide) ?_
      unfold wj_Md_second_52
      have h1 : dd 1 = hq 2 := H.rel.2.2.1.2.1
      have h2 : dd 2 = hq 3 := H.rel.2.2.2.1.2.1
      rw [h1, h2]
      exact ⟨fun c => md_ends H.e5 hQ, fun c => ⟨fun d => md_ends H.e5 hQ, fun d => absurd ⟨c, d⟩ hv⟩⟩

theorem i_z3 (H : pre mn g rg hq mf cd fg w dd bm rr kt) (ho : zz_ushr w 26 = 28) (hf : w &&& 63 = 3) : pfx ms mn g rg hq mf cd fg w dd bm rr kt := by
  refine pfx_mk H 3 (fun L O => (g, rg, hq, mf, cd, fg, L, O)) (fun dd l1 l2 => (upd dd 5 3, l1, l2, bm, rr, kt)) (fun L O P hP => ?_) (fun dd l1 l2 H L O => ⟨oc_end (by unfold q_e; simp) H.rel H.nxt rfl (fun j _ h => pk_un h), fun Q hQ => ?_⟩) (fun _ _ _ _ => rfl) (fun _ _ _ _ _ hs => ⟨by repeat first | exact hs | apply lo_upd, rfl, rfl, rfl⟩) (by first | exact Or.inr (fun _ _ => rfl) | exact Or.inl (by unfold q_e; decide)) (fun _ _ _ => rfl)
  · unfold wp_Pr_perform
    refine pr_op ?_
    rw [ho]
    repeat first | refine bq_t (by decide) ?_ | refine bq_f (by decide) ?_
    unfold wp_Pr_special2
    refine pr_rs ⟨fI_in w 21, fun a ea => pr_rt ⟨fI_in w 16, fun b eb => pr_fun ?_⟩⟩
    subst ea
    subst eb
    rw [hf]
    repeat first | refine bq_t (by decide) ?_ | refine bq_f (by decide) ?_
    exact hP
  · unfold wp_Md_operate
    rw [ho]
    repeat first | refine bq_t (by decide) ?_ | refine bq_f (by decide) ?_
    rw [H.e9, hf]
    repeat first | refine bq_t (by decide) ?_ | refine bq_f (by decide) ?_
    exact md_ends H.e5 hQ

theorem i_z6 (H : pre mn g rg hq mf cd fg w dd bm rr kt) (ho : zz_ushr w 26 = 28) (hf : w &&& 63 = 6) : pfx ms mn g rg hq mf cd fg w dd bm rr kt := by
  refine pfx_mk H 3 (fun L O => (g, rg, hq, mf, cd, fg, L, O)) (fun dd l1 l2 => (upd dd 5 3, l1, l2, bm, rr, kt)) (fun L O P hP => ?_) (fun dd l1 l2 H L O => ⟨oc_end (by unfold q_e; simp) H.rel H.nxt rfl (fun j _ h => pk_un h), fun Q hQ => ?_⟩) (fun _ _ _ _ => rfl) (fun _ _ _ _ _ hs => ⟨by repeat first | exact hs | apply lo_upd, rfl, rfl, rfl⟩) (by first | exact Or.inr (fun _ _ => rfl) | exact Or.inl (by unfold q_e; decide)) (fun _ _ _ => rfl)
  · unfold wp_Pr_perform
    refine pr_op ?_
    rw [ho]
    repeat first | refine bq_t (by decide) ?_ | refine bq_f (by decide) ?_
    unfold wp_Pr_special2
    refine pr_rs ⟨fI_in w 21, fun a ea => pr_rt ⟨fI_in w 16, fun b eb => pr_fun ?_⟩⟩
    subst ea
    subst eb
    rw [hf]
    repeat first | refine bq_t (by decide) ?_ | refine bq_f (by decide) ?_
    exact hP
  · unfold wp_Md_operate
    rw [ho]
    repeat first | refine bq_t (by decide) ?_ | refine bq_f (by decide) ?_
    rw [H.e9, hf]
    repeat first | refine bq_t (by decide) ?_ | refine bq_f (by decide) ?_
    exact md_ends H.e5 hQ

theorem i_z7 (H : pre mn g rg hq mf cd fg w dd bm rr kt) (ho : zz_ushr w 26 = 28) (hf : w &&& 63 = 7) : pfx ms mn g rg hq mf cd fg w dd bm rr kt := by
  refine pfx_mk H 3 (fun L O => (g, rg, hq, mf, cd, fg, L, O)) (fun dd l1 l2 => (upd dd 5 3, l1, l2, bm, rr, kt)) (fun L O P hP => ?_) (fun dd l1 l2 H L O => ⟨oc_end (by unfold q_e; simp) H.rel H.nxt rfl (fun j _ h => pk_un h), fun Q hQ => ?_⟩) (fun _ _ _ _ => rfl) (fun _ _ _ _ _ hs => ⟨by repeat first | exact hs | apply lo_upd, rfl, rfl, rfl⟩) (by first | exact Or.inr (fun _ _ => rfl) | exact Or.inl (by unfold q_e; decide)) (fun _ _ _ => rfl)
  · unfold wp_Pr_perform
    refine pr_op ?_
    rw [ho]
    repeat first | refine bq_t (by decide) ?_ | refine bq_f (by decide) ?_
    unfold wp_Pr_special2
    refine pr_rs ⟨fI_in w 21, fun a ea => pr_rt ⟨fI_in w 16, fun b eb => pr_fun ?_⟩⟩
    subst ea
    subst eb
    rw [hf]
    repeat first | refine bq_t (by decide) ?_ | refine bq_f (by decide) ?_
    exact hP
  · unfold wp_Md_operate
    rw [ho]
    repeat first | refine bq_t (by decide) ?_ | refine bq_f (by decide) ?_
    rw [H.e9, hf]
    repeat first | refine bq_t (by decide) ?_ | refine bq_f (by decide) ?_
    exact md_ends H.e5 hQ

theorem i_z8 (H : pre mn g rg hq mf cd fg w dd bm rr kt) (ho : zz_ushr w 26 = 28) (hf : w &&& 63 = 8) : pfx ms mn g rg hq mf cd fg w dd bm rr kt := by
  refine pfx_mk H 3 (fun L O => (g, rg, hq, mf, cd, fg, L, O)) (fun dd l1 l2 => (upd dd 5 3, l1, l2, bm, rr, kt)) (fun L O P hP => ?_) (fun dd l1 l2 H L O => ⟨oc_end (by unfold q_e; simp) H.rel H.nxt rfl (fun j _ h => pk_un h), fun Q hQ => ?_⟩) (fun _ _ _ _ => rfl) (fun _ _ _ _ _ hs => ⟨by repeat first | exact hs | apply lo_upd, rfl, rfl, rfl⟩) (by first | exact Or.inr (fun _ _ => rfl) | exact Or.inl (by unfold q_e; decide)) (fun _ _ _ => rfl)
  · unfold wp_Pr_perform
    refine pr_op ?_
    rw [ho]
    repeat first | refine bq_t (by decide) ?_ | refine bq_f (by decide) ?_
    unfold wp_Pr_special2
    refine pr_rs ⟨fI_in w 21, fun a ea => pr_rt ⟨fI_in w 16, fun b eb => pr_fun ?_⟩⟩
    subst ea
    subst eb
    rw [hf]
    repeat first | refine bq_t (by decide) ?_ | refine bq_f (by decide) ?_
    exact hP
  · unfold wp_Md_operate
    rw [ho]
    repeat first | refine bq_t (by decide) ?_ | refine bq_f (by decide) ?_
    rw [H.e9, hf]
    repeat first | refine bq_t (by decide) ?_ | refine bq_f (by decide) ?_
    exact md_ends H.e5 hQ

theorem i_z9 (H : pre mn g rg hq mf cd fg w dd bm rr kt) (ho : zz_ushr w 26 = 28) (hf : w &&& 63 = 9) : pfx ms mn g rg hq mf cd fg w dd bm rr kt := by
  refine pfx_mk H 3 (fun L O => (g, rg, hq, mf, cd, fg, L, O)) (fun dd l1 l2 => (upd dd 5 3, l1, l2, bm, rr, kt)) (fun L O P hP => ?_) (fun dd l1 l2 H L O => ⟨oc_end (by unfold q_e; simp) H.rel H.nxt rfl (fun j _ h => pk_un h), fun Q hQ => ?_⟩) (fun _ _ _ _ => rfl) (fun _ _ _ _ _ hs => ⟨by repeat first | exact hs | apply lo_upd, rfl, rfl, rfl⟩) (by first | exact Or.inr (fun _ _ => rfl) | exact Or.inl (by unfold q_e; decide)) (fun _ _ _ => rfl)
  · unfold wp_Pr_perform
    refine pr_op ?_
    rw [ho]
    repeat first | refine bq_t (by decide) ?_ | refine bq_f (by decide) ?_
    unfold wp_Pr_special2
    refine pr_rs ⟨fI_in w 21, fun a ea => pr_rt ⟨fI_in w 16, fun b eb => pr_fun ?_⟩⟩
    subst ea
    subst eb
    rw [hf]
    repeat first | refine bq_t (by decide) ?_ | refine bq_f (by decide) ?_
    exact hP
  · unfold wp_Md_operate
    rw [ho]
    repeat first | refine bq_t (by decide) ?_ | refine bq_f (by decide) ?_
    rw [H.e9, hf]
    repeat first | refine bq_t (by decide) ?_ | refine bq_f (by decide) ?_
    exact md_ends H.e5 hQ

theorem i_z10 (H : pre mn g rg hq mf cd fg w dd bm rr kt) (ho : zz_ushr w 26 = 28) (hf : w &&& 63 = 10) : pfx ms mn g rg hq mf cd fg w dd bm rr kt := by
  refine pfx_mk H 3 (fun L O => (g, rg, hq, mf, cd, fg, L, O)) (fun dd l1 l2 => (upd dd 5 3, l1, l2, bm, rr, kt)) (fun L O P hP => ?_) (fun dd l1 l2 H L O => ⟨oc_end (by unfold q_e; simp) H.rel H.nxt rfl (fun j _ h => pk_un h), fun Q hQ => ?_⟩) (fun _ _ _ _ => rfl) (fun _ _ _ _ _ hs => ⟨by repeat first | exact hs | apply lo_upd, rfl, rfl, rfl⟩) (by first | exact Or.inr (fun _ _ => rfl) | exact Or.inl (by unfold q_e; decide)) (fun _ _ _ => rfl)
  · unfold wp_Pr_perform
    refine pr_op ?_
    rw [ho]
    repeat first | refine bq_t (by decide) ?_ | refine bq_f (by decide) ?_
    unfold wp_Pr_special2
    refine pr_rs ⟨fI_in w 21, fun a ea => pr_rt ⟨fI_in w 16, fun b eb => pr_fun ?_⟩⟩
    subst ea
    subst eb
    rw [hf]
    repeat first | refine bq_t (by decide) ?_ | refine bq_f (by decide) ?_
    exact hP
  · unfold wp_Md_operate
    rw [ho]
    repeat first | refine bq_t (by decide) ?_ | refine bq_f (by decide) ?_
    rw [H.e9, hf]
    repeat first | refine bq_t (by decide) ?_ | refine bq_f (by decide) ?_
    exact md_ends H.e5 hQ

theorem i_z11 (H : pre mn g rg hq mf cd fg w dd bm rr kt) (ho : zz_ushr w 26 = 28) (hf : w &&& 63 = 11) : pfx ms mn g rg hq mf cd fg w dd bm rr kt := by
  refine pfx_mk H 3 (fun L O => (g, rg, hq, mf, cd, fg, L, O)) (fun dd l1 l2 => (upd dd 5 3, l1, l2, bm, rr, kt)) (fun L O P hP => ?_) (fun dd l1 l2 H L O => ⟨oc_end (by unfold q_e; simp) H.rel H.nxt rfl (fun j _ h => pk_un h), fun Q hQ => ?_⟩) (fun _ _ _ _ => rfl) (fun _ _ _ _ _ hs => ⟨by repeat first | exact hs | apply lo_upd, rfl, rfl, rfl⟩) (by first | exact Or.inr (fun _ _ => rfl) | exact Or.inl (by unfold q_e; decide)) (fun _ _ _ => rfl)
  · unfold wp_Pr_perform
    refine pr_op ?_
    rw [ho]
    repeat first | refine bq_t (by decide) ?_ | refine bq_f (by decide) ?_
    unfold wp_Pr_special2
    refine pr_rs ⟨fI_in w 21, fun a ea => pr_rt ⟨fI_in w 16, fun b eb => pr_fun ?_⟩⟩
    subst ea
    subst eb
    rw [hf]
    repeat first | refine bq_t (by decide) ?_ | refine bq_f (by decide) ?_
    exact hP
  · unfold wp_Md_operate
    rw [ho]
    repeat first | refine bq_t (by decide) ?_ | refine bq_f (by decide) ?_
    rw [H.e9, hf]
    repeat first | refine bq_t (by decide) ?_ | refine bq_f (by decide) ?_
    exact md_ends H.e5 hQ

theorem i_z12 (H : pre mn g rg hq mf cd fg w dd bm rr kt) (ho : zz_ushr w 26 = 28) (hf : w &&& 63 = 12) : pfx ms mn g rg hq mf cd fg w dd bm rr kt := by
  refine pfx_mk H 3 (fun L O => (g, rg, hq, mf, cd, fg, L, O)) (fun dd l1 l2 => (upd dd 5 3, l1, l2, bm, rr, kt)) (fun L O P hP => ?_) (fun dd l1 l2 H L O => ⟨oc_end (by unfold q_e; simp) H.rel H.nxt rfl (fun j _ h => pk_un h), fun Q hQ => ?_⟩) (fun _ _ _ _ => rfl) (fun _ _ _ _ _ hs => ⟨by repeat first | exact hs | apply lo_upd, rfl, rfl, rfl⟩) (by first | exact Or.inr (fun _ _ => rfl) | exact Or.inl (by unfold q_e; decide)) (fun _ _ _ => rfl)
  · unfold wp_Pr_perform
    refine pr_op ?_
    rw [ho]
    repeat first | refine bq_t (by decide) ?_ | refine bq_f (by decide) ?_
    unfold wp_Pr_special2
    refine pr_rs ⟨fI_in w 21, fun a ea => pr_rt ⟨fI_in w 16, fun b eb => pr_fun ?_⟩⟩
    subst ea
    subst eb
    rw [hf]
    repeat first | refine bq_t (by decide) ?_ | refine bq_f (by decide) ?_
    exact hP
  · unfold wp_Md_operate
    rw [ho]
    repeat first | refine bq_t (by decide) ?_ | refine bq_f (by decide) ?_
    rw [H.e9, hf]
    repeat first | refine bq_t (by decide) ?_ | refine bq_f (by decide) ?_
    exact md_ends H.e5 hQ

theorem i_z13 (H : pre mn g rg hq mf cd fg w dd bm rr kt) (ho : zz_ushr w 26 = 28) (hf : w &&& 63 = 13) : pfx ms mn g rg hq mf cd fg w dd bm rr kt := by
  refine pfx_mk H 3 (fun L O => (g, rg, hq, mf, cd, fg, L, O)) (fun dd l1 l2 => (upd dd 5 3, l1, l2, bm, rr, kt)) (fun L O P hP => ?_) (fun dd l1 l2 H L O => ⟨oc_end (by unfold q_e; simp) H.rel H.nxt rfl (fun j _ h => pk_un h), fun Q hQ => ?_⟩) (fun _ _ _ _ => rfl) (fun _ _ _ _ _ hs => ⟨by repeat first | exact hs | apply lo_upd, rfl, rfl, rfl⟩) (by first | exact Or.inr (fun _ _ => rfl) | exact Or.inl (by unfold q_e; decide)) (fun _ _ _ => rfl)
  · unfold wp_Pr_perform
    refine pr_op ?_
    rw [ho]
    repeat first | refine bq_t (by decide) ?_ | refine bq_f (by decide) ?_
    unfold wp_Pr_special2
    refine pr_rs ⟨fI_in w 21, fun a ea => pr_rt ⟨fI_in w 16, fun b eb => pr_fun ?_⟩⟩
    subst ea
    subst eb
    rw [hf]
    repeat first | refine bq_t (by decide) ?_ | refine bq_f (by decide) ?_
    exact hP
  · unfold wp_Md_operate
    rw [ho]
    repeat first | refine bq_t (by decide) ?_ | refine bq_f (by decide) ?_
    rw [H.e9, hf]
    repeat first | refine bq_t (by decide) ?_ | refine bq_f (by decide) ?_
    exact md_ends H.e5 hQ

theorem i_z14 (H : pre mn g rg hq mf cd fg w dd bm rr kt) (ho : zz_ushr w 26 = 28) (hf : w &&& 63 = 14) : pfx ms mn g rg hq mf cd fg w dd bm rr kt := by
  refine pfx_mk H 3 (fun L O => (g, rg, hq, mf, cd, fg, L, O)) (fun dd l1 l2 => (upd dd 5 3, l1, l2, bm, rr, kt)) (fun L O P hP => ?_) (fun dd l1 l2 H L O => ⟨oc_end (by unfold q_e; simp) H.rel H.nxt rfl (fun j _ h => pk_un h), fun Q hQ => ?_⟩) (fun _ _ _ _ => rfl) (fun _ _ _ _ _ hs => ⟨by repeat first | exact hs | apply lo_upd, rfl, rfl, rfl⟩) (by first | exact Or.inr (fun _ _ => rfl) | exact Or.inl (by unfold q_e; decide)) (fun _ _ _ => rfl)
  · unfold wp_Pr_perform
    refine pr_op ?_
    rw [ho]
    repeat first | refine bq_t (by decide) ?_ | refine bq_f (by decide) ?_
    unfold wp_Pr_special2
    refine pr_rs ⟨fI_in w 21, fun a ea => pr_rt ⟨fI_in w 16, fun b eb => pr_fun ?_⟩⟩
    subst ea
    subst eb
    rw [hf]
    repeat first | refine bq_t (by decide) ?_ | refine bq_f (by decide) ?_
    exact hP
  · unfold wp_Md_operate
    rw [ho]
    repeat first | refine bq_t (by decide) ?_ | refine bq_f (by decide) ?_
    rw [H.e9, hf]
    repeat first | refine bq_t (by decide) ?_ | refine bq_f (by decide) ?_
    exact md_ends H.e5 hQ

theorem i_z15 (H : pre mn g rg hq mf cd fg w dd bm rr kt) (ho : zz_ushr w 26 = 28) (hf : w &&& 63 = 15) : pfx ms mn g rg hq mf cd fg w dd bm rr kt := by
  refine pfx_mk H 3 (fun L O => (g, rg, hq, mf, cd, fg, L, O)) (fun dd l1 l2 => (upd dd 5 3, l1, l2, bm, rr, kt)) (fun L O P hP => ?_) (fun dd l1 l2 H L O => ⟨oc_end (by unfold q_e; simp) H.rel H.nxt rfl (fun j _ h => pk_un h), fun Q hQ => ?_⟩) (fun _ _ _ _ => rfl) (fun _ _ _ _ _ hs => ⟨by repeat first | exact hs | apply lo_upd, rfl, rfl, rfl⟩) (by first | exact Or.inr (fun _ _ => rfl) | exact Or.inl (by unfold q_e; decide)) (fun _ _ _ => rfl)
  · unfold wp_Pr_perform
    refine pr_op ?_
    rw [ho]
    repeat first | refine bq_t (by decide) ?_ | refine bq_f (by decide) ?_
    unfold wp_Pr_special2
    refine pr_rs ⟨fI_in w 21, fun a ea => pr_rt ⟨fI_in w 16, fun b eb => pr_fun ?_⟩⟩
    subst ea
    subst eb
    rw [hf]
    repeat first | refine bq_t (by decide) ?_ | refine bq_f (by decide) ?_
    exact hP
  · unfold wp_Md_operate
    rw [ho]
    repeat first | refine bq_t (by decide) ?_ | refine bq_f (by decide) ?_
    rw [H.e9, hf]
    repeat first | refine bq_t (by decide) ?_ | refine bq_f (by decide) ?_
    exact md_ends H.e5 hQ

theorem i_z16 (H : pre mn g rg hq mf cd fg w dd bm rr kt) (ho : zz_ushr w 26 = 28) (hf : w &&& 63 = 16) : pfx ms mn g rg hq mf cd fg w dd bm rr kt := by
  refine pfx_mk H 3 (fun L O => (g, rg, hq, mf, cd, fg, L, O)) (fun dd l1 l2 => (upd dd 5 3, l1, l2, bm, rr, kt)) (fun L O P hP => ?_) (fun dd l1 l2 H L O => ⟨oc_end (by unfold q_e; simp) H.rel H.nxt rfl (fun j _ h => pk_un h), fun Q hQ => ?_⟩) (fun _ _ _ _ => rfl) (fun _ _ _ _ _ hs => ⟨by repeat first | exact hs | apply lo_upd, rfl, rfl, rfl⟩) (by first | exact Or.inr (fun _ _ => rfl) | exact Or.inl (by unfold q_e; decide)) (fun _ _ _ => rfl)
  · unfold wp_Pr_perform
    refine pr_op ?_
    rw [ho]
    repeat first | refine bq_t (by decide) ?_ | refine bq_f (by decide) ?_
    unfold wp_Pr_special2
    refine pr_rs ⟨fI_in w 21, fun a ea => pr_rt ⟨fI_in w 16, fun b eb => pr_fun ?_⟩⟩
    subst ea
    subst eb
    rw [hf]
    repeat first | refine bq_t (by decide) ?_ | refine bq_f (by decide) ?_
    exact hP
  · unfold wp_Md_operate
    rw [ho]
    repeat first | refine bq_t (by decide) ?_ | refine bq_f (by decide) ?_
    rw [H.e9, hf]
    repeat first | refine bq_t (by decide) ?_ | refine bq_f (by decide) ?_
    exact md_ends H.e5 hQ

theorem i_z17 (H : pre mn g rg hq mf cd fg w dd bm rr kt) (ho : zz_ushr w 26 = 28) (hf : w &&& 63 = 17) : pfx ms mn g rg hq mf cd fg w dd bm rr kt := by
  refine pfx_mk H 3 (fun L O => (g, rg, hq, mf, cd, fg, L, O)) (fun dd l1 l2 => (upd dd 5 3, l1, l2, bm, rr, kt)) (fun L O P hP => ?_) (fun dd l1 l2 H L O => ⟨oc_end (by unfold q_e; simp) H.rel H.nxt rfl (fun j _ h => pk_un h), fun Q hQ => ?_⟩) (fun _ _ _ _ => rfl) (fun _ _ _ _ _ hs => ⟨by repeat first | exact hs | apply lo_upd, rfl, rfl, rfl⟩) (by first | exact Or.inr (fun _ _ => rfl) | exact Or.inl (by unfold q_e; decide)) (fun _ _ _ => rfl)
  · unfold wp_Pr_perform
    refine pr_op ?_
    rw [ho]
    repeat first | refine bq_t (by decide) ?_ | refine bq_f (by decide) ?_
    unfold wp_Pr_special2
    refine pr_rs ⟨fI_in w 21, fun a ea => pr_rt ⟨fI_in w 16, fun b eb => pr_fun ?_⟩⟩
    subst ea
    subst eb
    rw [hf]
    repeat first | refine bq_t (by decide) ?_ | refine bq_f (by decide) ?_
    exact hP
  · unfold wp_Md_operate
    rw [ho]
    repeat first | refine bq_t (by decide) ?_ | refine bq_f (by decide) ?_
    rw [H.e9, hf]
    repeat first | refine bq_t (by decide) ?_ | refine bq_f (by decide) ?_
    exact md_ends H.e5 hQ

theorem i_z18 (H : pre mn g rg hq mf cd fg w dd bm rr kt) (ho : zz_ushr w 26 = 28) (hf : w &&& 63 = 18) : pfx ms mn g rg hq mf cd fg w dd bm rr kt := by
  refine pfx_mk H 3 (fun L O => (g, rg, hq, mf, cd, fg, L, O)) (fun dd l1 l2 => (upd dd 5 3, l1, l2, bm, rr, kt)) (fun L O P hP => ?_) (fun dd l1 l2 H L O => ⟨oc_end (by unfold q_e; simp) H.rel H.nxt rfl (fun j _ h => pk_un h), fun Q hQ => ?_⟩) (fun _ _ _ _ => rfl) (fun _ _ _ _ _ hs => ⟨by repeat first | exact hs | apply lo_upd, rfl, rfl, rfl⟩) (by first | exact Or.inr (fun _ _ => rfl) | exact Or.inl (by unfold q_e; decide)) (fun _ _ _ => rfl)
  · unfold wp_Pr_perform
    refine pr_op ?_
    rw [ho]
    repeat first | refine bq_t (by decide) ?_ | refine bq_f (by decide) ?_
    unfold wp_Pr_special2
    refine pr_rs ⟨fI_in w 21, fun a ea => pr_rt ⟨fI_in w 16, fun b eb => pr_fun ?_⟩⟩
    subst ea
    subst eb
    rw [hf]
    repeat first | refine bq_t (by decide) ?_ | refine bq_f (by decide) ?_
    exact hP
  · unfold wp_Md_operate
    rw [ho]
    repeat first | refine bq_t (by decide) ?_ | refine bq_f (by decide) ?_
    rw [H.e9, hf]
    repeat first | refine bq_t (by decide) ?_ | refine bq_f (by decide) ?_
    exact md_ends H.e5 hQ

theorem i_z19 (H : pre mn g rg hq mf cd fg w dd bm rr kt) (ho : zz_ushr w 26 = 28) (hf : w &&& 63 = 19) : pfx ms mn g rg hq mf cd fg w dd bm rr kt := by
  refine pfx_mk H 3 (fun L O => (g, rg, hq, mf, cd, fg, L, O)) (fun dd l1 l2 => (upd dd 5 3, l1, l2, bm, rr, kt)) (fun L O P hP => ?_) (fun dd l1 l2 H L O => ⟨oc_end (by unfold q_e; simp) H.rel H.nxt rfl (fun j _ h => pk_un h), fun Q hQ => ?_⟩) (fun _ _ _ _ => rfl) (fun _ _ _ _ _ hs => ⟨by repeat first | exact hs | apply lo_upd, rfl, rfl, rfl⟩) (by first | exact Or.inr (fun _ _ => rfl) | exact Or.inl (by unfold q_e; decide)) (fun _ _ _ => rfl)
  · unfold wp_Pr_perform
    refine pr_op ?_
    rw [ho]
    repeat first | refine bq_t (by decide) ?_ | refine bq_f (by decide) ?_
    unfold wp_Pr_special2
    refine pr_rs ⟨fI_in w 21, fun a ea => pr_rt ⟨fI_in w 16, fun b eb => pr_fun ?_⟩⟩
    subst ea
    subst eb
    rw [hf]
    repeat first | refine bq_t (by decide) ?_ | refine bq_f (by decide) ?_
    exact hP
  · unfold wp_Md_operate
    rw [ho]
    repeat first | refine bq_t (by decide) ?_ | refine bq_f (by decide) ?_
    rw [H.e9, hf]
    repeat first | refine bq_t (by decide) ?_ | refine bq_f (by decide) ?_
    exact md_ends H.e5 hQ

theorem i_z20 (H : pre mn g rg hq mf cd fg w dd bm rr kt) (ho : zz_ushr w 26 = 28) (hf : w &&& 63 = 20) : pfx ms mn g rg hq mf cd fg w dd bm rr kt := by
  refine pfx_mk H 3 (fun L O => (g, rg, hq, mf, cd, fg, L, O)) (fun dd l1 l2 => (upd dd 5 3, l1, l2, bm, rr, kt)) (fun L O P hP => ?_) (fun dd l1 l2 H L O => ⟨oc_end (by unfold q_e; simp) H.rel H.nxt rfl (fun j _ h => pk_un h), fun Q hQ => ?_⟩) (fun _ _ _ _ => rfl) (fun _ _ _ _ _ hs => ⟨by repeat first | exact hs | apply lo_upd, rfl, rfl, rfl⟩) (by first | exact Or.inr (fun _ _ => rfl) | exact Or.inl (by unfold q_e; decide)) (fun _ _ _ => rfl)
  · unfold wp_Pr_perform
    refine pr_op ?_
    rw [ho]
    repeat first | refine bq_t (by decide) ?_ | refine bq_f (by decide) ?_
    unfold wp_Pr_special2
    refine pr_rs ⟨fI_in w 21, fun a ea => pr_rt ⟨fI_in w 16, fun b eb => pr_fun ?_⟩⟩
    subst ea
    subst eb
    rw [hf]
    repeat first | refine bq_t (by decide) ?_ | refine bq_f (by decide) ?_
    exact hP
  · unfold wp_Md_operate
    rw [ho]
    repeat first | refine bq_t (by decide) ?_ | refine bq_f (by decide) ?_
    rw [H.e9, hf]
    repeat first | refine bq_t (by decide) ?_ | refine bq_f (by decide) ?_
    exact md_ends H.e5 hQ

theorem i_z21 (H : pre mn g rg hq mf cd fg w dd bm rr kt) (ho : zz_ushr w 26 = 28) (hf : w &&& 63 = 21) : pfx ms mn g rg hq mf cd fg w dd bm rr kt := by
  refine pfx_mk H 3 (fun L O => (g, rg, hq, mf, cd, fg, L, O)) (fun dd l1 l2 => (upd dd 5 3, l1, l2, bm, rr, kt)) (fun L O P hP => ?_) (fun dd l1 l2 H L O => ⟨oc_end (by unfold q_e; simp) H.rel H.nxt rfl (fun j _ h => pk_un h), fun Q hQ => ?_⟩) (fun _ _ _ _ => rfl) (fun _ _ _ _ _ hs => ⟨by repeat first | exact hs | apply lo_upd, rfl, rfl, rfl⟩) (by first | exact Or.inr (fun _ _ => rfl) | exact Or.inl (by unfold q_e; decide)) (fun _ _ _ => rfl)
  · unfold wp_Pr_perform
    refine pr_op ?_
    rw [ho]
    repeat first | refine bq_t (by decide) ?_ | refine bq_f (by decide) ?_
    unfold wp_Pr_special2
    refine pr_rs ⟨fI_in w 21, fun a ea => pr_rt ⟨fI_in w 16, fun b eb => pr_fun ?_⟩⟩
    subst ea
    subst eb
    rw [hf]
    repeat first | refine bq_t (by decide) ?_ | refine bq_f (by decide) ?_
    exact hP
  · unfold wp_Md_operate
    rw [ho]
    repeat first | refine bq_t (by decide) ?_ | refine bq_f (by decide) ?_
    rw [H.e9, hf]
    repeat first | refine bq_t (by decide) ?_ | refine bq_f (by decide) ?_
    exact md_ends H.e5 hQ

theorem i_z22 (H : pre mn g rg hq mf cd fg w dd bm rr kt) (ho : zz_ushr w 26 = 28) (hf : w &&& 63 = 22) : pfx ms mn g rg hq mf cd fg w dd bm rr kt := by
  refine pfx_mk H 3 (fun L O => (g, rg, hq, mf, cd, fg, L, O)) (fun dd l1 l2 => (upd dd 5 3, l1, l2, bm, rr, kt)) (fun L O P hP => ?_) (fun dd l1 l2 H L O => ⟨oc_end (by unfold q_e; simp) H.rel H.nxt rfl (fun j _ h => pk_un h), fun Q hQ => ?_⟩) (fun _ _ _ _ => rfl) (fun _ _ _ _ _ hs => ⟨by repeat first | exact hs | apply lo_upd, rfl, rfl, rfl⟩) (by first | exact Or.inr (fun _ _ => rfl) | exact Or.inl (by unfold q_e; decide)) (fun _ _ _ => rfl)
  · unfold wp_Pr_perform
    refine pr_op ?_
    rw [ho]
    repeat first | refine bq_t (by decide) ?_ | refine bq_f (by decide) ?_
    unfold wp_Pr_special2
    refine pr_rs ⟨fI_in w 21, fun a ea => pr_rt ⟨fI_in w 16, fun b eb => pr_fun ?_⟩⟩
    subst ea
    subst eb
    rw [hf]
    repeat first | refine bq_t (by decide) ?_ | refine bq_f (by decide) ?_
    exact hP
  · unfold wp_Md_operate
    rw [ho]
    repeat first | refine bq_t (by decide) ?_ | refine bq_f (by decide) ?_
    rw [H.e9, hf]
    repeat first | refine bq_t (by decide) ?_ | refine bq_f (by decide) ?_
    exact md_ends H.e5 hQ

theorem i_z23 (H : pre mn g rg hq mf cd fg w dd bm rr kt) (ho : zz_ushr w 26 = 28) (hf : w &&& 63 = 23) : pfx ms mn g rg hq mf cd fg w dd bm rr kt := by
  refine pfx_mk H 3 (fun L O => (g, rg, hq, mf, cd, fg, L, O)) (fun dd l1 l2 => (upd dd 5 3, l1, l2, bm, rr, kt)) (fun L O P hP => ?_) (fun dd l1 l2 H L O => ⟨oc_end (by unfold q_e; simp) H.rel H.nxt rfl (fun j _ h => pk_un h), fun Q hQ => ?_⟩) (fun _ _ _ _ => rfl) (fun _ _ _ _ _ hs => ⟨by repeat first | exact hs | apply lo_upd, rfl, rfl, rfl⟩) (by first | exact Or.inr (fun _ _ => rfl) | exact Or.inl (by unfold q_e; decide)) (fun _ _ _ => rfl)
  · unfold wp_Pr_perform
    refine pr_op ?_
    rw [ho]
    repeat first | refine bq_t (by decide) ?_ | refine bq_f (by decide) ?_
    unfold wp_Pr_special2
    refine pr_rs ⟨fI_in w 21, fun a ea => pr_rt ⟨fI_in w 16, fun b eb => pr_fun ?_⟩⟩
    subst ea
    subst eb
    rw [hf]
    repeat first | refine bq_t (by decide) ?_ | refine bq_f (by decide) ?_
    exact hP
  · unfold wp_Md_operate
    rw [ho]
    repeat first | refine bq_t (by decide) ?_ | refine bq_f (by decide) ?_
    rw [H.e9, hf]
    repeat first | refine bq_t (by decide) ?_ | refine bq_f (by decide) ?_
    exact md_ends H.e5 hQ

theorem i_z24 (H : pre mn g rg hq mf cd fg w dd bm rr kt) (ho : zz_ushr w 26 = 28) (hf : w &&& 63 = 24) : pfx ms mn g rg hq mf cd fg w dd bm rr kt := by
  refine pfx_mk H 3 (fun L O => (g, rg, hq, mf, cd, fg, L, O)) (fun dd l1 l2 => (upd dd 5 3, l1, l2, bm, rr, kt)) (fun L O P hP => ?_) (fun dd l1 l2 H L O => ⟨oc_end (by unfold q_e; simp) H.rel H.nxt rfl (fun j _ h => pk_un h), fun Q hQ => ?_⟩) (fun _ _ _ _ => rfl) (fun _ _ _ _ _ hs => ⟨by repeat first | exact hs | apply lo_upd, rfl, rfl, rfl⟩) (by first | exact Or.inr (fun _ _ => rfl) | exact Or.inl (by unfold q_e; decide)) (fun _ _ _ => rfl)
  · unfold wp_Pr_perform
    refine pr_op ?_
    rw [ho]
    repeat first | refine bq_t (by decide) ?_ | refine bq_f (by decide) ?_
    unfold wp_Pr_special2
    refine pr_rs ⟨fI_in w 21, fun a ea => pr_rt ⟨fI_in w 16, fun b eb => pr_fun ?_⟩⟩
    subst ea
    subst eb
    rw [hf]
    repeat first | refine bq_t (by decide) ?_ | refine bq_f (by decide) ?_
    exact hP
  · unfold wp_Md_operate
    rw [ho]
    repeat first | refine bq_t (by decide) ?_ | refine bq_f (by decide) ?_
    rw [H.e9, hf]
    repeat first | refine bq_t (by decide) ?_ | refine bq_f (by decide) ?_
    exact md_ends H.e5 hQ

theorem i_z25 (H : pre mn g rg hq mf cd fg w dd bm rr kt) (ho : zz_ushr w 26 = 28) (hf : w &&& 63 = 25) : pfx ms mn g rg hq mf cd fg w dd bm rr kt := by
  refine pfx_mk H 3 (fun L O => (g, rg, hq, mf, cd, fg, L, O)) (fun dd l1 l2 => (upd dd 5 3, l1, l2, bm, rr, kt)) (fun L O P hP => ?_) (fun dd l1 l2 H L O => ⟨oc_end (by unfold q_e; simp) H.rel H.nxt rfl (fun j _ h => pk_un h), fun Q hQ => ?_⟩) (fun _ _ _ _ => rfl) (fun _ _ _ _ _ hs => ⟨by repeat first | exact hs | apply lo_upd, rfl, rfl, rfl⟩) (by first | exact Or.inr (fun _ _ => rfl) | exact Or.inl (by unfold q_e; decide)) (fun _ _ _ => rfl)
  · unfold wp_Pr_perform
    refine pr_op ?_
    rw [ho]
    repeat first | refine bq_t (by decide) ?_ | refine bq_f (by decide) ?_
    unfold wp_Pr_special2
    refine pr_rs ⟨fI_in w 21, fun a ea => pr_rt ⟨fI_in w 16, fun b eb => pr_fun ?_⟩⟩
    subst ea
    subst eb
    rw [hf]
    repeat first | refine bq_t (by decide) ?_ | refine bq_f (by decide) ?_
    exact hP
  · unfold wp_Md_operate
    rw [ho]
    repeat first | refine bq_t (by decide) ?_ | refine bq_f (by decide) ?_
    rw [H.e9, hf]
    repeat first | refine bq_t (by decide) ?_ | refine bq_f (by decide) ?_
    exact md_ends H.e5 hQ

theorem i_z26 (H : pre mn g rg hq mf cd fg w dd bm rr kt) (ho : zz_ushr w 26 = 28) (hf : w &&& 63 = 26) : pfx ms mn g rg hq mf cd fg w dd bm rr kt := by
  refine pfx_mk H 3 (fun L O => (g, rg, hq, mf, cd, fg, L, O)) (fun dd l1 l2 => (upd dd 5 3, l1, l2, bm, rr, kt)) (fun L O P hP => ?_) (fun dd l1 l2 H L O => ⟨oc_end (by unfold q_e; simp) H.rel H.nxt rfl (fun j _ h => pk_un h), fun Q hQ => ?_⟩) (fun _ _ _ _ => rfl) (fun _ _ _ _ _ hs => ⟨by repeat first | exact hs | apply lo_upd, rfl, rfl, rfl⟩) (by first | exact Or.inr (fun _ _ => rfl) | exact Or.inl (by unfold q_e; decide)) (fun _ _ _ => rfl)
  · unfold wp_Pr_perform
    refine pr_op ?_
    rw [ho]
    repeat first | refine bq_t (by decide) ?_ | refine bq_f (by decide) ?_
    unfold wp_Pr_special2
    refine pr_rs ⟨fI_in w 21, fun a ea => pr_rt ⟨fI_in w 16, fun b eb => pr_fun ?_⟩⟩
    subst ea
    subst eb
    rw [hf]
    repeat first | refine bq_t (by decide) ?_ | refine bq_f (by decide) ?_
    exact hP
  · unfold wp_Md_operate
    rw [ho]
    repeat first | refine bq_t (by decide) ?_ | refine bq_f (by decide) ?_
    rw [H.e9, hf]
    repeat first | refine bq_t (by decide) ?_ | refine bq_f (by decide) ?_
    exact md_ends H.e5 hQ

theorem i_z27 (H : pre mn g rg hq mf cd fg w dd bm rr kt) (ho : zz_ushr w 26 = 28) (hf : w &&& 63 = 27) : pfx ms mn g rg hq mf cd fg w dd bm rr kt := by
  refine pfx_mk H 3 (fun L O => (g, rg, hq, mf, cd, fg, L, O)) (fun dd l1 l2 => (upd dd 5 3, l1, l2, bm, rr, kt)) (fun L O P hP => ?_) (fun dd l1 l2 H L O => ⟨oc_end (by unfold q_e; simp) H.rel H.nxt rfl (fun j _ h => pk_un h), fun Q hQ => ?_⟩) (fun _ _ _ _ => rfl) (fun _ _ _ _ _ hs => ⟨by repeat first | exact hs | apply lo_upd, rfl, rfl, rfl⟩) (by first | exact Or.inr (fun _ _ => rfl) | exact Or.inl (by unfold q_e; decide)) (fun _ _ _ => rfl)
  · unfold wp_Pr_perform
    refine pr_op ?_
    rw [ho]
    repeat first | refine bq_t (by decide) ?_ | refine bq_f (by decide) ?_
    unfold wp_Pr_special2
    refine pr_rs ⟨fI_in w 21, fun a ea => pr_rt ⟨fI_in w 16, fun b eb => pr_fun ?_⟩⟩
    subst ea
    subst eb
    rw [hf]
    repeat first | refine bq_t (by decide) ?_ | refine bq_f (by decide) ?_
    exact hP
  · unfold wp_Md_operate
    rw [ho]
    repeat first | refine bq_t (by decide) ?_ | refine bq_f (by decide) ?_
    rw [H.e9, hf]
    repeat first | refine bq_t (by decide) ?_ | refine bq_f (by decide) ?_
    exact md_ends H.e5 hQ

theorem i_z28 (H : pre mn g rg hq mf cd fg w dd bm rr kt) (ho : zz_ushr w 26 = 28) (hf : w &&& 63 = 28) : pfx ms mn g rg hq mf cd fg w dd bm rr kt := by
  refine pfx_mk H 3 (fun L O => (g, rg, hq, mf, cd, fg, L, O)) (fun dd l1 l2 => (upd dd 5 3, l1, l2, bm, rr, kt)) (fun L O P hP => ?_) (fun dd l1 l2 H L O => ⟨oc_end (by unfold q_e; simp) H.rel H.nxt rfl (fun j _ h => pk_un h), fun Q hQ => ?_⟩) (fun _ _ _ _ => rfl) (fun _ _ _ _ _ hs => ⟨by repeat first | exact hs | apply lo_upd, rfl, rfl, rfl⟩) (by first | exact Or.inr (fun _ _ => rfl) | exact Or.inl (by unfold q_e; decide)) (fun _ _ _ => rfl)
  · unfold wp_Pr_perform
    refine pr_op ?_
    rw [ho]
    repeat first | refine bq_t (by decide) ?_ | refine bq_f (by decide) ?_
    unfold wp_Pr_special2
    refine pr_rs ⟨fI_in w 21, fun a ea => pr_rt ⟨fI_in w 16, fun b eb => pr_fun ?_⟩⟩
    subst ea
    subst eb
    rw [hf]
    repeat first | refine bq_t (by decide) ?_ | refine bq_f (by decide) ?_
    exact hP
  · unfold wp_Md_operate
    rw [ho]
    repeat first | refine bq_t (by decide) ?_ | refine bq_f (by decide) ?_
    rw [H.e9, hf]
    repeat first | refine bq_t (by decide) ?_ | refine bq_f (by decide) ?_
    exact md_ends H.e5 hQ

theorem i_z29 (H : pre mn g rg hq mf cd fg w dd bm rr kt) (ho : zz_ushr w 26 = 28) (hf : w &&& 63 = 29) : pfx ms mn g rg hq mf cd fg w dd bm rr kt := by
  refine pfx_mk H 3 (fun L O => (g, rg, hq, mf, cd, fg, L, O)) (fun dd l1 l2 => (upd dd 5 3, l1, l2, bm, rr, kt)) (fun L O P hP => ?_) (fun dd l1 l2 H L O => ⟨oc_end (by unfold q_e; simp) H.rel H.nxt rfl (fun j _ h => pk_un h), fun Q hQ => ?_⟩) (fun _ _ _ _ => rfl) (fun _ _ _ _ _ hs => ⟨by repeat first | exact hs | apply lo_upd, rfl, rfl, rfl⟩) (by first | exact Or.inr (fun _ _ => rfl) | exact Or.inl (by unfold q_e; decide)) (fun _ _ _ => rfl)
  · unfold wp_Pr_perform
    refine pr_op ?_
    rw [ho]
    repeat first | refine bq_t (by decide) ?_ | refine bq_f (by decide) ?_
    unfold wp_Pr_special2
    refine pr_rs ⟨fI_in w 21, fun a ea => pr_rt ⟨fI_in w 16, fun b eb => pr_fun ?_⟩⟩
    subst ea
    subst eb
    rw [hf]
    repeat first | refine bq_t (by decide) ?_ | refine bq_f (by decide) ?_
    exact hP
  · unfold wp_Md_operate
    rw [ho]
    repeat first | refine bq_t (by decide) ?_ | refine bq_f (by decide) ?_
    rw [H.e9, hf]
    repeat first | refine bq_t (by decide) ?_ | refine bq_f (by decide) ?_
    exact md_ends H.e5 hQ

theorem i_z30 (H : pre mn g rg hq mf cd fg w dd bm rr kt) (ho : zz_ushr w 26 = 28) (hf : w &&& 63 = 30) : pfx ms mn g rg hq mf cd fg w dd bm rr kt := by
  refine pfx_mk H 3 (fun L O => (g, rg, hq, mf, cd, fg, L, O)) (fun dd l1 l2 => (upd dd 5 3, l1, l2, bm, rr, kt)) (fun L O P hP => ?_) (fun dd l1 l2 H L O => ⟨oc_end (by unfold q_e; simp) H.rel H.nxt rfl (fun j _ h => pk_un h), fun Q hQ => ?_⟩) (fun _ _ _ _ => rfl) (fun _ _ _ _ _ hs => ⟨by repeat first | exact hs | apply lo_upd, rfl, rfl, rfl⟩) (by first | exact Or.inr (fun _ _ => rfl) | exact Or.inl (by unfold q_e; decide)) (fun _ _ _ => rfl)
  · unfold wp_Pr_perform
    refine pr_op ?_
    rw [ho]
    repeat first | refine bq_t (by decide) ?_ | refine bq_f (by decide) ?_
    unfold wp_Pr_special2
    refine pr_rs ⟨fI_in w 21, fun a ea => pr_rt ⟨fI_in w 16, fun b eb => pr_fun ?_⟩⟩
    subst ea
    subst eb
    rw [hf]
    repeat first | refine bq_t (by decide) ?_ | refine bq_f (by decide) ?_
    exact hP
  · unfold wp_Md_operate
    rw [ho]
    repeat first | refine bq_t (by decide) ?_ | refine bq_f (by decide) ?_
    rw [H.e9, hf]
    repeat first | refine bq_t (by decide) ?_ | refine bq_f (by decide) ?_
    exact md_ends H.e5 hQ

theorem i_z31 (H : pre mn g rg hq mf cd fg w dd bm rr kt) (ho : zz_ushr w 26 = 28) (hf : w &&& 63 = 31) : pfx ms mn g rg hq mf cd fg w dd bm rr kt := by
  refine pfx_mk H 3 (fun L O => (g, rg, hq, mf, cd, fg, L, O)) (fun dd l1 l2 => (upd dd 5 3, l1, l2, bm, rr, kt)) (fun L O P hP => ?_) (fun dd l1 l2 H L O => ⟨oc_end (by unfold q_e; simp) H.rel H.nxt rfl (fun j _ h => pk_un h), fun Q hQ => ?_⟩) (fun _ _ _ _ => rfl) (fun _ _ _ _ _ hs => ⟨by repeat first | exact hs | apply lo_upd, rfl, rfl, rfl⟩) (by first | exact Or.inr (fun _ _ => rfl) | exact Or.inl (by unfold q_e; decide)) (fun _ _ _ => rfl)
  · unfold wp_Pr_perform
    refine pr_op ?_
    rw [ho]
    repeat first | refine bq_t (by decide) ?_ | refine bq_f (by decide) ?_
    unfold wp_Pr_special2
    refine pr_rs ⟨fI_in w 21, fun a ea => pr_rt ⟨fI_in w 16, fun b eb => pr_fun ?_⟩⟩
    subst ea
    subst eb
    rw [hf]
    repeat first | refine bq_t (by decide) ?_ | refine bq_f (by decide) ?_
    exact hP
  · unfold wp_Md_operate
    rw [ho]
    repeat first | refine bq_t (by decide) ?_ | refine bq_f (by decide) ?_
    rw [H.e9, hf]
    repeat first | refine bq_t (by decide) ?_ | refine bq_f (by decide) ?_
    exact md_ends H.e5 hQ

theorem i_z34 (H : pre mn g rg hq mf cd fg w dd bm rr kt) (ho : zz_ushr w 26 = 28) (hf : w &&& 63 = 34) : pfx ms mn g rg hq mf cd fg w dd bm rr kt := by
  refine pfx_mk H 3 (fun L O => (g, rg, hq, mf, cd, fg, L, O)) (fun dd l1 l2 => (upd dd 5 3, l1, l2, bm, rr, kt)) (fun L O P hP => ?_) (fun dd l1 l2 H L O => ⟨oc_end (by unfold q_e; simp) H.rel H.nxt rfl (fun j _ h => pk_un h), fun Q hQ => ?_⟩) (fun _ _ _ _ => rfl) (fun _ _ _ _ _ hs => ⟨by repeat first | exact hs | apply lo_upd, rfl, rfl, rfl⟩) (by first | exact Or.inr (fun _ _ => rfl) | exact Or.inl (by unfold q_e; decide)) (fun _ _ _ => rfl)
  · unfold wp_Pr_perform
    refine pr_op ?_
    rw [ho]
    repeat first | refine bq_t (by decide) ?_ | refine bq_f (by decide) ?_
    unfold wp_Pr_special2
    refine pr_rs ⟨fI_in w 21, fun a ea => pr_rt ⟨fI_in w 16, fun b eb => pr_fun ?_⟩⟩
    subst ea
    subst eb
    rw [hf]
    repeat first | refine bq_t (by decide) ?_ | refine bq_f (by decide) ?_
    exact hP
  · unfold wp_Md_operate
    rw [ho]
    repeat first | refine bq_t (by decide) ?_ | refine bq_f (by decide) ?_
    rw [H.e9, hf]
    repeat first | refine bq_t (by decide) ?_ | refine bq_f (by decide) ?_
    exact md_ends H.e5 hQ

theorem i_z35 (H : pre mn g rg hq mf cd fg w dd bm rr kt) (ho : zz_ushr w 26 = 28) (hf : w &&& 63 = 35) : pfx ms mn g rg hq mf cd fg w dd bm rr kt := by
  refine pfx_mk H 3 (fun L O => (g, rg, hq, mf, cd, fg, L, O)) (fun dd l1 l2 => (upd dd 5 3, l1, l2, bm, rr, kt)) (fun L O P hP => ?_) (fun dd l1 l2 H L O => ⟨oc_end (by unfold q_e; simp) H.rel H.nxt rfl (fun j _ h => pk_un h), fun Q hQ => ?_⟩) (fun _ _ _ _ => rfl) (fun _ _ _ _ _ hs => ⟨by repeat first | exact hs | apply lo_upd, rfl, rfl, rfl⟩) (by first | exact Or.inr (fun _ _ => rfl) | exact Or.inl (by unfold q_e; decide)) (fun _ _ _ => rfl)
  · unfold wp_Pr_perform
    refine pr_op ?_
    rw [ho]
    repeat first | refine bq_t (by decide) ?_ | refine bq_f (by decide) ?_
    unfold wp_Pr_special2
    refine pr_rs ⟨fI_in w 21, fun a ea => pr_rt ⟨fI_in w 16, fun b eb => pr_fun ?_⟩⟩
    subst ea
    subst eb
    rw [hf]
    repeat first | refine bq_t (by decide) ?_ | refine bq_f (by decide) ?_
    exact hP
  · unfold wp_Md_operate
    rw [ho]
    repeat first | refine bq_t (by decide) ?_ | refine bq_f (by decide) ?_
    rw [H.e9, hf]
    repeat first | refine bq_t (by decide) ?_ | refine bq_f (by decide) ?_
    exact md_ends H.e5 hQ

theorem i_z36 (H : pre mn g rg hq mf cd fg w dd bm rr kt) (ho : zz_ushr w 26 = 28) (hf : w &&& 63 = 36) : pfx ms mn g rg hq mf cd fg w dd bm rr kt := by
  refine pfx_mk H 3 (fun L O => (g, rg, hq, mf, cd, fg, L, O)) (fun dd l1 l2 => (upd dd 5 3, l1, l2, bm, rr, kt)) (fun L O P hP => ?_) (fun dd l1 l2 H L O => ⟨oc_end (by unfold q_e; simp) H.rel H.nxt rfl (fun j _ h => pk_un h), fun Q hQ => ?_⟩) (fun _ _ _ _ => rfl) (fun _ _ _ _ _ hs => ⟨by repeat first | exact hs | apply lo_upd, rfl, rfl, rfl⟩) (by first | exact Or.inr (fun _ _ => rfl) | exact Or.inl (by unfold q_e; decide)) (fun _ _ _ => rfl)
  · unfold wp_Pr_perform
    refine pr_op ?_
    rw [ho]
    repeat first | refine bq_t (by decide) ?_ | refine bq_f (by decide) ?_
    unfold wp_Pr_special2
    refine pr_rs ⟨fI_in w 21, fun a ea => pr_rt ⟨fI_in w 16, fun b eb => pr_fun ?_⟩⟩
    subst ea
    subst eb
    rw [hf]
    repeat first | refine bq_t (by decide) ?_ | refine bq_f (by decide) ?_
    exact hP
  · unfold wp_Md_operate
    rw [ho]
    repeat first | refine bq_t (by decide) ?_ | refine bq_f (by decide) ?_
    rw [H.e9, hf]
    repeat first | refine bq_t (by decide) ?_ | refine bq_f (by decide) ?_
    exact md_ends H.e5 hQ

theorem i_z37 (H : pre mn g rg hq mf cd fg w dd bm rr kt) (ho : zz_ushr w 26 = 28) (hf : w &&& 63 = 37) : pfx ms mn g rg hq mf cd fg w dd bm rr kt := by
  refine pfx_mk H 3 (fun L O => (g, rg, hq, mf, cd, fg, L, O)) (fun dd l1 l2 => (upd dd 5 3, l1, l2, bm, rr, kt)) (fun L O P hP => ?_) (fun dd l1 l2 H L O => ⟨oc_end (by unfold q_e; simp) H.rel H.nxt rfl (fun j _ h => pk_un h), fun Q hQ => ?_⟩) (fun _ _ _ _ => rfl) (fun _ _ _ _ _ hs => ⟨by repeat first | exact hs | apply lo_upd, rfl, rfl, rfl⟩) (by first | exact Or.inr (fun _ _ => rfl) | exact Or.inl (by unfold q_e; decide)) (fun _ _ _ => rfl)
  · unfold wp_Pr_perform
    refine pr_op ?_
    rw [ho]
    repeat first | refine bq_t (by decide) ?_ | refine bq_f (by decide) ?_
    unfold wp_Pr_special2
    refine pr_rs ⟨fI_in w 21, fun a ea => pr_rt ⟨fI_in w 16, fun b eb => pr_fun ?_⟩⟩
    subst ea
    subst eb
    rw [hf]
    repeat first | refine bq_t (by decide) ?_ | refine bq_f (by decide) ?_
    exact hP
  · unfold wp_Md_operate
    rw [ho]
    repeat first | refine bq_t (by decide) ?_ | refine bq_f (by decide) ?_
    rw [H.e9, hf]
    repeat first | refine bq_t (by decide) ?_ | refine bq_f (by decide) ?_
    exact md_ends H.e5 hQ

theorem i_z38 (H : pre mn g rg hq mf cd fg w dd bm rr kt) (ho : zz_ushr w 26 = 28) (hf : w &&& 63 = 38) : pfx ms mn g rg hq mf cd fg w dd bm rr kt := by
  refine pfx_mk H 3 (fun L O => (g, rg, hq, mf, cd, fg, L, O)) (fun dd l1 l2 => (upd dd 5 3, l1, l2, bm, rr, kt)) (fun L O P hP => ?_) (fun dd l1 l2 H L O => ⟨oc_end (by unfold q_e; simp) H.rel H.nxt rfl (fun j _ h => pk_un h), fun Q hQ => ?_⟩) (fun _ _ _ _ => rfl) (fun _ _ _ _ _ hs => ⟨by repeat first | exact hs | apply lo_upd, rfl, rfl, rfl⟩) (by first | exact Or.inr (fun _ _ => rfl) | exact Or.inl (by unfold q_e; decide)) (fun _ _ _ => rfl)
  · unfold wp_Pr_perform
    refine pr_op ?_
    rw [ho]
    repeat first | refine bq_t (by decide) ?_ | refine bq_f (by decide) ?_
    unfold wp_Pr_special2
    refine pr_rs ⟨fI_in w 21, fun a ea => pr_rt ⟨fI_in w 16, fun b eb => pr_fun ?_⟩⟩
    subst ea
    subst eb
    rw [hf]
    repeat first | refine bq_t (by decide) ?_ | refine bq_f (by decide) ?_
    exact hP
  · unfold wp_Md_operate
    rw [ho]
    repeat first | refine bq_t (by decide) ?_ | refine bq_f (by decide) ?_
    rw [H.e9, hf]
    repeat first | refine bq_t (by decide) ?_ | refine bq_f (by decide) ?_
    exact md_ends H.e5 hQ

theorem i_z39 (H : pre mn g rg hq mf cd fg w dd bm rr kt) (ho : zz_ushr w 26 = 28) (hf : w &&& 63 = 39) : pfx ms mn g rg hq mf cd fg w dd bm rr kt := by
  refine pfx_mk H 3 (fun L O => (g, rg, hq, mf, cd, fg, L, O)) (fun dd l1 l2 => (upd dd 5 3, l1, l2, bm, rr, kt)) (fun L O P hP => ?_) (fun dd l1 l2 H L O => ⟨oc_end (by unfold q_e; simp) H.rel H.nxt rfl (fun j _ h => pk_un h), fun Q hQ => ?_⟩) (fun _ _ _ _ => rfl) (fun _ _ _ _ _ hs => ⟨by repeat first | exact hs | apply lo_upd, rfl, rfl, rfl⟩) (by first | exact Or.inr (fun _ _ => rfl) | exact Or.inl (by unfold q_e; decide)) (fun _ _ _ => rfl)
  · unfold wp_Pr_perform
    refine pr_op ?_
    rw [ho]
    repeat first | refine bq_t (by decide) ?_ | refine bq_f (by decide) ?_
    unfold wp_Pr_special2
    refine pr_rs ⟨fI_in w 21, fun a ea => pr_rt ⟨fI_in w 16, fun b eb => pr_fun ?_⟩⟩
    subst ea
    subst eb
    rw [hf]
    repeat first | refine bq_t (by decide) ?_ | refine bq_f (by decide) ?_
    exact hP
  · unfold wp_Md_operate
    rw [ho]
    repeat first | refine bq_t (by decide) ?_ | refine bq_f (by decide) ?_
    rw [H.e9, hf]
    repeat first | refine bq_t (by decide) ?_ | refine bq_f (by decide) ?_
    exact md_ends H.e5 hQ

theorem i_z40 (H : pre mn g rg hq mf cd fg w dd bm rr kt) (ho : zz_ushr w 26 = 28) (hf : w &&& 63 = 40) : pfx ms mn g rg hq mf cd fg w dd bm rr kt := by
  refine pfx_mk H 3 (fun L O => (g, rg, hq, mf, cd, fg, L, O)) (fun dd l1 l2 => (upd dd 5 3, l1, l2, bm, rr, kt)) (fun L O P hP => ?_) (fun dd l1 l2 H L O => ⟨oc_end (by unfold q_e; simp) H.rel H.nxt rfl (fun j _ h => pk_un h), fun Q hQ => ?_⟩) (fun _ _ _ _ => rfl) (fun _ _ _ _ _ hs => ⟨by repeat first | exact hs | apply lo_upd, rfl, rfl, rfl⟩) (by first | exact Or.inr (fun _ _ => rfl) | exact Or.inl (by unfold q_e; decide)) (fun _ _ _ => rfl)
  · unfold wp_Pr_perform
    refine pr_op ?_
    rw [ho]
    repeat first | refine bq_t (by decide) ?_ | refine bq_f (by decide) ?_
    unfold wp_Pr_special2
    refine pr_rs ⟨fI_in w 21, fun a ea => pr_rt ⟨fI_in w 16, fun b eb => pr_fun ?_⟩⟩
    subst ea
    subst eb
    rw [hf]
    repeat first | refine bq_t (by decide) ?_ | refine bq_f (by decide) ?_
    exact hP
  · unfold wp_Md_operate
    rw [ho]
    repeat first | refine bq_t (by decide) ?_ | refine bq_f (by decide) ?_
    rw [H.e9, hf]
    repeat first | refine bq_t (by decide) ?_ | refine bq_f (by decide) ?_
    exact md_ends H.e5 hQ

theorem i_z41 (H : pre mn g rg hq mf cd fg w dd bm rr kt) (ho : zz_ushr w 26 = 28) (hf : w &&& 63 = 41) : pfx ms mn g rg hq mf cd fg w dd bm rr kt := by
  refine pfx_mk H 3 (fun L O => (g, rg, hq, mf, cd, fg, L, O)) (fun dd l1 l2 => (upd dd 5 3, l1, l2, bm, rr, kt)) (fun L O P hP => ?_) (fun dd l1 l2 H L O => ⟨oc_end (by unfold q_e; simp) H.rel H.nxt rfl (fun j _ h => pk_un h), fun Q hQ => ?_⟩) (fun _ _ _ _ => rfl) (fun _ _ _ _ _ hs => ⟨by repeat first | exact hs | apply lo_upd, rfl, rfl, rfl⟩) (by first | exact Or.inr (fun _ _ => rfl) | exact Or.inl (by unfold q_e; decide)) (fun _ _ _ => rfl)
  · unfold wp_Pr_perform
    refine pr_op ?_
    rw [ho]
    repeat first | refine bq_t (by decide) ?_ | refine bq_f (by decide) ?_
    unfold wp_Pr_special2
    refine pr_rs ⟨fI_in w 21, fun a ea => pr_rt ⟨fI_in w 16, fun b eb => pr_fun ?_⟩⟩
    subst ea
    subst eb
    rw [hf]
    repeat first | refine bq_t (by decide) ?_ | refine bq_f (by decide) ?_
    exact hP
  · unfold wp_Md_operate
    rw [ho]
    repeat first | refine bq_t (by decide) ?_ | refine bq_f (by decide) ?_
    rw [H.e9, hf]
    repeat first | refine bq_t (by decide) ?_ | refine bq_f (by decide) ?_
    exact md_ends H.e5 hQ

theorem i_z42 (H : pre mn g rg hq mf cd fg w dd bm rr kt) (ho : zz_ushr w 26 = 28) (hf : w &&& 63 = 42) : pfx ms mn g rg hq mf cd fg w dd bm rr kt := by
  refine pfx_mk H 3 (fun L O => (g, rg, hq, mf, cd, fg, L, O)) (fun dd l1 l2 => (upd dd 5 3, l1, l2, bm, rr, kt)) (fun L O P hP => ?_) (fun dd l1 l2 H L O => ⟨oc_end (by unfold q_e; simp) H.rel H.nxt rfl (fun j _ h => pk_un h), fun Q hQ => ?_⟩) (fun _ _ _ _ => rfl) (fun _ _ _ _ _ hs => ⟨by repeat first | exact hs | apply lo_upd, rfl, rfl, rfl⟩) (by first | exact Or.inr (fun _ _ => rfl) | exact Or.inl (by unfold q_e; decide)) (fun _ _ _ => rfl)
  · unfold wp_Pr_perform
    refine pr_op ?_
    rw [ho]
    repeat first | refine bq_t (by decide) ?_ | refine bq_f (by decide) ?_
    unfold wp_Pr_special2
    refine pr_rs ⟨fI_in w 21, fun a ea => pr_rt ⟨fI_in w 16, fun b eb => pr_fun ?_⟩⟩
    subst ea
    subst eb
    rw [hf]
    repeat first | refine bq_t (by decide) ?_ | refine bq_f (by decide) ?_
    exact hP
  · unfold wp_Md_operate
    rw [ho]
    repeat first | refine bq_t (by decide) ?_ | refine bq_f (by decide) ?_
    rw [H.e9, hf]
    repeat first | refine bq_t (by decide) ?_ | refine bq_f (by decide) ?_
    exact md_ends H.e5 hQ

theorem i_z43 (H : pre mn g rg hq mf cd fg w dd bm rr kt) (ho : zz_ushr w 26 = 28) (hf : w &&& 63 = 43) : pfx ms mn g rg hq mf cd fg w dd bm rr kt := by
  refine pfx_mk H 3 (fun L O => (g, rg, hq, mf, cd, fg, L, O)) (fun dd l1 l2 => (upd dd 5 3, l1, l2, bm, rr, kt)) (fun L O P hP => ?_) (fun dd l1 l2 H L O => ⟨oc_end (by unfold q_e; simp) H.rel H.nxt rfl (fun j _ h => pk_un h), fun Q hQ => ?_⟩) (fun _ _ _ _ => rfl) (fun _ _ _ _ _ hs => ⟨by repeat first | exact hs | apply lo_upd, rfl, rfl, rfl⟩) (by first | exact Or.inr (fun _ _ => rfl) | exact Or.inl (by unfold q_e; decide)) (fun _ _ _ => rfl)
  · unfold wp_Pr_perform
    refine pr_op ?_
    rw [ho]
    repeat first | refine bq_t (by decide) ?_ | refine bq_f (by decide) ?_
    unfold wp_Pr_special2
    refine pr_rs ⟨fI_in w 21, fun a ea => pr_rt ⟨fI_in w 16, fun b eb => pr_fun ?_⟩⟩
    subst ea
    subst eb
    rw [hf]
    repeat first | refine bq_t (by decide) ?_ | refine bq_f (by decide) ?_
    exact hP
  · unfold wp_Md_operate
    rw [ho]
    repeat first | refine bq_t (by decide) ?_ | refine bq_f (by decide) ?_
    rw [H.e9, hf]
    repeat first | refine bq_t (by decide) ?_ | refine bq_f (by decide) ?_
    exact md_ends H.e5 hQ

theorem i_z44 (H : pre mn g rg hq mf cd fg w dd bm rr kt) (ho : zz_ushr w 26 = 28) (hf : w &&& 63 = 44) : pfx ms mn g rg hq mf cd fg w dd bm rr kt := by
  refine pfx_mk H 3 (fun L O => (g, rg, hq, mf, cd, fg, L, O)) (fun dd l1 l2 => (upd dd 5 3, l1, l2, bm, rr, kt)) (fun L O P hP => ?_) (fun dd l1 l2 H L O => ⟨oc_end (by unfold q_e; simp) H.rel H.nxt rfl (fun j _ h => pk_un h), fun Q hQ => ?_⟩) (fun _ _ _ _ => rfl) (fun _ _ _ _ _ hs => ⟨by repeat first | exact hs | apply lo_upd, rfl, rfl, rfl⟩) (by first | exact Or.inr (fun _ _ => rfl) | exact Or.inl (by unfold q_e; decide)) (fun _ _ _ => rfl)
  · unfold wp_Pr_perform
    refine pr_op ?_
    rw [ho]
    repeat first | refine bq_t (by decide) ?_ | refine bq_f (by decide) ?_
    unfold wp_Pr_special2
    refine pr_rs ⟨fI_in w 21, fun a ea => pr_rt ⟨fI_in w 16, fun b eb => pr_fun ?_⟩⟩
    subst ea
    subst eb
    rw [hf]
    repeat first | refine bq_t (by decide) ?_ | refine bq_f (by decide) ?_
    exact hP
  · unfold wp_Md_operate
    rw [ho]
    repeat first | refine bq_t (by decide) ?_ | refine bq_f (by decide) ?_
    rw [H.e9, hf]
    repeat first | refine bq_t (by decide) ?_ | refine bq_f (by decide) ?_
    exact md_ends H.e5 hQ

theorem i_z45 (H : pre mn g rg hq mf cd fg w dd bm rr kt) (ho : zz_ushr w 26 = 28) (hf : w &&& 63 = 45) : pfx ms mn g rg hq mf cd fg w dd bm rr kt := by
  refine pfx_mk H 3 (fun L O => (g, rg, hq, mf, cd, fg, L, O)) (fun dd l1 l2 => (upd dd 5 3, l1, l2, bm, rr, kt)) (fun L O P hP => ?_) (fun dd l1 l2 H L O => ⟨oc_end (by unfold q_e; simp) H.rel H.nxt rfl (fun j _ h => pk_un h), fun Q hQ => ?_⟩) (fun _ _ _ _ => rfl) (fun _ _ _ _ _ hs => ⟨by repeat first | exact hs | apply lo_upd, rfl, rfl, rfl⟩) (by first | exact Or.inr (fun _ _ => rfl) | exact Or.inl (by unfold q_e; decide)) (fun _ _ _ => rfl)
  · unfold wp_Pr_perform
    refine pr_op ?_
    rw [ho]
    repeat first | refine bq_t (by decide) ?_ | refine bq_f (by decide) ?_
    unfold wp_Pr_special2
    refine pr_rs ⟨fI_in w 21, fun a ea => pr_rt ⟨fI_in w 16, fun b eb => pr_fun ?_⟩⟩
    subst ea
    subst eb
    rw [hf]
    repeat first | refine bq_t (by decide) ?_ | refine bq_f (by decide) ?_
    exact hP
  · unfold wp_Md_operate
    rw [ho]
    repeat first | refine bq_t (by decide) ?_ | refine bq_f (by decide) ?_
    rw [H.e9, hf]
    repeat first | refine bq_t (by decide) ?_ | refine bq_f (by decide) ?_
    exact md_ends H.e5 hQ

theorem i_z46 (H : pre mn g rg hq mf cd fg w dd bm rr kt) (ho : zz_ushr w 26 = 28) (hf : w &&& 63 = 46) : pfx ms mn g rg hq mf cd fg w dd bm rr kt := by
  refine pfx_mk H 3 (fun L O => (g, rg, hq, mf, cd, fg, L, O)) (fun dd l1 l2 => (upd dd 5 3, l1, l2, bm, rr, kt)) (fun L O P hP => ?_) (fun dd l1 l2 H L O => ⟨oc_end (by unfold q_e; simp) H.rel H.nxt rfl (fun j _ h => pk_un h), fun Q hQ => ?_⟩) (fun _ _ _ _ => rfl) (fun _ _ _ _ _ hs => ⟨by repeat first | exact hs | apply lo_upd, rfl, rfl, rfl⟩) (by first | exact Or.inr (fun _ _ => rfl) | exact Or.inl (by unfold q_e; decide)) (fun _ _ _ => rfl)
  · unfold wp_Pr_perform
    refine pr_op ?_
    rw [ho]
    repeat first | refine bq_t (by decide) ?_ | refine bq_f (by decide) ?_
    unfold wp_Pr_special2
    refine pr_rs ⟨fI_in w 21, fun a ea => pr_rt ⟨fI_in w 16, fun b eb => pr_fun ?_⟩⟩
    subst ea
    subst eb
    rw [hf]
    repeat first | refine bq_t (by decide) ?_ | refine bq_f (by decide) ?_
    exact hP
  · unfold wp_Md_operate
    rw [ho]
    repeat first | refine bq_t (by decide) ?_ | refine bq_f (by decide) ?_
    rw [H.e9, hf]
    repeat first | refine bq_t (by decide) ?_ | refine bq_f (by decide) ?_
    exact md_ends H.e5 hQ

theorem i_z47 (H : pre mn g rg hq mf cd fg w dd bm rr kt) (ho : zz_ushr w 26 = 28) (hf : w &&& 63 = 47) : pfx ms mn g rg hq mf cd fg w dd bm rr kt := by
  refine pfx_mk H 3 (fun L O => (g, rg, hq, mf, cd, fg, L, O)) (fun dd l1 l2 => (upd dd 5 3, l1, l2, bm, rr, kt)) (fun L O P hP => ?_) (fun dd l1 l2 H L O => ⟨oc_end (by unfold q_e; simp) H.rel H.nxt rfl (fun j _ h => pk_un h), fun Q hQ => ?_⟩) (fun _ _ _ _ => rfl) (fun _ _ _ _ _ hs => ⟨by repeat first | exact hs | apply lo_upd, rfl, rfl, rfl⟩) (by first | exact Or.inr (fun _ _ => rfl) | exact Or.inl (by unfold q_e; decide)) (fun _ _ _ => rfl)
  · unfold wp_Pr_perform
    refine pr_op ?_
    rw [ho]
    repeat first | refine bq_t (by decide) ?_ | refine bq_f (by decide) ?_
    unfold wp_Pr_special2
    refine pr_rs ⟨fI_in w 21, fun a ea => pr_rt ⟨fI_in w 16, fun b eb => pr_fun ?_⟩⟩
    subst ea
    subst eb
    rw [hf]
    repeat first | refine bq_t (by decide) ?_ | refine bq_f (by decide) ?_
    exact hP
  · unfold wp_Md_operate
    rw [ho]
    repeat first | refine bq_t (by decide) ?_ | refine bq_f (by decide) ?_
    rw [H.e9, hf]
    repeat first | refine bq_t (by decide) ?_ | refine bq_f (by decide) ?_
    exact md_ends H.e5 hQ

theorem i_z48 (H : pre mn g rg hq mf cd fg w dd bm rr kt) (ho : zz_ushr w 26 = 28) (hf : w &&& 63 = 48) : pfx ms mn g rg hq mf cd fg w dd bm rr kt := by
  refine pfx_mk H 3 (fun L O => (g, rg, hq, mf, cd, fg, L, O)) (fun dd l1 l2 => (upd dd 5 3, l1, l2, bm, rr, kt)) (fun L O P hP => ?_) (fun dd l1 l2 H L O => ⟨oc_end (by unfold q_e; simp) H.rel H.nxt rfl (fun j _ h => pk_un h), fun Q hQ => ?_⟩) (fun _ _ _ _ => rfl) (fun _ _ _ _ _ hs => ⟨by repeat first | exact hs | apply lo_upd, rfl, rfl, rfl⟩) (by first | exact Or.inr (fun _ _ => rfl) | exact Or.inl (by unfold q_e; decide)) (fun _ _ _ => rfl)
  · unfold wp_Pr_perform
    refine pr_op ?_
    rw [ho]
    repeat first | refine bq_t (by decide) ?_ | refine bq_f (by decide) ?_
    unfold wp_Pr_special2
    refine pr_rs ⟨fI_in w 21, fun a ea => pr_rt ⟨fI_in w 16, fun b eb => pr_fun ?_⟩⟩
    subst ea
    subst eb
    rw [hf]
    repeat first | refine bq_t (by decide) ?_ | refine bq_f (by decide) ?_
    exact hP
  · unfold wp_Md_operate
    rw [ho]
    repeat first | refine bq_t (by decide) ?_ | refine bq_f (by decide) ?_
    rw [H.e9, hf]
    repeat first | refine bq_t (by decide) ?_ | refine bq_f (by decide) ?_
    exact md_ends H.e5 hQ

theorem i_z49 (H : pre mn g rg hq mf cd fg w dd bm rr kt) (ho : zz_ushr w 26 = 28) (hf : w &&& 63 = 49) : pfx ms mn g rg hq mf cd fg w dd bm rr kt := by
  refine pfx_mk H 3 (fun L O => (g, rg, hq, mf, cd, fg, L, O)) (fun dd l1 l2 => (upd dd 5 3, l1, l2, bm, rr, kt)) (fun L O P hP => ?_) (fun dd l1 l2 H L O => ⟨oc_end (by unfold q_e; simp) H.rel H.nxt rfl (fun j _ h => pk_un h), fun Q hQ => ?_⟩) (fun _ _ _ _ => rfl) (fun _ _ _ _ _ hs => ⟨by repeat first | exact hs | apply lo_upd, rfl, rfl, rfl⟩) (by first | exact Or.inr (fun _ _ => rfl) | exact Or.inl (by unfold q_e; decide)) (fun _ _ _ => rfl)
  · unfold wp_Pr_perform
    refine pr_op ?_
    rw [ho]
    repeat first | refine bq_t (by decide) ?_ | refine bq_f (by decide) ?_
    unfold wp_Pr_special2
    refine pr_rs ⟨fI_in w 21, fun a ea => pr_rt ⟨fI_in w 16, fun b eb => pr_fun ?_⟩⟩
    subst ea
    subst eb
    rw [hf]
    repeat first | refine bq_t (by decide) ?_ | refine bq_f (by decide) ?_
    exact hP
  · unfold wp_Md_operate
    rw [ho]
    repeat first | refine bq_t (by decide) ?_ | refine bq_f (by decide) ?_
    rw [H.e9, hf]
    repeat first | refine bq_t (by decide) ?_ | refine bq_f (by decide) ?_
    exact md_ends H.e5 hQ

theorem i_z50 (H : pre mn g rg hq mf cd fg w dd bm rr kt) (ho : zz_ushr w 26 = 28) (hf : w &&& 63 = 50) : pfx ms mn g rg hq mf cd fg w dd bm rr kt := by
  refine pfx_mk H 3 (fun L O => (g, rg, hq, mf, cd, fg, L, O)) (fun dd l1 l2 => (upd dd 5 3, l1, l2, bm, rr, kt)) (fun L O P hP => ?_) (fun dd l1 l2 H L O => ⟨oc_end (by unfold q_e; simp) H.rel H.nxt rfl (fun j _ h => pk_un h), fun Q hQ => ?_⟩) (fun _ _ _ _ => rfl) (fun _ _ _ _ _ hs => ⟨by repeat first | exact hs | apply lo_upd, rfl, rfl, rfl⟩) (by first | exact Or.inr (fun _ _ => rfl) | exact Or.inl (by unfold q_e; decide)) (fun _ _ _ => rfl)
  · unfold wp_Pr_perform
    refine pr_op ?_
    rw [ho]
    repeat first | refine bq_t (by decide) ?_ | refine bq_f (by decide) ?_
    unfold wp_Pr_special2
    refine pr_rs ⟨fI_in w 21, fun a ea => pr_rt ⟨fI_in w 16, fun b eb => pr_fun ?_⟩⟩
    subst ea
    subst eb
    rw [hf]
    repeat first | refine bq_t (by decide) ?_ | refine bq_f (by decide) ?_
    exact hP
  · unfold wp_Md_operate
    rw [ho]
    repeat first | refine bq_t (by decide) ?_ | refine bq_f (by decide) ?_
    rw [H.e9, hf]
    repeat first | refine bq_t (by decide) ?_ | refine bq_f (by decide) ?_
    exact md_ends H.e5 hQ

theorem i_z51 (H : pre mn g rg hq mf cd fg w dd bm rr kt) (ho : zz_ushr w 26 = 28) (hf : w &&& 63 = 51) : pfx ms mn g rg hq mf cd fg w dd bm rr kt := by
  refine pfx_mk H 3 (fun L O => (g, rg, hq, mf, cd, fg, L, O)) (fun dd l1 l2 => (upd dd 5 3, l1, l2, bm, rr, kt)) (fun L O P hP => ?_) (fun dd l1 l2 H L O => ⟨oc_end (by unfold q_e; simp) H.rel H.nxt rfl (fun j _ h => pk_un h), fun Q hQ => ?_⟩) (fun _ _ _ _ => rfl) (fun _ _ _ _ _ hs => ⟨by repeat first | exact hs | apply lo_upd, rfl, rfl, rfl⟩) (by first | exact Or.inr (fun _ _ => rfl) | exact Or.inl (by unfold q_e; decide)) (fun _ _ _ => rfl)
  · unfold wp_Pr_perform
    refine pr_op ?_
    rw [ho]
    repeat first | refine bq_t (by decide) ?_ | refine bq_f (by decide) ?_
    unfold wp_Pr_special2
    refine pr_rs ⟨fI_in w 21, fun a ea => pr_rt ⟨fI_in w 16, fun b eb => pr_fun ?_⟩⟩
    subst ea
    subst eb
    rw [hf]
    repeat first | refine bq_t (by decide) ?_ | refine bq_f (by decide) ?_
    exact hP
  · unfold wp_Md_operate
    rw [ho]
    repeat first | refine bq_t (by decide) ?_ | refine bq_f (by decide) ?_
    rw [H.e9, hf]
    repeat first | refine bq_t (by decide) ?_ | refine bq_f (by decide) ?_
    exact md_ends H.e5 hQ

theorem i_z52 (H : pre mn g rg hq mf cd fg w dd bm rr kt) (ho : zz_ushr w 26 = 28) (hf : w &&& 63 = 52) : pfx ms mn g rg hq mf cd fg w dd bm rr kt := by
  refine pfx_mk H 3 (fun L O => (g, rg, hq, mf, cd, fg, L, O)) (fun dd l1 l2 => (upd dd 5 3, l1, l2, bm, rr, kt)) (fun L O P hP => ?_) (fun dd l1 l2 H L O => ⟨oc_end (by unfold q_e; simp) H.rel H.nxt rfl (fun j _ h => pk_un h), fun Q hQ => ?_⟩) (fun _ _ _ _ => rfl) (fun _ _ _ _ _ hs => ⟨by repeat first | exact hs | apply lo_upd, rfl, rfl, rfl⟩) (by first | exact Or.inr (fun _ _ => rfl) | exact Or.inl (by unfold q_e; decide)) (fun _ _ _ => rfl)
  · unfold wp_Pr_perform
    refine pr_op ?_
    rw [ho]
    repeat first | refine bq_t (by decide) ?_ | refine bq_f (by decide) ?_
    unfold wp_Pr_special2
    refine pr_rs ⟨fI_in w 21, fun a ea => pr_rt ⟨fI_in w 16, fun b eb => pr_fun ?_⟩⟩
    subst ea
    subst eb
    rw [hf]
    repeat first | refine bq_t (by decide) ?_ | refine bq_f (by decide) ?_
    exact hP
  · unfold wp_Md_operate
    rw [ho]
    repeat first | refine bq_t (by decide) ?_ | refine bq_f (by decide) ?_
    rw [H.e9, hf]
    repeat first | refine bq_t (by decide) ?_ | refine bq_f (by decide) ?_
    exact md_ends H.e5 hQ

theorem i_z53 (H : pre mn g rg hq mf cd fg w dd bm rr kt) (ho : zz_ushr w 26 = 28) (hf : w &&& 63 = 53) : pfx ms mn g rg hq mf cd fg w dd bm rr kt := by
  refine pfx_mk H 3 (fun L O => (g, rg, hq, mf, cd, fg, L, O)) (fun dd l1 l2 => (upd dd 5 3, l1, l2, bm, rr, kt)) (fun L O P hP => ?_) (fun dd l1 l2 H L O => ⟨oc_end (by unfold q_e; simp) H.rel H.nxt rfl (fun j _ h => pk_un h), fun Q hQ => ?_⟩) (fun _ _ _ _ => rfl) (fun _ _ _ _ _ hs => ⟨by repeat first | exact hs | apply lo_upd, rfl, rfl, rfl⟩) (by first | exact Or.inr (fun _ _ => rfl) | exact Or.inl (by unfold q_e; decide)) (fun _ _ _ => rfl)
  · unfold wp_Pr_perform
    refine pr_op ?_
    rw [ho]
    repeat first | refine bq_t (by decide) ?_ | refine bq_f (by decide) ?_
    unfold wp_Pr_special2
    refine pr_rs ⟨fI_in w 21, fun a ea => pr_rt ⟨fI_in w 16, fun b eb => pr_fun ?_⟩⟩
    subst ea
    subst eb
    rw [hf]
    repeat first | refine bq_t (by decide) ?_ | refine bq_f (by decide) ?_
    exact hP
  · unfold wp_Md_operate
    rw [ho]
    repeat first | refine bq_t (by decide) ?_ | refine bq_f (by decide) ?_
    rw [H.e9, hf]
    repeat first | refine bq_t (by decide) ?_ | refine bq_f (by decide) ?_
    exact md_ends H.e5 hQ

theorem i_z54 (H : pre mn g rg hq mf cd fg w dd bm rr kt) (ho : zz_ushr w 26 = 28) (hf : w &&& 63 = 54) : pfx ms mn g rg hq mf cd fg w dd bm rr kt := by
  refine pfx_mk H 3 (fun L O => (g, rg, hq, mf, cd, fg, L, O)) (fun dd l1 l2 => (upd dd 5 3, l1, l2, bm, rr, kt)) (fun L O P hP => ?_) (fun dd l1 l2 H L O => ⟨oc_end (by unfold q_e; simp) H.rel H.nxt rfl (fun j _ h => pk_un h), fun Q hQ => ?_⟩) (fun _ _ _ _ => rfl) (fun _ _ _ _ _ hs => ⟨by repeat first | exact hs | apply lo_upd, rfl, rfl, rfl⟩) (by first | exact Or.inr (fun _ _ => rfl) | exact Or.inl (by unfold q_e; decide)) (fun _ _ _ => rfl)
  · unfold wp_Pr_perform
    refine pr_op ?_
    rw [ho]
    repeat first | refine bq_t (by decide) ?_ | refine bq_f (by decide) ?_
    unfold wp_Pr_special2
    refine pr_rs ⟨fI_in w 21, fun a ea => pr_rt ⟨fI_in w 16, fun b eb => pr_fun ?_⟩⟩
    subst ea
    subst eb
    rw [hf]
    repeat first | refine bq_t (by decide) ?_ | refine bq_f (by decide) ?_
    exact hP
  · unfold wp_Md_operate
    rw [ho]
    repeat first | refine bq_t (by decide) ?_ | refine bq_f (by decide) ?_
    rw [H.e9, hf]
    repeat first | refine bq_t (by decide) ?_ | refine bq_f (by decide) ?_
    exact md_ends H.e5 hQ

theorem i_z55 (H : pre mn g rg hq mf cd fg w dd bm rr kt) (ho : zz_ushr w 26 = 28) (hf : w &&& 63 = 55) : pfx ms mn g rg hq mf cd fg w dd bm rr kt := by
  refine pfx_mk H 3 (fun L O => (g, rg, hq, mf, cd, fg, L, O)) (fun dd l1 l2 => (upd dd 5 3, l1, l2, bm, rr, kt)) (fun L O P hP => ?_) (fun dd l1 l2 H L O => ⟨oc_end (by unfold q_e; simp) H.rel H.nxt rfl (fun j _ h => pk_un h), fun Q hQ => ?_⟩) (fun _ _ _ _ => rfl) (fun _ _ _ _ _ hs => ⟨by repeat first | exact hs | apply lo_upd, rfl, rfl, rfl⟩) (by first | exact Or.inr (fun _ _ => rfl) | exact Or.inl (by unfold q_e; decide)) (fun _ _ _ => rfl)
  · unfold wp_Pr_perform
    refine pr_op ?_
    rw [ho]
    repeat first | refine bq_t (by decide) ?_ | refine bq_f (by decide) ?_
    unfold wp_Pr_special2
    refine pr_rs ⟨fI_in w 21, fun a ea => pr_rt ⟨fI_in w 16, fun b eb => pr_fun ?_⟩⟩
    subst ea
    subst eb
    rw [hf]
    repeat first | refine bq_t (by decide) ?_ | refine bq_f (by decide) ?_
    exact hP
  · unfold wp_Md_operate
    rw [ho]
    repeat first | refine bq_t (by decide) ?_ | refine bq_f (by decide) ?_
    rw [H.e9, hf]
    repeat first | refine bq_t (by decide) ?_ | refine bq_f (by decide) ?_
    exact md_ends H.e5 hQ

theorem i_z56 (H : pre mn g rg hq mf cd fg w dd bm rr kt) (ho : zz_ushr w 26 = 28) (hf : w &&& 63 = 56) : pfx ms mn g rg hq mf cd fg w dd bm rr kt := by
  refine pfx_mk H 3 (fun L O => (g, rg, hq, mf, cd, fg, L, O)) (fun dd l1 l2 => (upd dd 5 3, l1, l2, bm, rr, kt)) (fun L O P hP => ?_) (fun dd l1 l2 H L O => ⟨oc_end (by unfold q_e; simp) H.rel H.nxt rfl (fun j _ h => pk_un h), fun Q hQ => ?_⟩) (fun _ _ _ _ => rfl) (fun _ _ _ _ _ hs => ⟨by repeat first | exact hs | apply lo_upd, rfl, rfl, rfl⟩) (by first | exact Or.inr (fun _ _ => rfl) | exact Or.inl (by unfold q_e; decide)) (fun _ _ _ => rfl)
  · unfold wp_Pr_perform
    refine pr_op ?_
    rw [ho]
    repeat first | refine bq_t (by decide) ?_ | refine bq_f (by decide) ?_
    unfold wp_Pr_special2
    refine pr_rs ⟨fI_in w 21, fun a ea => pr_rt ⟨fI_in w 16, fun b eb => pr_fun ?_⟩⟩
    subst ea
    subst eb
    rw [hf]
    repeat first | refine bq_t (by decide) ?_ | refine bq_f (by decide) ?_
    exact hP
  · unfold wp_Md_operate
    rw [ho]
    repeat first | refine bq_t (by decide) ?_ | refine bq_f (by decide) ?_
    rw [H.e9, hf]
    repeat first | refine bq_t (by decide) ?_ | refine bq_f (by decide) ?_
    exact md_ends H.e5 hQ

theorem i_z57 (H : pre mn g rg hq mf cd fg w dd bm rr kt) (ho : zz_ushr w 26 = 28) (hf : w &&& 63 = 57) : pfx ms mn g rg hq mf cd fg w dd bm rr kt := by
  refine pfx_mk H 3 (fun L O => (g, rg, hq, mf, cd, fg, L, O)) (fun dd l1 l2 => (upd dd 5 3, l1, l2, bm, rr, kt)) (fun L O P hP => ?_) (fun dd l1 l2 H L O => ⟨oc_end (by unfold q_e; simp) H.rel H.nxt rfl (fun j _ h => pk_un h), fun Q hQ => ?_⟩) (fun _ _ _ _ => rfl) (fun _ _ _ _ _ hs => ⟨by repeat first | exact hs | apply lo_upd, rfl, rfl, rfl⟩) (by first | exact Or.inr (fun _ _ => rfl) | exact Or.inl (by unfold q_e; decide)) (fun _ _ _ => rfl)
  · unfold wp_Pr_perform
    refine pr_op ?_
    rw [ho]
    repeat first | refine bq_t (by decide) ?_ | refine bq_f (by decide) ?_
    unfold wp_Pr_special2
    refine pr_rs ⟨fI_in w 21, fun a ea => pr_rt ⟨fI_in w 16, fun b eb => pr_fun ?_⟩⟩
    subst ea
    subst eb
    rw [hf]
    repeat first | refine bq_t (by decide) ?_ | refine bq_f (by decide) ?_
    exact hP
  · unfold wp_Md_operate
    rw [ho]
    repeat first | refine bq_t (by decide) ?_ | refine bq_f (by decide) ?_
    rw [H.e9, hf]
    repeat first | refine bq_t (by decide) ?_ | refine bq_f (by decide) ?_
    exact md_ends H.e5 hQ

theorem i_z58 (H : pre mn g rg hq mf cd fg w dd bm rr kt) (ho : zz_ushr w 26 = 28) (hf : w &&& 63 = 58) : pfx ms mn g rg hq mf cd fg w dd bm rr kt := by
  refine pfx_mk H 3 (fun L O => (g, rg, hq, mf, cd, fg, L, O)) (fun dd l1 l2 => (upd dd 5 3, l1, l2, bm, rr, kt)) (fun L O P hP => ?_) (fun dd l1 l2 H L O => ⟨oc_end (by unfold q_e; simp) H.rel H.nxt rfl (fun j _ h => pk_un h), fun Q hQ => ?_⟩) (fun _ _ _ _ => rfl) (fun _ _ _ _ _ hs => ⟨by repeat first | exact hs | apply lo_upd, rfl, rfl, rfl⟩) (by first | exact Or.inr (fun _ _ => rfl) | exact Or.inl (by unfold q_e; decide)) (fun _ _ _ => rfl)
  · unfold wp_Pr_perform
    refine pr_op ?_
    rw [ho]
    repeat first | refine bq_t (by decide) ?_ | refine bq_f (by decide) ?_
    unfold wp_Pr_special2
    refine pr_rs ⟨fI_in w 21, fun a ea => pr_rt ⟨fI_in w 16, fun b eb => pr_fun ?_⟩⟩
    subst ea
    subst eb
    rw [hf]
    repeat first | refine bq_t (by decide) ?_ | refine bq_f (by decide) ?_
    exact hP
  · unfold wp_Md_operate
    rw [ho]
    repeat first | refine bq_t (by decide) ?_ | refine bq_f (by decide) ?_
    rw [H.e9, hf]
    repeat first | refine bq_t (by decide) ?_ | refine bq_f (by decide) ?_
    exact md_ends H.e5 hQ

theorem i_z59 (H : pre mn g rg hq mf cd fg w dd bm rr kt) (ho : zz_ushr w 26 = 28) (hf : w &&& 63 = 59) : pfx ms mn g rg hq mf cd fg w dd bm rr kt := by
  refine pfx_mk H 3 (fun L O => (g, rg, hq, mf, cd, fg, L, O)) (fun dd l1 l2 => (upd dd 5 3, l1, l2, bm, rr, kt)) (fun L O P hP => ?_) (fun dd l1 l2 H L O => ⟨oc_end (by unfold q_e; simp) H.rel H.nxt rfl (fun j _ h => pk_un h), fun Q hQ => ?_⟩) (fun _ _ _ _ => rfl) (fun _ _ _ _ _ hs => ⟨by repeat first | exact hs | apply lo_upd, rfl, rfl, rfl⟩) (by first | exact Or.inr (fun _ _ => rfl) | exact Or.inl (by unfold q_e; decide)) (fun _ _ _ => rfl)
  · unfold wp_Pr_perform
    refine pr_op ?_
    rw [ho]
    repeat first | refine bq_t (by decide) ?_ | refine bq_f (by decide) ?_
    unfold wp_Pr_special2
    refine pr_rs ⟨fI_in w 21, fun a ea => pr_rt ⟨fI_in w 16, fun b eb => pr_fun ?_⟩⟩
    subst ea
    subst eb
    rw [hf]
    repeat first | refine bq_t (by decide) ?_ | refine bq_f (by decide) ?_
    exact hP
  · unfold wp_Md_operate
    rw [ho]
    repeat first | refine bq_t (by decide) ?_ | refine bq_f (by decide) ?_
    rw [H.e9, hf]
    repeat first | refine bq_t (by decide) ?_ | refine bq_f (by decide) ?_
    exact md_ends H.e5 hQ

theorem i_z60 (H : pre mn g rg hq mf cd fg w dd bm rr kt) (ho : zz_ushr w 26 = 28) (hf : w &&& 63 = 60) : pfx ms mn g rg hq mf cd fg w dd bm rr kt := by
  refine pfx_mk H 3 (fun L O => (g, rg, hq, mf, cd, fg, L, O)) (fun dd l1 l2 => (upd dd 5 3, l1, l2, bm, rr, kt)) (fun L O P hP => ?_) (fun dd l1 l2 H L O => ⟨oc_end (by unfold q_e; simp) H.rel H.nxt rfl (fun j _ h => pk_un h), fun Q hQ => ?_⟩) (fun _ _ _ _ => rfl) (fun _ _ _ _ _ hs => ⟨by repeat first | exact hs | apply lo_upd, rfl, rfl, rfl⟩) (by first | exact Or.inr (fun _ _ => rfl) | exact Or.inl (by unfold q_e; decide)) (fun _ _ _ => rfl)
  · unfold wp_Pr_perform
    refine pr_op ?_
    rw [ho]
    repeat first | refine bq_t (by decide) ?_ | refine bq_f (by decide) ?_
    unfold wp_Pr_special2
    refine pr_rs ⟨fI_in w 21, fun a ea => pr_rt ⟨fI_in w 16, fun b eb => pr_fun ?_⟩⟩
    subst ea
    subst eb
    rw [hf]
    repeat first | refine bq_t (by decide) ?_ | refine bq_f (by decide) ?_
    exact hP
  · unfold wp_Md_operate
    rw [ho]
    repeat first | refine bq_t (by decide) ?_ | refine bq_f (by decide) ?_
    rw [H.e9, hf]
    repeat first | refine bq_t (by decide) ?_ | refine bq_f (by decide) ?_
    exact md_ends H.e5 hQ

theorem i_z61 (H : pre mn g rg hq mf cd fg w dd bm rr kt) (ho : zz_ushr w 26 = 28) (hf : w &&& 63 = 61) : pfx ms mn g rg hq mf cd fg w dd bm rr kt := by
  refine pfx_mk H 3 (fun L O => (g, rg, hq, mf, cd, fg, L, O)) (fun dd l1 l2 => (upd dd 5 3, l1, l2, bm, rr, kt)) (fun L O P hP => ?_) (fun dd l1 l2 H L O => ⟨oc_end (by unfold q_e; simp) H.rel H.nxt rfl (fun j _ h => pk_un h), fun Q hQ => ?_⟩) (fun _ _ _ _ => rfl) (fun _ _ _ _ _ hs => ⟨by repeat first | exact hs | apply lo_upd, rfl, rfl, rfl⟩) (by first | exact Or.inr (fun _ _ => rfl) | exact Or.inl (by unfold q_e; decide)) (fun _ _ _ => rfl)
  · unfold wp_Pr_perform
    refine pr_op ?_
    rw [ho]
    repeat first | refine bq_t (by decide) ?_ | refine bq_f (by decide) ?_
    unfold wp_Pr_special2
    refine pr_rs ⟨fI_in w 21, fun a ea => pr_rt ⟨fI_in w 16, fun b eb => pr_fun ?_⟩⟩
    subst ea
    subst eb
    rw [hf]
    repeat first | refine bq_t (by decide) ?_ | refine bq_f (by decide) ?_
    exact hP
  · unfold wp_Md_operate
    rw [ho]
    repeat first | refine bq_t (by decide) ?_ | refine bq_f (by decide) ?_
    rw [H.e9, hf]
    repeat first | refine bq_t (by decide) ?_ | refine bq_f (by decide) ?_
    exact md_ends H.e5 hQ

theorem i_z62 (H : pre mn g rg hq mf cd fg w dd bm rr kt) (ho : zz_ushr w 26 = 28) (hf : w &&& 63 = 62) : pfx ms mn g rg hq mf cd fg w dd bm rr kt := by
  refine pfx_mk H 3 (fun L O => (g, rg, hq, mf, cd, fg, L, O)) (fun dd l1 l2 => (upd dd 5 3, l1, l2, bm, rr, kt)) (fun L O P hP => ?_) (fun dd l1 l2 H L O => ⟨oc_end (by unfold q_e; simp) H.rel H.nxt rfl (fun j _ h => pk_un h), fun Q hQ => ?_⟩) (fun _ _ _ _ => rfl) (fun _ _ _ _ _ hs => ⟨by repeat first | exact hs | apply lo_upd, rfl, rfl, rfl⟩) (by first | exact Or.inr (fun _ _ => rfl) | exact Or.inl (by unfold q_e; decide)) (fun _ _ _ => rfl)
  · unfold wp_Pr_perform
    refine pr_op ?_
    rw [ho]
    repeat first | refine bq_t (by decide) ?_ | refine bq_f (by decide) ?_
    unfold wp_Pr_special2
    refine pr_rs ⟨fI_in w 21, fun a ea => pr_rt ⟨fI_in w 16, fun b eb => pr_fun ?_⟩⟩
    subst ea
    subst eb
    rw [hf]
    repeat first | refine bq_t (by decide) ?_ | refine bq_f (by decide) ?_
    exact hP
  · unfold wp_Md_operate
    rw [ho]
    repeat first | refine bq_t (by decide) ?_ | refine bq_f (by decide) ?_
    rw [H.e9, hf]
    repeat first | refine bq_t (by decide) ?_ | refine bq_f (by decide) ?_
    exact md_ends H.e5 hQ

theorem i_z63 (H : pre mn g rg hq mf cd fg w dd bm rr kt) (ho : zz_ushr w 26 = 28) (hf : w &&& 63 = 63) : pfx ms mn g rg hq mf cd fg w dd bm rr kt := by
  refine pfx_mk H 3 (fun L O => (g, rg, hq, mf, cd, fg, L, O)) (fun dd l1 l2 => (upd dd 5 3, l1, l2, bm, rr, kt)) (fun L O P hP => ?_) (fun dd l1 l2 H L O => ⟨oc_end (by unfold q_e; simp) H.rel H.nxt rfl (fun j _ h => pk_un h), fun Q hQ => ?_⟩) (fun _ _ _ _ => rfl) (fun _ _ _ _ _ hs => ⟨by repeat first | exact hs | apply lo_upd, rfl, rfl, rfl⟩) (by first | exact Or.inr (fun _ _ => rfl) | exact Or.inl (by unfold q_e; decide)) (fun _ _ _ => rfl)
  · unfold wp_Pr_perform
    refine pr_op ?_
    rw [ho]
    repeat first | refine bq_t (by decide) ?_ | refine bq_f (by decide) ?_
    unfold wp_Pr_special2
    refine pr_rs ⟨fI_in w 21, fun a ea => pr_rt ⟨fI_in w 16, fun b eb => pr_fun ?_⟩⟩
    subst ea
    subst eb
    rw [hf]
    repeat first | refine bq_t (by decide) ?_ | refine bq_f (by decide) ?_
    exact hP
  · unfold wp_Md_operate
    rw [ho]
    repeat first | refine bq_t (by decide) ?_ | refine bq_f (by decide) ?_
    rw [H.e9, hf]
    repeat first | refine bq_t (by decide) ?_ | refine bq_f (by decide) ?_
    exact md_ends H.e5 hQ

theorem i_o16 (H : pre mn g rg hq mf cd fg w dd bm rr kt) (ho : zz_ushr w 26 = 16) : pfx ms mn g rg hq mf cd fg w dd bm rr kt := by
  refine pfx_mk H 3 (fun L O => (g, rg, hq, mf, cd, fg, L, O)) (fun dd l1 l2 => (upd dd 5 3, l1, l2, bm, rr, kt)) (fun L O P hP => ?_) (fun dd l1 l2 H L O => ⟨oc_end (by unfold q_e; simp) H.rel H.nxt rfl (fun j _ h => pk_un h), fun Q hQ => ?_⟩) (fun _ _ _ _ => rfl) (fun _ _ _ _ _ hs => ⟨by repeat first | exact hs | apply lo_upd, rfl, rfl, rfl⟩) (by first | exact Or.inr (fun _ _ => rfl) | exact Or.inl (by unfold q_e; decide)) (fun _ _ _ => rfl)
  · unfold wp_Pr_perform
    refine pr_op ?_
    rw [ho]
    repeat first | refine bq_t (by decide) ?_ | refine bq_f (by decide) ?_
    unfold wp_Pr_access
    refine pr_op ?_
    rw [ho]
    repeat first | refine bq_t (by decide) ?_ | refine bq_f (by decide) ?_
    exact hP
  · unfold wp_Md_operate
    rw [ho]
    repeat first | refine bq_t (by decide) ?_ | refine bq_f (by decide) ?_
    exact md_ends H.e5 hQ

theorem i_o18 (H : pre mn g rg hq mf cd fg w dd bm rr kt) (ho : zz_ushr w 26 = 18) : pfx ms mn g rg hq mf cd fg w dd bm rr kt := by
  refine pfx_mk H 3 (fun L O => (g, rg, hq, mf, cd, fg, L, O)) (fun dd l1 l2 => (upd dd 5 3, l1, l2, bm, rr, kt)) (fun L O P hP => ?_) (fun dd l1 l2 H L O => ⟨oc_end (by unfold q_e; simp) H.rel H.nxt rfl (fun j _ h => pk_un h), fun Q hQ => ?_⟩) (fun _ _ _ _ => rfl) (fun _ _ _ _ _ hs => ⟨by repeat first | exact hs | apply lo_upd, rfl, rfl, rfl⟩) (by first | exact Or.inr (fun _ _ => rfl) | exact Or.inl (by unfold q_e; decide)) (fun _ _ _ => rfl)
  · unfold wp_Pr_perform
    refine pr_op ?_
    rw [ho]
    repeat first | refine bq_t (by decide) ?_ | refine bq_f (by decide) ?_
    unfold wp_Pr_access
    refine pr_op ?_
    rw [ho]
    repeat first | refine bq_t (by decide) ?_ | refine bq_f (by decide) ?_
    exact hP
  · unfold wp_Md_operate
    rw [ho]
    repeat first | refine bq_t (by decide) ?_ | refine bq_f (by decide) ?_
    exact md_ends H.e5 hQ

theorem i_o19 (H : pre mn g rg hq mf cd fg w dd bm rr kt) (ho : zz_ushr w 26 = 19) : pfx ms mn g rg hq mf cd fg w dd bm rr kt := by
  refine pfx_mk H 3 (fun L O => (g, rg, hq, mf, cd, fg, L, O)) (fun dd l1 l2 => (upd dd 5 3, l1, l2, bm, rr, kt)) (fun L O P hP => ?_) (fun dd l1 l2 H L O => ⟨oc_end (by unfold q_e; simp) H.rel H.nxt rfl (fun j _ h => pk_un h), fun Q hQ => ?_⟩) (fun _ _ _ _ => rfl) (fun _ _ _ _ _ hs => ⟨by repeat first | exact hs | apply lo_upd, rfl, rfl, rfl⟩) (by first | exact Or.inr (fun _ _ => rfl) | exact Or.inl (by unfold q_e; decide)) (fun _ _ _ => rfl)
  · unfold wp_Pr_perform
    refine pr_op ?_
    rw [ho]
    repeat first | refine bq_t (by decide) ?_ | refine bq_f (by decide) ?_
    unfold wp_Pr_access
    refine pr_op ?_
    rw [ho]
    repeat first | refine bq_t (by decide) ?_ | refine bq_f (by decide) ?_
    exact hP
  · unfold wp_Md_operate
    rw [ho]
    repeat first | refine bq_t (by decide) ?_ | refine bq_f (by decide) ?_
    exact md_ends H.e5 hQ

theorem i_o24 (H : pre mn g rg hq mf cd fg w dd bm rr kt) (ho : zz_ushr w 26 = 24) : pfx ms mn g rg hq mf cd fg w dd bm rr kt := by
  refine pfx_mk H 3 (fun L O => (g, rg, hq, mf, cd, fg, L, O)) (fun dd l1 l2 => (upd dd 5 3, l1, l2, bm, rr, kt)) (fun L O P hP => ?_) (fun dd l1 l2 H L O => ⟨oc_end (by unfold q_e; simp) H.rel H.nxt rfl (fun j _ h => pk_un h), fun Q hQ => ?_⟩) (fun _ _ _ _ => rfl) (fun _ _ _ _ _ hs => ⟨by repeat first | exact hs | apply lo_upd, rfl, rfl, rfl⟩) (by first | exact Or.inr (fun _ _ => rfl) | exact Or.inl (by unfold q_e; decide)) (fun _ _ _ => rfl)
  · unfold wp_Pr_perform
    refine pr_op ?_
    rw [ho]
    repeat first | refine bq_t (by decide) ?_ | refine bq_f (by decide) ?_
    unfold wp_Pr_access
    refine pr_op ?_
    rw [ho]
    repeat first | refine bq_t (by decide) ?_ | refine bq_f (by decide) ?_
    exact hP
  · unfold wp_Md_operate
    rw [ho]
    repeat first | refine bq_t (by decide) ?_ | refine bq_f (by decide) ?_
    exact md_ends H.e5 hQ

theorem i_o25 (H : pre mn g rg hq mf cd fg w dd bm rr kt) (ho : zz_ushr w 26 = 25) : pfx ms mn g rg hq mf cd fg w dd bm rr kt := by
  refine pfx_mk H 3 (fun L O => (g, rg, hq, mf, cd, fg, L, O)) (fun dd l1 l2 => (upd dd 5 3, l1, l2, bm, rr, kt)) (fun L O P hP => ?_) (fun dd l1 l2 H L O => ⟨oc_end (by unfold q_e; simp) H.rel H.nxt rfl (fun j _ h => pk_un h), fun Q hQ => ?_⟩) (fun _ _ _ _ => rfl) (fun _ _ _ _ _ hs => ⟨by repeat first | exact hs | apply lo_upd, rfl, rfl, rfl⟩) (by first | exact Or.inr (fun _ _ => rfl) | exact Or.inl (by unfold q_e; decide)) (fun _ _ _ => rfl)
  · unfold wp_Pr_perform
    refine pr_op ?_
    rw [ho]
    repeat first | refine bq_t (by decide) ?_ | refine bq_f (by decide) ?_
    unfold wp_Pr_access
    refine pr_op ?_
    rw [ho]
    repeat first | refine bq_t (by decide) ?_ | refine bq_f (by decide) ?_
    exact hP
  · unfold wp_Md_operate
    rw [ho]
    repeat first | refine bq_t (by decide) ?_ | refine bq_f (by decide) ?_
    exact md_ends H.e5 hQ

theorem i_o26 (H : pre mn g rg hq mf cd fg w dd bm rr kt) (ho : zz_ushr w 26 = 26) : pfx ms mn g rg hq mf cd fg w dd bm rr kt := by
  refine pfx_mk H 3 (fun L O => (g, rg, hq, mf, cd, fg, L, O)) (fun dd l1 l2 => (upd dd 5 3, l1, l2, bm, rr, kt)) (fun L O P hP => ?_) (fun dd l1 l2 H L O => ⟨oc_end (by unfold q_e; simp) H.rel H.nxt rfl (fun j _ h => pk_un h), fun Q hQ => ?_⟩) (fun _ _ _ _ => rfl) (fun _ _ _ _ _ hs => ⟨by repeat first | exact hs | apply lo_upd, rfl, rfl, rfl⟩) (by first | exact Or.inr (fun _ _ => rfl) | exact Or.inl (by unfold q_e; decide)) (fun _ _ _ => rfl)
  · unfold wp_Pr_perform
    refine pr_op ?_
    rw [ho]
    repeat first | refine bq_t (by decide) ?_ | refine bq_f (by decide) ?_
    unfold wp_Pr_access
    refine pr_op ?_
    rw [ho]
    repeat first | refine bq_t (by decide) ?_ | refine bq_f (by decide) ?_
    exact hP
  · unfold wp_Md_operate
    rw [ho]
    repeat first | refine bq_t (by decide) ?_ | refine bq_f (by decide) ?_
    exact md_ends H.e5 hQ

theorem i_o27 (H : pre mn g rg hq mf cd fg w dd bm rr kt) (ho : zz_ushr w 26 = 27) : pfx ms mn g rg hq mf cd fg w dd bm rr kt := by
  refine pfx_mk H 3 (fun L O => (g, rg, hq, mf, cd, fg, L, O)) (fun dd l1 l2 => (upd dd 5 3, l1, l2, bm, rr, kt)) (fun L O P hP => ?_) (fun dd l1 l2 H L O => ⟨oc_end (by unfold q_e; simp) H.rel H.nxt rfl (fun j _ h => pk_un h), fun Q hQ => ?_⟩) (fun _ _ _ _ => rfl) (fun _ _ _ _ _ hs => ⟨by repeat first | exact hs | apply lo_upd, rfl, rfl, rfl⟩) (by first | exact Or.inr (fun _ _ => rfl) | exact Or.inl (by unfold q_e; decide)) (fun _ _ _ => rfl)
  · unfold wp_Pr_perform
    refine pr_op ?_
    rw [ho]
    repeat first | refine bq_t (by decide) ?_ | refine bq_f (by decide) ?_
    unfold wp_Pr_access
    refine pr_op ?_
    rw [ho]
    repeat first | refine bq_t (by decide) ?_ | refine bq_f (by decide) ?_
    exact hP
  · unfold wp_Md_operate
    rw [ho]
    repeat first | refine bq_t (by decide) ?_ | refine bq_f (by decide) ?_
    exact md_ends H.e5 hQ

theorem i_o29 (H : pre mn g rg hq mf cd fg w dd bm rr kt) (ho : zz_ushr w 26 = 29) : pfx ms mn g rg hq mf cd fg w dd bm rr kt := by
  refine pfx_mk H 3 (fun L O => (g, rg, hq, mf, cd, fg, L, O)) (fun dd l1 l2 => (upd dd 5 3, l1, l2, bm, rr, kt)) (fun L O P hP => ?_) (fun dd l1 l2 H L O => ⟨oc_end (by unfold q_e; simp) H.rel H.nxt rfl (fun j _ h => pk_un h), fun Q hQ => ?_⟩) (fun _ _ _ _ => rfl) (fun _ _ _ _ _ hs => ⟨by repeat first | exact hs | apply lo_upd, rfl, rfl, rfl⟩) (by first | exact Or.inr (fun _ _ => rfl) | exact Or.inl (by unfold q_e; decide)) (fun _ _ _ => rfl)
  · unfold wp_Pr_perform
    refine pr_op ?_
    rw [ho]
    repeat first | refine bq_t (by decide) ?_ | refine bq_f (by decide) ?_
    unfold wp_Pr_access
    refine pr_op ?_
    rw [ho]
    repeat first | refine bq_t (by decide) ?_ | refine bq_f (by decide) ?_
    exact hP
  · unfold wp_Md_operate
    rw [ho]
    repeat first | refine bq_t (by decide) ?_ | refine bq_f (by decide) ?_
    exact md_ends H.e5 hQ

theorem i_o30 (H : pre mn g rg hq mf cd fg w dd bm rr kt) (ho : zz_ushr w 26 = 30) : pfx ms mn g rg hq mf cd fg w dd bm rr kt := by
  refine pfx_mk H 3 (fun L O => (g, rg, hq, mf, cd, fg, L, O)) (fun dd l1 l2 => (upd dd 5 3, l1, l2, bm, rr, kt)) (fun L O P hP => ?_) (fun dd l1 l2 H L O => ⟨oc_end (by unfold q_e; simp) H.rel H.nxt rfl (fun j _ h => pk_un h), fun Q hQ => ?_⟩) (fun _ _ _ _ => rfl) (fun _ _ _ _ _ hs => ⟨by repeat first | exact hs | apply lo_upd, rfl, rfl, rfl⟩) (by first | exact Or.inr (fun _ _ => rfl) | exact Or.inl (by unfold q_e; decide)) (fun _ _ _ => rfl)
  · unfold wp_Pr_perform
    refine pr_op ?_
    rw [ho]
    repeat first | refine bq_t (by decide) ?_ | refine bq_f (by decide) ?_
    unfold wp_Pr_access
    refine pr_op ?_
    rw [ho]
    repeat first | refine bq_t (by decide) ?_ | refine bq_f (by decide) ?_
    exact hP
  · unfold wp_Md_operate
    rw [ho]
    repeat first | refine bq_t (by decide) ?_ | refine bq_f (by decide) ?_
    exact md_ends H.e5 hQ

theorem i_o31 (H : pre mn g rg hq mf cd fg w dd bm rr kt) (ho : zz_ushr w 26 = 31) : pfx ms mn g rg hq mf cd fg w dd bm rr kt := by
  refine pfx_mk H 3 (fun L O => (g, rg, hq, mf, cd, fg, L, O)) (fun dd l1 l2 => (upd dd 5 3, l1, l2, bm, rr, kt)) (fun L O P hP => ?_) (fun dd l1 l2 H L O => ⟨oc_end (by unfold q_e; simp) H.rel H.nxt rfl (fun j _ h => pk_un h), fun Q hQ => ?_⟩) (fun _ _ _ _ => rfl) (fun _ _ _ _ _ hs => ⟨by repeat first | exact hs | apply lo_upd, rfl, rfl, rfl⟩) (by first | exact Or.inr (fun _ _ => rfl) | exact Or.inl (by unfold q_e; decide)) (fun _ _ _ => rfl)
  · unfold wp_Pr_perform
    refine pr_op ?_
    rw [ho]
    repeat first | refine bq_t (by decide) ?_ | refine bq_f (by decide) ?_
    unfold wp_Pr_access
    refine pr_op ?_
    rw [ho]
    repeat first | refine bq_t (by decide) ?_ | refine bq_f (by decide) ?_
    exact hP
  · unfold wp_Md_operate
    rw [ho]
    repeat first | refine bq_t (by decide) ?_ | refine bq_f (by decide) ?_
    exact md_ends H.e5 hQ

theorem i_o39 (H : pre mn g rg hq mf cd fg w dd bm rr kt) (ho : zz_ushr w 26 = 39) : pfx ms mn g rg hq mf cd fg w dd bm rr kt := by
  refine pfx_mk H 3 (fun L O => (g, rg, hq, mf, cd, fg, L, O)) (fun dd l1 l2 => (upd dd 5 3, l1, l2, bm, rr, kt)) (fun L O P hP => ?_) (fun dd l1 l2 H L O => ⟨oc_end (by unfold q_e; simp) H.rel H.nxt rfl (fun j _ h => pk_un h), fun Q hQ => ?_⟩) (fun _ _ _ _ => rfl) (fun _ _ _ _ _ hs => ⟨by repeat first | exact hs | apply lo_upd, rfl, rfl, rfl⟩) (by first | exact Or.inr (fun _ _ => rfl) | exact Or.inl (by unfold q_e; decide)) (fun _ _ _ => rfl)
  · unfold wp_Pr_perform
    refine pr_op ?_
    rw [ho]
    repeat first | refine bq_t (by decide) ?_ | refine bq_f (by decide) ?_
    unfold wp_Pr_access
    refine pr_op ?_
    rw [ho]
    repeat first | refine bq_t (by decide) ?_ | refine bq_f (by decide) ?_
    exact hP
  · unfold wp_Md_operate
    rw [ho]
    repeat first | refine bq_t (by decide) ?_ | refine bq_f (by decide) ?_
    unfold wp_Md_memories
    refine md_rs H.e9 H.rel (md_offset H.e9 (fun at_ eat => md_field H.e9 ?_))
    subst eat
    repeat first | refine bq_t (by decide) ?_ | refine bq_f (by decide) ?_
    exact md_ends H.e5 hQ

theorem i_o44 (H : pre mn g rg hq mf cd fg w dd bm rr kt) (ho : zz_ushr w 26 = 44) : pfx ms mn g rg hq mf cd fg w dd bm rr kt := by
  refine pfx_mk H 3 (fun L O => (g, rg, hq, mf, cd, fg, L, O)) (fun dd l1 l2 => (upd dd 5 3, l1, l2, bm, rr, kt)) (fun L O P hP => ?_) (fun dd l1 l2 H L O => ⟨oc_end (by unfold q_e; simp) H.rel H.nxt rfl (fun j _ h => pk_un h), fun Q hQ => ?_⟩) (fun _ _ _ _ => rfl) (fun _ _ _ _ _ hs => ⟨by repeat first | exact hs | apply lo_upd, rfl, rfl, rfl⟩) (by first | exact Or.inr (fun _ _ => rfl) | exact Or.inl (by unfold q_e; decide)) (fun _ _ _ => rfl)
  · unfold wp_Pr_perform
    refine pr_op ?_
    rw [ho]
    repeat first | refine bq_t (by decide) ?_ | refine bq_f (by decide) ?_
    unfold wp_Pr_access
    refine pr_op ?_
    rw [ho]
    repeat first | refine bq_t (by decide) ?_ | refine bq_f (by decide) ?_
    exact hP
  · unfold wp_Md_operate
    rw [ho]
    repeat first | refine bq_t (by decide) ?_ | refine bq_f (by decide) ?_
    unfold wp_Md_memories
    refine md_rs H.e9 H.rel (md_offset H.e9 (fun at_ eat => md_field H.e9 ?_))
    subst eat
    repeat first | refine bq_t (by decide) ?_ | refine bq_f (by decide) ?_
    exact md_ends H.e5 hQ

theorem i_o45 (H : pre mn g rg hq mf cd fg w dd bm rr kt) (ho : zz_ushr w 26 = 45) : pfx ms mn g rg hq mf cd fg w dd bm rr kt := by
  refine pfx_mk H 3 (fun L O => (g, rg, hq, mf, cd, fg, L, O)) (fun dd l1 l2 => (upd dd 5 3, l1, l2, bm, rr, kt)) (fun L O P hP => ?_) (fun dd l1 l2 H L O => ⟨oc_end (by unfold q_e; simp) H.rel H.nxt rfl (fun j _ h => pk_un h), fun Q hQ => ?_⟩) (fun _ _ _ _ => rfl) (fun _ _ _ _ _ hs => ⟨by repeat first | exact hs | apply lo_upd, rfl, rfl, rfl⟩) (by first | exact Or.inr (fun _ _ => rfl) | exact Or.inl (by unfold q_e; decide)) (fun _ _ _ => rfl)
  · unfold wp_Pr_perform
    refine pr_op ?_
    rw [ho]
    repeat first | refine bq_t (by decide) ?_ | refine bq_f (by decide) ?_
    unfold wp_Pr_access
    refine pr_op ?_
    rw [ho]
    repeat first | refine bq_t (by decide) ?_ | refine bq_f (by decide) ?_
    exact hP
  · unfold wp_Md_operate
    rw [ho]
    repeat first | refine bq_t (by decide) ?_ | refine bq_f (by decide) ?_
    unfold wp_Md_memories
    refine md_rs H.e9 H.rel (md_offset H.e9 (fun at_ eat => md_field H.e9 ?_))
    subst eat
    repeat first | refine bq_t (by decide) ?_ | refine bq_f (by decide) ?_
    exact md_ends H.e5 hQ

theorem i_o47 (H : pre mn g rg hq mf cd fg w dd bm rr kt) (ho : zz_ushr w 26 = 47) : pfx ms mn g rg hq mf cd fg w dd bm rr kt := by
  refine pfx_mk H 3 (fun L O => (g, rg, hq, mf, cd, fg, L, O)) (fun dd l1 l2 => (upd dd 5 3, l1, l2, bm, rr, kt)) (fun L O P hP => ?_) (fun dd l1 l2 H L O => ⟨oc_end (by unfold q_e; simp) H.rel H.nxt rfl (fun j _ h => pk_un h), fun Q hQ => ?_⟩) (fun _ _ _ _ => rfl) (fun _ _ _ _ _ hs => ⟨by repeat first | exact hs | apply lo_upd, rfl, rfl, rfl⟩) (by first | exact Or.inr (fun _ _ => rfl) | exact Or.inl (by unfold q_e; decide)) (fun _ _ _ => rfl)
  · unfold wp_Pr_perform
    refine pr_op ?_
    rw [ho]
    repeat first | refine bq_t (by decide) ?_ | refine bq_f (by decide) ?_
    unfold wp_Pr_access
    refine pr_op ?_
    rw [ho]
    repeat first | refine bq_t (by decide) ?_ | refine bq_f (by decide) ?_
    exact hP
  · unfold wp_Md_operate
    rw [ho]
    repeat first | refine bq_t (by decide) ?_ | refine bq_f (by decide) ?_
    unfold wp_Md_memories
    refine md_rs H.e9 H.rel (md_offset H.e9 (fun at_ eat => md_field H.e9 ?_))
    subst eat
    repeat first | refine bq_t (by decide) ?_ | refine bq_f (by decide) ?_
    exact md_ends H.e5 hQ

theorem i_o50 (H : pre mn g rg hq mf cd fg w dd bm rr kt) (ho : zz_ushr w 26 = 50) : pfx ms mn g rg hq mf cd fg w dd bm rr kt := by
  refine pfx_mk H 3 (fun L O => (g, rg, hq, mf, cd, fg, L, O)) (fun dd l1 l2 => (upd dd 5 3, l1, l2, bm, rr, kt)) (fun L O P hP => ?_) (fun dd l1 l2 H L O => ⟨oc_end (by unfold q_e; simp) H.rel H.nxt rfl (fun j _ h => pk_un h), fun Q hQ => ?_⟩) (fun _ _ _ _ => rfl) (fun _ _ _ _ _ hs => ⟨by repeat first | exact hs | apply lo_upd, rfl, rfl, rfl⟩) (by first | exact Or.inr (fun _ _ => rfl) | exact Or.inl (by unfold q_e; decide)) (fun _ _ _ => rfl)
  · unfold wp_Pr_perform
    refine pr_op ?_
    rw [ho]
    repeat first | refine bq_t (by decide) ?_ | refine bq_f (by decide) ?_
    unfold wp_Pr_access
    refine pr_op ?_
    rw [ho]
    repeat first | refine bq_t (by decide) ?_ | refine bq_f (by decide) ?_
    exact hP
  · unfold wp_Md_operate
    rw [ho]
    repeat first | refine bq_t (by decide) ?_ | refine bq_f (by decide) ?_
    unfold wp_Md_memories
    refine md_rs H.e9 H.rel (md_offset H.e9 (fun at_ eat => md_field H.e9 ?_))
    subst eat
    repeat first | refine bq_t (by decide) ?_ | refine bq_f (by decide) ?_
    exact md_ends H.e5 hQ

theorem i_o52 (H : pre mn g rg hq mf cd fg w dd bm rr kt) (ho : zz_ushr w 26 = 52) : pfx ms mn g rg hq mf cd fg w dd bm rr kt := by
  refine pfx_mk H 3 (fun L O => (g, rg, hq, mf, cd, fg, L, O)) (fun dd l1 l2 => (upd dd 5 3, l1, l2, bm, rr, kt)) (fun L O P hP => ?_) (fun dd l1 l2 H L O => ⟨oc_end (by unfold q_e; simp) H.rel H.nxt rfl (fun j _ h => pk_un h), fun Q hQ => ?_⟩) (fun _ _ _ _ => rfl) (fun _ _ _ _ _ hs => ⟨by repeat first | exact hs | apply lo_upd, rfl, rfl, rfl⟩) (by first | exact Or.inr (fun _ _ => rfl) | exact Or.inl (by unfold q_e; decide)) (fun _ _ _ => rfl)
  · unfold wp_Pr_perform
    refine pr_op ?_
    rw [ho]
    repeat first | refine bq_t (by decide) ?_ | refine bq_f (by decide) ?_
    unfold wp_Pr_access
    refine pr_op ?_
    rw [ho]
    repeat first | refine bq_t (by decide) ?_ | refine bq_f (by decide) ?_
    exact hP
  · unfold wp_Md_operate
    rw [ho]
    repeat first | refine bq_t (by decide) ?_ | refine bq_f (by decide) ?_
    unfold wp_Md_memories
    refine md_rs H.e9 H.rel (md_offset H.e9 (fun at_ eat => md_field H.e9 ?_))
    subst eat
    repeat first | refine bq_t (by decide) ?_ | refine bq_f (by decide) ?_
    exact md_ends H.e5 hQ

theorem i_o54 (H : pre mn g rg hq mf cd fg w dd bm rr kt) (ho : zz_ushr w 26 = 54) : pfx ms mn g rg hq mf cd fg w dd bm rr kt := by
  refine pfx_mk H 3 (fun L O => (g, rg, hq, mf, cd, fg, L, O)) (fun dd l1 l2 => (upd dd 5 3, l1, l2, bm, rr, kt)) (fun L O P hP => ?_) (fun dd l1 l2 H L O => ⟨oc_end (by unfold q_e; simp) H.rel H.nxt rfl (fun j _ h => pk_un h), fun Q hQ => ?_⟩) (fun _ _ _ _ => rfl) (fun _ _ _ _ _ hs => ⟨by repeat first | exact hs | apply lo_upd, rfl, rfl, rfl⟩) (by first | exact Or.inr (fun _ _ => rfl) | exact Or.inl (by unfold q_e; decide)) (fun _ _ _ => rfl)
  · unfold wp_Pr_perform
    refine pr_op ?_
    rw [ho]
    repeat first | refine bq_t (by decide) ?_ | refine bq_f (by decide) ?_
    unfold wp_Pr_access
    refine pr_op ?_
    rw [ho]
    repeat first | refine bq_t (by decide) ?_ | refine bq_f (by decide) ?_
    exact hP
  · unfold wp_Md_operate
    rw [ho]
    repeat first | refine bq_t (by decide) ?_ | refine bq_f (by decide) ?_
    unfold wp_Md_memories
    refine md_rs H.e9 H.rel (md_offset H.e9 (fun at_ eat => md_field H.e9 ?_))
    subst eat
    repeat first | refine bq_t (by decide) ?_ | refine bq_f (by decide) ?_
    exact md_ends H.e5 hQ

theorem i_o55 (H : pre mn g rg hq mf cd fg w dd bm rr kt) (ho : zz_ushr w 26 = 55) : pfx ms mn g rg hq mf cd fg w dd bm rr kt := by
  refine pfx_mk H 3 (fun L O => (g, rg, hq, mf, cd, fg, L, O)) (fun dd l1 l2 => (upd dd 5 3, l1, l2, bm, rr, kt)) (fun L O P hP => ?_) (fun dd l1 l2 H L O => ⟨oc_end (by unfold q_e; simp) H.rel H.nxt rfl (fun j _ h => pk_un h), fun Q hQ => ?_⟩) (fun _ _ _ _ => rfl) (fun _ _ _ _ _ hs => ⟨by repeat first | exact hs | apply lo_upd, rfl, rfl, rfl⟩) (by first | exact Or.inr (fun _ _ => rfl) | exact Or.inl (by unfold q_e; decide)) (fun _ _ _ => rfl)
  · unfold wp_Pr_perform
    refine pr_op ?_
    rw [ho]
    repeat first | refine bq_t (by decide) ?_ | refine bq_f (by decide) ?_
    unfold wp_Pr_access
    refine pr_op ?_
    rw [ho]
    repeat first | refine bq_t (by decide) ?_ | refine bq_f (by decide) ?_
    exact hP
  · unfold wp_Md_operate
    rw [ho]
    repeat first | refine bq_t (by decide) ?_ | refine bq_f (by decide) ?_
    unfold wp_Md_memories
    refine md_rs H.e9 H.rel (md_offset H.e9 (fun at_ eat => md_field H.e9 ?_))
    subst eat
    repeat first | refine bq_t (by decide) ?_ | refine bq_f (by decide) ?_
    exact md_ends H.e5 hQ

theorem i_o58 (H : pre mn g rg hq mf cd fg w dd bm rr kt) (ho : zz_ushr w 26 = 58) : pfx ms mn g rg hq mf cd fg w dd bm rr kt := by
  refine pfx_mk H 3 (fun L O => (g, rg, hq, mf, cd, fg, L, O)) (fun dd l1 l2 => (upd dd 5 3, l1, l2, bm, rr, kt)) (fun L O P hP => ?_) (fun dd l1 l2 H L O => ⟨oc_end (by unfold q_e; simp) H.rel H.nxt rfl (fun j _ h => pk_un h), fun Q hQ => ?_⟩) (fun _ _ _ _ => rfl) (fun _ _ _ _ _ hs => ⟨by repeat first | exact hs | apply lo_upd, rfl, rfl, rfl⟩) (by first | exact Or.inr (fun _ _ => rfl) | exact Or.inl (by unfold q_e; decide)) (fun _ _ _ => rfl)
  · unfold wp_Pr_perform
    refine pr_op ?_
    rw [ho]
    repeat first | refine bq_t (by decide) ?_ | refine bq_f (by decide) ?_
    unfold wp_Pr_access
    refine pr_op ?_
    rw [ho]
    repeat first | refine bq_t (by decide) ?_ | refine bq_f (by decide) ?_
    exact hP
  · unfold wp_Md_operate
    rw [ho]
    repeat first | refine bq_t (by decide) ?_ | refine bq_f (by decide) ?_
    unfold wp_Md_memories
    refine md_rs H.e9 H.rel (md_offset H.e9 (fun at_ eat => md_field H.e9 ?_))
    subst eat
    repeat first | refine bq_t (by decide) ?_ | refine bq_f (by decide) ?_
    exact md_ends H.e5 hQ

theorem i_o59 (H : pre mn g rg hq mf cd fg w dd bm rr kt) (ho : zz_ushr w 26 = 59) : pfx ms mn g rg hq mf cd fg w dd bm rr kt := by
  refine pfx_mk H 3 (fun L O => (g, rg, hq, mf, cd, fg, L, O)) (fun dd l1 l2 => (upd dd 5 3, l1, l2, bm, rr, kt)) (fun L O P hP => ?_) (fun dd l1 l2 H L O => ⟨oc_end (by unfold q_e; simp) H.rel H.nxt rfl (fun j _ h => pk_un h), fun Q hQ => ?_⟩) (fun _ _ _ _ => rfl) (fun _ _ _ _ _ hs => ⟨by repeat first | exact hs | apply lo_upd, rfl, rfl, rfl⟩) (by first | exact Or.inr (fun _ _ => rfl) | exact Or.inl (by unfold q_e; decide)) (fun _ _ _ => rfl)
  · unfold wp_Pr_perform
    refine pr_op ?_
    rw [ho]
    repeat first | refine bq_t (by decide) ?_ | refine bq_f (by decide) ?_
    unfold wp_Pr_access
    refine pr_op ?_
    rw [ho]
    repeat first | refine bq_t (by decide) ?_ | refine bq_f (by decide) ?_
    exact hP
  · unfold wp_Md_operate
    rw [ho]
    repeat first | refine bq_t (by decide) ?_ | refine bq_f (by decide) ?_
    unfold wp_Md_memories
    refine md_rs H.e9 H.rel (md_offset H.e9 (fun at_ eat => md_field H.e9 ?_))
    subst eat
    repeat first | refine bq_t (by decide) ?_ | refine bq_f (by decide) ?_
    exact md_ends H.e5 hQ

theorem i_o60 (H : pre mn g rg hq mf cd fg w dd bm rr kt) (ho : zz_ushr w 26 = 60) : pfx ms mn g rg hq mf cd fg w dd bm rr kt := by
  refine pfx_mk H 3 (fun L O => (g, rg, hq, mf, cd, fg, L, O)) (fun dd l1 l2 => (upd dd 5 3, l1, l2, bm, rr, kt)) (fun L O P hP => ?_) (fun dd l1 l2 H L O => ⟨oc_end (by unfold q_e; simp) H.rel H.nxt rfl (fun j _ h => pk_un h), fun Q hQ => ?_⟩) (fun _ _ _ _ => rfl) (fun _ _ _ _ _ hs => ⟨by repeat first | exact hs | apply lo_upd, rfl, rfl, rfl⟩) (by first | exact Or.inr (fun _ _ => rfl) | exact Or.inl (by unfold q_e; decide)) (fun _ _ _ => rfl)
  · unfold wp_Pr_perform
    refine pr_op ?_
    rw [ho]
    repeat first | refine bq_t (by decide) ?_ | refine bq_f (by decide) ?_
    unfold wp_Pr_access
    refine pr_op ?_
    rw [ho]
    repeat first | refine bq_t (by decide) ?_ | refine bq_f (by decide) ?_
    exact hP
  · unfold wp_Md_operate
    rw [ho]
    repeat first | refine bq_t (by decide) ?_ | refine bq_f (by decide) ?_
    unfold wp_Md_memories
    refine md_rs H.e9 H.rel (md_offset H.e9 (fun at_ eat => md_field H.e9 ?_))
    subst eat
    repeat first | refine bq_t (by decide) ?_ | refine bq_f (by decide) ?_
    exact md_ends H.e5 hQ

theorem i_o62 (H : pre mn g rg hq mf cd fg w dd bm rr kt) (ho : zz_ushr w 26 = 62) : pfx ms mn g rg hq mf cd fg w dd bm rr kt := by
  refine pfx_mk H 3 (fun L O => (g, rg, hq, mf, cd, fg, L, O)) (fun dd l1 l2 => (upd dd 5 3, l1, l2, bm, rr, kt)) (fun L O P hP => ?_) (fun dd l1 l2 H L O => ⟨oc_end (by unfold q_e; simp) H.rel H.nxt rfl (fun j _ h => pk_un h), fun Q hQ => ?_⟩) (fun _ _ _ _ => rfl) (fun _ _ _ _ _ hs => ⟨by repeat first | exact hs | apply lo_upd, rfl, rfl, rfl⟩) (by first | exact Or.inr (fun _ _ => rfl) | exact Or.inl (by unfold q_e; decide)) (fun _ _ _ => rfl)
  · unfold wp_Pr_perform
    refine pr_op ?_
    rw [ho]
    repeat first | refine bq_t (by decide) ?_ | refine bq_f (by decide) ?_
    unfold wp_Pr_access
    refine pr_op ?_
    rw [ho]
    repeat first | refine bq_t (by decide) ?_ | refine bq_f (by decide) ?_
    exact hP
  · unfold wp_Md_operate
    rw [ho]
    repeat first | refine bq_t (by decide) ?_ | refine bq_f (by decide) ?_
    unfold wp_Md_memories
    refine md_rs H.e9 H.rel (md_offset H.e9 (fun at_ eat => md_field H.e9 ?_))
    subst eat
    repeat first | refine bq_t (by decide) ?_ | refine bq_f (by decide) ?_
    exact md_ends H.e5 hQ

theorem i_o63 (H : pre mn g rg hq mf cd fg w dd bm rr kt) (ho : zz_ushr w 26 = 63) : pfx ms mn g rg hq mf cd fg w dd bm rr kt := by
  refine pfx_mk H 3 (fun L O => (g, rg, hq, mf, cd, fg, L, O)) (fun dd l1 l2 => (upd dd 5 3, l1, l2, bm, rr, kt)) (fun L O P hP => ?_) (fun dd l1 l2 H L O => ⟨oc_end (by unfold q_e; simp) H.rel H.nxt rfl (fun j _ h => pk_un h), fun Q hQ => ?_⟩) (fun _ _ _ _ => rfl) (fun _ _ _ _ _ hs => ⟨by repeat first | exact hs | apply lo_upd, rfl, rfl, rfl⟩) (by first | exact Or.inr (fun _ _ => rfl) | exact Or.inl (by unfold q_e; decide)) (fun _ _ _ => rfl)
  · unfold wp_Pr_perform
    refine pr_op ?_
    rw [ho]
    repeat first | refine bq_t (by decide) ?_ | refine bq_f (by decide) ?_
    unfold wp_Pr_access
    refine pr_op ?_
    rw [ho]
    repeat first | refine bq_t (by decide) ?_ | refine bq_f (by decide) ?_
    exact hP
  · unfold wp_Md_operate
    rw [ho]
    repeat first | refine bq_t (by decide) ?_ | refine bq_f (by decide) ?_
    unfold wp_Md_memories
    refine md_rs H.e9 H.rel (md_offset H.e9 (fun at_ eat => md_field H.e9 ?_))
    subst eat
    repeat first | refine bq_t (by decide) ?_ | refine bq_f (by decide) ?_
    exact md_ends H.e5 hQ

theorem i_pref (H : pre mn g rg hq mf cd fg w dd bm rr kt) (ho : zz_ushr w 26 = 51) : pfx ms mn g rg hq mf cd fg w dd bm rr kt := by
  refine pfx_mk H 0 (fun L O => (g, rg, hq, mf, cd, fg, L, O)) (fun dd l1 l2 => (dd, l1, l2, bm, rr, kt)) (fun L O P hP => ?_) (fun dd l1 l2 H L O => ⟨oc_0 H.rel H.e5 H.e11 H.e12 H.e13, fun Q hQ => ?_⟩) (fun _ _ _ _ => rfl) (fun _ _ _ _ _ hs => ⟨by repeat first | exact hs | apply lo_upd, rfl, rfl, rfl⟩) (by first | exact Or.inr (fun _ _ => rfl) | exact Or.inl (by unfold q_e; decide)) (fun _ _ _ => rfl)
  · unfold wp_Pr_perform
    refine pr_op ?_
    rw [ho]
    repeat first | refine bq_t (by decide) ?_ | refine bq_f (by decide) ?_
    exact hP
  · unfold wp_Md_operate
    rw [ho]
    repeat first | refine bq_t (by decide) ?_ | refine bq_f (by decide) ?_
    unfold wp_Md_memories
    refine md_rs H.e9 H.rel (md_offset H.e9 (fun at_ eat => md_field H.e9 ?_))
    subst eat
    repeat first | refine bq_t (by decide) ?_ | refine bq_f (by decide) ?_
    exact hQ

end INT4
