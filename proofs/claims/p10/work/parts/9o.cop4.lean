/-! ===== the coprocessor's instructions: moves, conversions, the rest ===== -/
section COP4
variable {ms : Int32} {mn S : Nat} {g rg hq mf : Nat → Int32} {cd : Int32} {fg : Nat → Int32} {L O : Fr4} {dd bm rr kt : Nat → Int32} {l1 l2 : Int64} {w : Int32}
theorem md_267 {v x : Int32} {P : MdT → Prop} (e9 : dd 9 = w) (h : wp_Md_put_IZJV ms dd l1 l2 bm rr kt (fI w 6) v (fwB v x) P) : wj_Md_fractions_267 ms P v x dd l1 l2 bm rr kt := by
  obtain ⟨a1, a2, a3, a4⟩ := i_abs x
  unfold fwB at h
  unfold wj_Md_fractions_267
  refine md_field e9 ⟨fun c => by rw [if_pos c] at h; exact h, fun c => ?_⟩
  rw [if_neg c] at h
  have hz : ¬ x.toInt.natAbs = 0 := fun q => c (a2.mpr q)
  have core : ∀ (s : Int32) (y : Int64), s = (if x < 0 then 1 else 0) → y = lN x.toInt.natAbs → wj_Md_fractions_310 ms P v (fI w 6) v s y dd l1 l2 bm rr kt := by
    intro s y hs hy
    subst hs; subst hy
    unfold wj_Md_fractions_310
    refine md_fin (X := x.toInt.natAbs) (j := 0) (e := 0) (by rw [Nat.pow_zero, Nat.div_one]) (by rw [Nat.pow_zero, Nat.mod_one]; decide) (by omega) (by omega) (fun q => absurd (by rw [Nat.pow_zero, Nat.mod_one]) q) (by decide) ?_
    exact h
  have ab : ∀ y : Int64, y.toInt = (x.toInt.natAbs : Int) → y = lN x.toInt.natAbs := fun y hy => Int64.toInt_inj.mp (by rw [hy, pk_lT (by omega)])
  have b1 := Int32.toInt_lt x
  have b2 := Int32.le_toInt x
  unfold wj_Md_fractions_295
  refine ⟨fun c1 => bq_t c1 (core 0 _ ?_ (ab _ ?_)), fun c1 => bq_f c1 (core 1 _ ?_ (ab _ ?_))⟩
  · rw [if_neg (by rw [a4]; have := a3.mp c1; omega)]
  · rw [l_of_i]; have := a3.mp c1; omega
  · rw [if_pos (a4.mpr (Int.lt_of_not_ge (fun q => c1 (a3.mpr q))))]
  · have : ¬ 0 ≤ x.toInt := fun q => c1 (a3.mpr q)
    rw [Int64.toInt_neg, l_of_i, Int.bmod_eq_of_le (by omega) (by omega)]; omega
theorem md_put8 {k v : Int32} {B : Int64} {P : MdT → Prop} (h5 : ¬ dd 5 ≤ 0) (h : P (dd, l1, l2, bm, rr, kt)) : wp_Md_put_IZJV ms dd l1 l2 bm rr kt k v B P := bq_f h5 h
theorem b17 (w : Int32) : (zz_ushr w 17 &&& 1 = 1) ↔ ¬ (zz_ushr w 17 &&& 1 = 0) := by
  obtain ⟨j, hj, e⟩ := pk_andE (zz_ushr w 17) (m := 1) 1 (by decide)
  rw [e]
  have : j = 0 ∨ j = 1 := by omega
  rcases this with rfl | rfl <;> decide

theorem i_movcf_s (H : pre mn g rg hq mf cd fg w dd bm rr kt) (ho : zz_ushr w 26 = 17) (hr : fI w 21 = 16) (hf : w &&& 63 = 17) : pfx ms mn g rg hq mf cd fg w dd bm rr kt := by
  obtain ⟨a, ha, ea⟩ := fI_n w 11
  obtain ⟨b, hb, eb⟩ := fI_n w 16
  obtain ⟨d, hd, ed⟩ := fI_n w 6
  have he : evn 0 a ∧ evn 0 d := ⟨ev0 _, ev0 _⟩
  by_cases hv : cnd cd w
  · refine pfx_fr H (rg' := rg) (cd' := cd) (fg' := fgR fg 0 d (lN (fbt fg 0 a))) (rr' := rrR rr 0 d (lN (fbt fg 0 a))) (q_fgR hd he.2 H.rel) (fun L O P hP => ?_) (fun dd l1 l2 H Q hQ => ?_)
    · unfold wp_Pr_perform
      refine pr_op ?_
      rw [ho]
      repeat first | refine bq_t (by decide) ?_ | refine bq_f (by decide) ?_
      refine pr_rs ?_
      rw [hr]
      repeat first | refine bq_t (by decide) ?_ | refine bq_f (by decide) ?_
      refine pr_rt ⟨fI_in w 16, fun t et => ?_⟩
      subst et
      unfold wp_Fu_perform
      refine fun x ex => ?_
      have ex : x = 16 := ex.trans hr
      subst ex
      repeat first | refine bq_t (by decide) ?_ | refine bq_f (by decide) ?_
      refine fun y ey => ?_
      rw [hf] at ey
      subst ey
      repeat first | refine bq_t (by decide) ?_ | refine bq_f (by decide) ?_
      exact fu_moveIf hf ha hd ea ed (Or.inl rfl) (fun _ _ => hP _ _) (fun _ q => absurd (Or.inl ⟨rfl, hv⟩) q) (fun q => absurd he q)
    · unfold wp_Md_operate
      rw [ho]
      repeat first | refine bq_t (by decide) ?_ | refine bq_f (by decide) ?_
      unfold wp_Md_fractions
      refine md_field H.e9 (md_field H.e9 (md_field H.e9 ?_))
      rw [hr]
      repeat first | refine bq_t (by decide) ?_ | refine bq_f (by decide) ?_
      refine fun x ex => ?_
      rw [H.e9, hf] at ex
      subst ex
      repeat first | refine bq_t (by decide) ?_ | refine bq_f (by decide) ?_
      try unfold wj_Md_fractions_170
      refine md_field H.e9 ?_
      repeat first | refine bq_t (by decide) ?_ | refine bq_f (by decide) ?_ | refine bq_f na ?_ | refine bq_f nb ?_ | refine bq_f nd ?_ | refine bq_t pa (md_ends H.e5 ?_) | refine bq_t pa (md_ends_n (show ¬ (8 : Int32) = 0 by decide) ?_) | refine bq_t pb (md_ends H.e5 ?_) | refine bq_t pb (md_ends_n (show ¬ (8 : Int32) = 0 by decide) ?_) | refine bq_t pd (md_ends H.e5 ?_) | refine bq_t pd (md_ends_n (show ¬ (8 : Int32) = 0 by decide) ?_)
      refine bq_t (show dd 5 ≤ (0 : Int32) by rw [H.e5]; decide) ?_
      refine md_bits H.rel ha ea he.1 ?_
      refine bq_t (by decide) ?_
      refine bq_t (by decide) ?_
      refine bq_t (by decide) ?_
      refine bq_f (by decide) ?_
      refine bq_f (by decide) ?_
      refine bq_t (by decide) ?_
      refine bq_t (by decide) ?_
      refine ⟨by unfold vp_in; decide, fun p ep q eq r er s es => ?_⟩
      subst ep
      subst eq
      subst er
      subst es
      have e66 : (66 : Int32).toNatClampNeg = 66 := by decide
      rw [e66]
      have hq2 := md_cnd H
      exact bq_t (hq2.mpr hv) (md_put H.e5 hd ed he.2 (hQ _ _ _ (lo_rf _)))
  · refine pfx_fr H (rg' := rg) (cd' := cd) (fg' := fg) (rr' := rr) (H.rel) (fun L O P hP => ?_) (fun dd l1 l2 H Q hQ => ?_)
    · unfold wp_Pr_perform
      refine pr_op ?_
      rw [ho]
      repeat first | refine bq_t (by decide) ?_ | refine bq_f (by decide) ?_
      refine pr_rs ?_
      rw [hr]
      repeat first | refine bq_t (by decide) ?_ | refine bq_f (by decide) ?_
      refine pr_rt ⟨fI_in w 16, fun t et => ?_⟩
      subst et
      unfold wp_Fu_perform
      refine fun x ex => ?_
      have ex : x = 16 := ex.trans hr
      subst ex
      repeat first | refine bq_t (by decide) ?_ | refine bq_f (by decide) ?_
      refine fun y ey => ?_
      rw [hf] at ey
      subst ey
      repeat first | refine bq_t (by decide) ?_ | refine bq_f (by decide) ?_
      refine fu_moveIf hf ha hd ea ed (Or.inl rfl) (fun _ q => absurd q ?_) (fun _ _ => hP _ _) (fun q => absurd he q)
      rintro (⟨q1, q2⟩ | ⟨q1, q2⟩ | ⟨q1, q2⟩)
      · exact hv q2
      · exact absurd q1 (by decide)
      · exact absurd q1 (by decide)
    · unfold wp_Md_operate
      rw [ho]
      repeat first | refine bq_t (by decide) ?_ | refine bq_f (by decide) ?_
      unfold wp_Md_fractions
      refine md_field H.e9 (md_field H.e9 (md_field H.e9 ?_))
      rw [hr]
      repeat first | refine bq_t (by decide) ?_ | refine bq_f (by decide) ?_
      refine fun x ex => ?_
      rw [H.e9, hf] at ex
      subst ex
      repeat first | refine bq_t (by decide) ?_ | refine bq_f (by decide) ?_
      try unfold wj_Md_fractions_170
      refine md_field H.e9 ?_
      repeat first | refine bq_t (by decide) ?_ | refine bq_f (by decide) ?_ | refine bq_f na ?_ | refine bq_f nb ?_ | refine bq_f nd ?_ | refine bq_t pa (md_ends H.e5 ?_) | refine bq_t pa (md_ends_n (show ¬ (8 : Int32) = 0 by decide) ?_) | refine bq_t pb (md_ends H.e5 ?_) | refine bq_t pb (md_ends_n (show ¬ (8 : Int32) = 0 by decide) ?_) | refine bq_t pd (md_ends H.e5 ?_) | refine bq_t pd (md_ends_n (show ¬ (8 : Int32) = 0 by decide) ?_)
      refine bq_t (show dd 5 ≤ (0 : Int32) by rw [H.e5]; decide) ?_
      refine md_bits H.rel ha ea he.1 ?_
      refine bq_t (by decide) ?_
      refine bq_t (by decide) ?_
      refine bq_t (by decide) ?_
      refine bq_f (by decide) ?_
      refine bq_f (by decide) ?_
      refine bq_t (by decide) ?_
      refine bq_t (by decide) ?_
      refine ⟨by unfold vp_in; decide, fun p ep q eq r er s es => ?_⟩
      subst ep
      subst eq
      subst er
      subst es
      have e66 : (66 : Int32).toNatClampNeg = 66 := by decide
      rw [e66]
      have hq2 := md_cnd H
      exact bq_f (fun q => hv (hq2.mp q)) (hQ _ _ _ (lo_rf _))

theorem i_movzf_s (H : pre mn g rg hq mf cd fg w dd bm rr kt) (ho : zz_ushr w 26 = 17) (hr : fI w 21 = 16) (hf : w &&& 63 = 18) : pfx ms mn g rg hq mf cd fg w dd bm rr kt := by
  obtain ⟨a, ha, ea⟩ := fI_n w 11
  obtain ⟨b, hb, eb⟩ := fI_n w 16
  obtain ⟨d, hd, ed⟩ := fI_n w 6
  have he : evn 0 a ∧ evn 0 d := ⟨ev0 _, ev0 _⟩
  by_cases hv : rv rg w 16 = 0
  · refine pfx_fr H (rg' := rg) (cd' := cd) (fg' := fgR fg 0 d (lN (fbt fg 0 a))) (rr' := rrR rr 0 d (lN (fbt fg 0 a))) (q_fgR hd he.2 H.rel) (fun L O P hP => ?_) (fun dd l1 l2 H Q hQ => ?_)
    · unfold wp_Pr_perform
      refine pr_op ?_
      rw [ho]
      repeat first | refine bq_t (by decide) ?_ | refine bq_f (by decide) ?_
      refine pr_rs ?_
      rw [hr]
      repeat first | refine bq_t (by decide) ?_ | refine bq_f (by decide) ?_
      refine pr_rt ⟨fI_in w 16, fun t et => ?_⟩
      subst et
      unfold wp_Fu_perform
      refine fun x ex => ?_
      have ex : x = 16 := ex.trans hr
      subst ex
      repeat first | refine bq_t (by decide) ?_ | refine bq_f (by decide) ?_
      refine fun y ey => ?_
      rw [hf] at ey
      subst ey
      repeat first | refine bq_t (by decide) ?_ | refine bq_f (by decide) ?_
      exact fu_moveIf hf ha hd ea ed (Or.inr (Or.inl rfl)) (fun _ _ => hP _ _) (fun _ q => absurd (Or.inr (Or.inl ⟨rfl, hv⟩)) q) (fun q => absurd he q)
    · unfold wp_Md_operate
      rw [ho]
      repeat first | refine bq_t (by decide) ?_ | refine bq_f (by decide) ?_
      unfold wp_Md_fractions
      refine md_field H.e9 (md_field H.e9 (md_field H.e9 ?_))
      rw [hr]
      repeat first | refine bq_t (by decide) ?_ | refine bq_f (by decide) ?_
      refine fun x ex => ?_
      rw [H.e9, hf] at ex
      subst ex
      repeat first | refine bq_t (by decide) ?_ | refine bq_f (by decide) ?_
      try unfold wj_Md_fractions_170
      refine md_field H.e9 ?_
      repeat first | refine bq_t (by decide) ?_ | refine bq_f (by decide) ?_ | refine bq_f na ?_ | refine bq_f nb ?_ | refine bq_f nd ?_ | refine bq_t pa (md_ends H.e5 ?_) | refine bq_t pa (md_ends_n (show ¬ (8 : Int32) = 0 by decide) ?_) | refine bq_t pb (md_ends H.e5 ?_) | refine bq_t pb (md_ends_n (show ¬ (8 : Int32) = 0 by decide) ?_) | refine bq_t pd (md_ends H.e5 ?_) | refine bq_t pd (md_ends_n (show ¬ (8 : Int32) = 0 by decide) ?_)
      refine bq_t (show dd 5 ≤ (0 : Int32) by rw [H.e5]; decide) ?_
      refine md_bits H.rel ha ea he.1 ?_
      refine bq_t (by decide) ?_
      refine bq_t (by decide) ?_
      refine bq_t (by decide) ?_
      refine bq_f (by decide) ?_
      refine bq_f (by decide) ?_
      refine bq_t (by decide) ?_
      refine bq_f (by decide) ?_
      refine md_rt H.e9 H.rel (bq_t hv ?_)
      repeat first | refine bq_t (by decide) ?_ | refine bq_f (by decide) ?_
      exact md_put H.e5 hd ed he.2 (hQ _ _ _ (lo_rf _))
  · refine pfx_fr H (rg' := rg) (cd' := cd) (fg' := fg) (rr' := rr) (H.rel) (fun L O P hP => ?_) (fun dd l1 l2 H Q hQ => ?_)
    · unfold wp_Pr_perform
      refine pr_op ?_
      rw [ho]
      repeat first | refine bq_t (by decide) ?_ | refine bq_f (by decide) ?_
      refine pr_rs ?_
      rw [hr]
      repeat first | refine bq_t (by decide) ?_ | refine bq_f (by decide) ?_
      refine pr_rt ⟨fI_in w 16, fun t et => ?_⟩
      subst et
      unfold wp_Fu_perform
      refine fun x ex => ?_
      have ex : x = 16 := ex.trans hr
      subst ex
      repeat first | refine bq_t (by decide) ?_ | refine bq_f (by decide) ?_
      refine fun y ey => ?_
      rw [hf] at ey
      subst ey
      repeat first | refine bq_t (by decide) ?_ | refine bq_f (by decide) ?_
      refine fu_moveIf hf ha hd ea ed (Or.inr (Or.inl rfl)) (fun _ q => absurd q ?_) (fun _ _ => hP _ _) (fun q => absurd he q)
      rintro (⟨q1, q2⟩ | ⟨q1, q2⟩ | ⟨q1, q2⟩)
      · exact absurd q1 (by decide)
      · exact hv q2
      · exact absurd q1 (by decide)
    · unfold wp_Md_operate
      rw [ho]
      repeat first | refine bq_t (by decide) ?_ | refine bq_f (by decide) ?_
      unfold wp_Md_fractions
      refine md_field H.e9 (md_field H.e9 (md_field H.e9 ?_))
      rw [hr]
      repeat first | refine bq_t (by decide) ?_ | refine bq_f (by decide) ?_
      refine fun x ex => ?_
      rw [H.e9, hf] at ex
      subst ex
      repeat first | refine bq_t (by decide) ?_ | refine bq_f (by decide) ?_
      try unfold wj_Md_fractions_170
      refine md_field H.e9 ?_
      repeat first | refine bq_t (by decide) ?_ | refine bq_f (by decide) ?_ | refine bq_f na ?_ | refine bq_f nb ?_ | refine bq_f nd ?_ | refine bq_t pa (md_ends H.e5 ?_) | refine bq_t pa (md_ends_n (show ¬ (8 : Int32) = 0 by decide) ?_) | refine bq_t pb (md_ends H.e5 ?_) | refine bq_t pb (md_ends_n (show ¬ (8 : Int32) = 0 by decide) ?_) | refine bq_t pd (md_ends H.e5 ?_) | refine bq_t pd (md_ends_n (show ¬ (8 : Int32) = 0 by decide) ?_)
      refine bq_t (show dd 5 ≤ (0 : Int32) by rw [H.e5]; decide) ?_
      refine md_bits H.rel ha ea he.1 ?_
      refine bq_t (by decide) ?_
      refine bq_t (by decide) ?_
      refine bq_t (by decide) ?_
      refine bq_f (by decide) ?_
      refine bq_f (by decide) ?_
      refine bq_t (by decide) ?_
      refine bq_f (by decide) ?_
      refine md_rt H.e9 H.rel (bq_f hv ?_)
      repeat first | refine bq_t (by decide) ?_ | refine bq_f (by decide) ?_
      exact hQ _ _ _ (lo_rf _)

theorem i_movnf_s (H : pre mn g rg hq mf cd fg w dd bm rr kt) (ho : zz_ushr w 26 = 17) (hr : fI w 21 = 16) (hf : w &&& 63 = 19) : pfx ms mn g rg hq mf cd fg w dd bm rr kt := by
  obtain ⟨a, ha, ea⟩ := fI_n w 11
  obtain ⟨b, hb, eb⟩ := fI_n w 16
  obtain ⟨d, hd, ed⟩ := fI_n w 6
  have he : evn 0 a ∧ evn 0 d := ⟨ev0 _, ev0 _⟩
  by_cases hv : ¬ rv rg w 16 = 0
  · refine pfx_fr H (rg' := rg) (cd' := cd) (fg' := fgR fg 0 d (lN (fbt fg 0 a))) (rr' := rrR rr 0 d (lN (fbt fg 0 a))) (q_fgR hd he.2 H.rel) (fun L O P hP => ?_) (fun dd l1 l2 H Q hQ => ?_)
    · unfold wp_Pr_perform
      refine pr_op ?_
      rw [ho]
      repeat first | refine bq_t (by decide) ?_ | refine bq_f (by decide) ?_
      refine pr_rs ?_
      rw [hr]
      repeat first | refine bq_t (by decide) ?_ | refine bq_f (by decide) ?_
      refine pr_rt ⟨fI_in w 16, fun t et => ?_⟩
      subst et
      unfold wp_Fu_perform
      refine fun x ex => ?_
      have ex : x = 16 := ex.trans hr
      subst ex
      repeat first | refine bq_t (by decide) ?_ | refine bq_f (by decide) ?_
      refine fun y ey => ?_
      rw [hf] at ey
      subst ey
      repeat first | refine bq_t (by decide) ?_ | refine bq_f (by decide) ?_
      exact fu_moveIf hf ha hd ea ed (Or.inr (Or.inr rfl)) (fun _ _ => hP _ _) (fun _ q => absurd (Or.inr (Or.inr ⟨rfl, hv⟩)) q) (fun q => absurd he q)
    · unfold wp_Md_operate
      rw [ho]
      repeat first | refine bq_t (by decide) ?_ | refine bq_f (by decide) ?_
      unfold wp_Md_fractions
      refine md_field H.e9 (md_field H.e9 (md_field H.e9 ?_))
      rw [hr]
      repeat first | refine bq_t (by decide) ?_ | refine bq_f (by decide) ?_
      refine fun x ex => ?_
      rw [H.e9, hf] at ex
      subst ex
      repeat first | refine bq_t (by decide) ?_ | refine bq_f (by decide) ?_
      try unfold wj_Md_fractions_170
      refine md_field H.e9 ?_
      repeat first | refine bq_t (by decide) ?_ | refine bq_f (by decide) ?_ | refine bq_f na ?_ | refine bq_f nb ?_ | refine bq_f nd ?_ | refine bq_t pa (md_ends H.e5 ?_) | refine bq_t pa (md_ends_n (show ¬ (8 : Int32) = 0 by decide) ?_) | refine bq_t pb (md_ends H.e5 ?_) | refine bq_t pb (md_ends_n (show ¬ (8 : Int32) = 0 by decide) ?_) | refine bq_t pd (md_ends H.e5 ?_) | refine bq_t pd (md_ends_n (show ¬ (8 : Int32) = 0 by decide) ?_)
      refine bq_t (show dd 5 ≤ (0 : Int32) by rw [H.e5]; decide) ?_
      refine md_bits H.rel ha ea he.1 ?_
      refine bq_t (by decide) ?_
      refine bq_t (by decide) ?_
      refine bq_t (by decide) ?_
      refine bq_f (by decide) ?_
      refine bq_f (by decide) ?_
      refine bq_t (by decide) ?_
      refine bq_f (by decide) ?_
      refine md_rt H.e9 H.rel (bq_f hv ?_)
      repeat first | refine bq_t (by decide) ?_ | refine bq_f (by decide) ?_
      exact md_put H.e5 hd ed he.2 (hQ _ _ _ (lo_rf _))
  · refine pfx_fr H (rg' := rg) (cd' := cd) (fg' := fg) (rr' := rr) (H.rel) (fun L O P hP => ?_) (fun dd l1 l2 H Q hQ => ?_)
    · unfold wp_Pr_perform
      refine pr_op ?_
      rw [ho]
      repeat first | refine bq_t (by decide) ?_ | refine bq_f (by decide) ?_
      refine pr_rs ?_
      rw [hr]
      repeat first | refine bq_t (by decide) ?_ | refine bq_f (by decide) ?_
      refine pr_rt ⟨fI_in w 16, fun t et => ?_⟩
      subst et
      unfold wp_Fu_perform
      refine fun x ex => ?_
      have ex : x = 16 := ex.trans hr
      subst ex
      repeat first | refine bq_t (by decide) ?_ | refine bq_f (by decide) ?_
      refine fun y ey => ?_
      rw [hf] at ey
      subst ey
      repeat first | refine bq_t (by decide) ?_ | refine bq_f (by decide) ?_
      refine fu_moveIf hf ha hd ea ed (Or.inr (Or.inr rfl)) (fun _ q => absurd q ?_) (fun _ _ => hP _ _) (fun q => absurd he q)
      rintro (⟨q1, q2⟩ | ⟨q1, q2⟩ | ⟨q1, q2⟩)
      · exact absurd q1 (by decide)
      · exact absurd q1 (by decide)
      · exact hv q2
    · unfold wp_Md_operate
      rw [ho]
      repeat first | refine bq_t (by decide) ?_ | refine bq_f (by decide) ?_
      unfold wp_Md_fractions
      refine md_field H.e9 (md_field H.e9 (md_field H.e9 ?_))
      rw [hr]
      repeat first | refine bq_t (by decide) ?_ | refine bq_f (by decide) ?_
      refine fun x ex => ?_
      rw [H.e9, hf] at ex
      subst ex
      repeat first | refine bq_t (by decide) ?_ | refine bq_f (by decide) ?_
      try unfold wj_Md_fractions_170
      refine md_field H.e9 ?_
      repeat first | refine bq_t (by decide) ?_ | refine bq_f (by decide) ?_ | refine bq_f na ?_ | refine bq_f nb ?_ | refine bq_f nd ?_ | refine bq_t pa (md_ends H.e5 ?_) | refine bq_t pa (md_ends_n (show ¬ (8 : Int32) = 0 by decide) ?_) | refine bq_t pb (md_ends H.e5 ?_) | refine bq_t pb (md_ends_n (show ¬ (8 : Int32) = 0 by decide) ?_) | refine bq_t pd (md_ends H.e5 ?_) | refine bq_t pd (md_ends_n (show ¬ (8 : Int32) = 0 by decide) ?_)
      refine bq_t (show dd 5 ≤ (0 : Int32) by rw [H.e5]; decide) ?_
      refine md_bits H.rel ha ea he.1 ?_
      refine bq_t (by decide) ?_
      refine bq_t (by decide) ?_
      refine bq_t (by decide) ?_
      refine bq_f (by decide) ?_
      refine bq_f (by decide) ?_
      refine bq_t (by decide) ?_
      refine bq_f (by decide) ?_
      refine md_rt H.e9 H.rel (bq_t (Classical.not_not.mp hv) ?_)
      repeat first | refine bq_t (by decide) ?_ | refine bq_f (by decide) ?_
      exact hQ _ _ _ (lo_rf _)

theorem i_movcf_d (H : pre mn g rg hq mf cd fg w dd bm rr kt) (ho : zz_ushr w 26 = 17) (hr : fI w 21 = 17) (hf : w &&& 63 = 17) : pfx ms mn g rg hq mf cd fg w dd bm rr kt := by
  obtain ⟨a, ha, ea⟩ := fI_n w 11
  obtain ⟨b, hb, eb⟩ := fI_n w 16
  obtain ⟨d, hd, ed⟩ := fI_n w 6
  by_cases he : evn 1 a ∧ evn 1 d
  · by_cases hv : cnd cd w
    · refine pfx_fr H (rg' := rg) (cd' := cd) (fg' := fgR fg 1 d (lN (fbt fg 1 a))) (rr' := rrR rr 1 d (lN (fbt fg 1 a))) (q_fgR hd he.2 H.rel) (fun L O P hP => ?_) (fun dd l1 l2 H Q hQ => ?_)
      · unfold wp_Pr_perform
        refine pr_op ?_
        rw [ho]
        repeat first | refine bq_t (by decide) ?_ | refine bq_f (by decide) ?_
        refine pr_rs ?_
        rw [hr]
        repeat first | refine bq_t (by decide) ?_ | refine bq_f (by decide) ?_
        refine pr_rt ⟨fI_in w 16, fun t et => ?_⟩
        subst et
        unfold wp_Fu_perform
        refine fun x ex => ?_
        have ex : x = 17 := ex.trans hr
        subst ex
        repeat first | refine bq_t (by decide) ?_ | refine bq_f (by decide) ?_
        refine fun y ey => ?_
        rw [hf] at ey
        subst ey
        repeat first | refine bq_t (by decide) ?_ | refine bq_f (by decide) ?_
        exact fu_moveIf hf ha hd ea ed (Or.inl rfl) (fun _ _ => hP _ _) (fun _ q => absurd (Or.inl ⟨rfl, hv⟩) q) (fun q => absurd he q)
      · unfold wp_Md_operate
        rw [ho]
        repeat first | refine bq_t (by decide) ?_ | refine bq_f (by decide) ?_
        unfold wp_Md_fractions
        refine md_field H.e9 (md_field H.e9 (md_field H.e9 ?_))
        rw [hr]
        repeat first | refine bq_t (by decide) ?_ | refine bq_f (by decide) ?_
        have na := (evx ha ea).mp he.1
        have nd := (evx hd ed).mp he.2
        refine fun x ex => ?_
        rw [H.e9, hf] at ex
        subst ex
        repeat first | refine bq_t (by decide) ?_ | refine bq_f (by decide) ?_
        try unfold wj_Md_fractions_170
        refine md_field H.e9 ?_
        repeat first | refine bq_t (by decide) ?_ | refine bq_f (by decide) ?_ | refine bq_f na ?_ | refine bq_f nb ?_ | refine bq_f nd ?_ | refine bq_t pa (md_ends H.e5 ?_) | refine bq_t pa (md_ends_n (show ¬ (8 : Int32) = 0 by decide) ?_) | refine bq_t pb (md_ends H.e5 ?_) | refine bq_t pb (md_ends_n (show ¬ (8 : Int32) = 0 by decide) ?_) | refine bq_t pd (md_ends H.e5 ?_) | refine bq_t pd (md_ends_n (show ¬ (8 : Int32) = 0 by decide) ?_)
        refine bq_t (show dd 5 ≤ (0 : Int32) by rw [H.e5]; decide) ?_
        refine md_bits H.rel ha ea he.1 ?_
        refine bq_t (by decide) ?_
        refine bq_t (by decide) ?_
        refine bq_t (by decide) ?_
        refine bq_f (by decide) ?_
        refine bq_f (by decide) ?_
        refine bq_t (by decide) ?_
        refine bq_t (by decide) ?_
        refine ⟨by unfold vp_in; decide, fun p ep q eq r er s es => ?_⟩
        subst ep
        subst eq
        subst er
        subst es
        have e66 : (66 : Int32).toNatClampNeg = 66 := by decide
        rw [e66]
        have hq2 := md_cnd H
        exact bq_t (hq2.mpr hv) (md_put H.e5 hd ed he.2 (hQ _ _ _ (lo_rf _)))
    · refine pfx_fr H (rg' := rg) (cd' := cd) (fg' := fg) (rr' := rr) (H.rel) (fun L O P hP => ?_) (fun dd l1 l2 H Q hQ => ?_)
      · unfold wp_Pr_perform
        refine pr_op ?_
        rw [ho]
        repeat first | refine bq_t (by decide) ?_ | refine bq_f (by decide) ?_
        refine pr_rs ?_
        rw [hr]
        repeat first | refine bq_t (by decide) ?_ | refine bq_f (by decide) ?_
        refine pr_rt ⟨fI_in w 16, fun t et => ?_⟩
        subst et
        unfold wp_Fu_perform
        refine fun x ex => ?_
        have ex : x = 17 := ex.trans hr
        subst ex
        repeat first | refine bq_t (by decide) ?_ | refine bq_f (by decide) ?_
        refine fun y ey => ?_
        rw [hf] at ey
        subst ey
        repeat first | refine bq_t (by decide) ?_ | refine bq_f (by decide) ?_
        refine fu_moveIf hf ha hd ea ed (Or.inl rfl) (fun _ q => absurd q ?_) (fun _ _ => hP _ _) (fun q => absurd he q)
        rintro (⟨q1, q2⟩ | ⟨q1, q2⟩ | ⟨q1, q2⟩)
        · exact hv q2
        · exact absurd q1 (by decide)
        · exact absurd q1 (by decide)
      · unfold wp_Md_operate
        rw [ho]
        repeat first | refine bq_t (by decide) ?_ | refine bq_f (by decide) ?_
        unfold wp_Md_fractions
        refine md_field H.e9 (md_field H.e9 (md_field H.e9 ?_))
        rw [hr]
        repeat first | refine bq_t (by decide) ?_ | refine bq_f (by decide) ?_
        have na := (evx ha ea).mp he.1
        have nd := (evx hd ed).mp he.2
        refine fun x ex => ?_
        rw [H.e9, hf] at ex
        subst ex
        repeat first | refine bq_t (by decide) ?_ | refine bq_f (by decide) ?_
        try unfold wj_Md_fractions_170
        refine md_field H.e9 ?_
        repeat first | refine bq_t (by decide) ?_ | refine bq_f (by decide) ?_ | refine bq_f na ?_ | refine bq_f nb ?_ | refine bq_f nd ?_ | refine bq_t pa (md_ends H.e5 ?_) | refine bq_t pa (md_ends_n (show ¬ (8 : Int32) = 0 by decide) ?_) | refine bq_t pb (md_ends H.e5 ?_) | refine bq_t pb (md_ends_n (show ¬ (8 : Int32) = 0 by decide) ?_) | refine bq_t pd (md_ends H.e5 ?_) | refine bq_t pd (md_ends_n (show ¬ (8 : Int32) = 0 by decide) ?_)
        refine bq_t (show dd 5 ≤ (0 : Int32) by rw [H.e5]; decide) ?_
        refine md_bits H.rel ha ea he.1 ?_
        refine bq_t (by decide) ?_
        refine bq_t (by decide) ?_
        refine bq_t (by decide) ?_
        refine bq_f (by decide) ?_
        refine bq_f (by decide) ?_
        refine bq_t (by decide) ?_
        refine bq_t (by decide) ?_
        refine ⟨by unfold vp_in; decide, fun p ep q eq r er s es => ?_⟩
        subst ep
        subst eq
        subst er
        subst es
        have e66 : (66 : Int32).toNatClampNeg = 66 := by decide
        rw [e66]
        have hq2 := md_cnd H
        exact bq_f (fun q => hv (hq2.mp q)) (hQ _ _ _ (lo_rf _))
  · refine pfx_mk H 8 (fun L O => (g, rg, hq, mf, cd, fg, L, O)) (fun dd l1 l2 => (upd dd 5 8, l1, l2, bm, rr, kt)) (fun L O P hP => ?_) (fun dd l1 l2 H L O => ⟨oc_end (by unfold q_e; simp) H.rel H.nxt rfl (fun j _ h => pk_un h), fun Q hQ => ?_⟩) (fun _ _ _ _ => rfl) (fun _ _ _ _ _ hs => ⟨by repeat first | exact hs | apply lo_upd, rfl, rfl, rfl⟩) (by first | exact Or.inr (fun _ _ => rfl) | exact Or.inl (by unfold q_e; decide)) (fun _ _ _ => rfl)
    · unfold wp_Pr_perform
      refine pr_op ?_
      rw [ho]
      repeat first | refine bq_t (by decide) ?_ | refine bq_f (by decide) ?_
      refine pr_rs ?_
      rw [hr]
      repeat first | refine bq_t (by decide) ?_ | refine bq_f (by decide) ?_
      refine pr_rt ⟨fI_in w 16, fun t et => ?_⟩
      subst et
      unfold wp_Fu_perform
      refine fun x ex => ?_
      have ex : x = 17 := ex.trans hr
      subst ex
      repeat first | refine bq_t (by decide) ?_ | refine bq_f (by decide) ?_
      refine fun y ey => ?_
      rw [hf] at ey
      subst ey
      repeat first | refine bq_t (by decide) ?_ | refine bq_f (by decide) ?_
      exact fu_moveIf hf ha hd ea ed (Or.inl rfl) (fun q _ => absurd q he) (fun q _ => absurd q he) (fun _ => hP)
    · have qa := evx (w := w) ha ea
      have qd := evx (w := w) hd ed
      rcases Classical.em (fI w 11 &&& 1 = 1) with pa | na
      · rcases Classical.em (fI w 6 &&& 1 = 1) with pd | nd
        · unfold wp_Md_operate
          rw [ho]
          repeat first | refine bq_t (by decide) ?_ | refine bq_f (by decide) ?_
          unfold wp_Md_fractions
          refine md_field H.e9 (md_field H.e9 (md_field H.e9 ?_))
          rw [hr]
          repeat first | refine bq_t (by decide) ?_ | refine bq_f (by decide) ?_
          refine fun x ex => ?_
          rw [H.e9, hf] at ex
          subst ex
          repeat first | refine bq_t (by decide) ?_ | refine bq_f (by decide) ?_
          try unfold wj_Md_fractions_170
          refine md_field H.e9 ?_
          repeat first | refine bq_t (by decide) ?_ | refine bq_f (by decide) ?_ | refine bq_f na ?_ | refine bq_f nb ?_ | refine bq_f nd ?_ | refine bq_t pa (md_ends H.e5 ?_) | refine bq_t pa (md_ends_n (show ¬ (8 : Int32) = 0 by decide) ?_) | refine bq_t pb (md_ends H.e5 ?_) | refine bq_t pb (md_ends_n (show ¬ (8 : Int32) = 0 by decide) ?_) | refine bq_t pd (md_ends H.e5 ?_) | refine bq_t pd (md_ends_n (show ¬ (8 : Int32) = 0 by decide) ?_)
          exact bq_f (show ¬ (8 : Int32) ≤ 0 by decide) hQ
        · unfold wp_Md_operate
          rw [ho]
          repeat first | refine bq_t (by decide) ?_ | refine bq_f (by decide) ?_
          unfold wp_Md_fractions
          refine md_field H.e9 (md_field H.e9 (md_field H.e9 ?_))
          rw [hr]
          repeat first | refine bq_t (by decide) ?_ | refine bq_f (by decide) ?_
          refine fun x ex => ?_
          rw [H.e9, hf] at ex
          subst ex
          repeat first | refine bq_t (by decide) ?_ | refine bq_f (by decide) ?_
          try unfold wj_Md_fractions_170
          refine md_field H.e9 ?_
          repeat first | refine bq_t (by decide) ?_ | refine bq_f (by decide) ?_ | refine bq_f na ?_ | refine bq_f nb ?_ | refine bq_f nd ?_ | refine bq_t pa (md_ends H.e5 ?_) | refine bq_t pa (md_ends_n (show ¬ (8 : Int32) = 0 by decide) ?_) | refine bq_t pb (md_ends H.e5 ?_) | refine bq_t pb (md_ends_n (show ¬ (8 : Int32) = 0 by decide) ?_) | refine bq_t pd (md_ends H.e5 ?_) | refine bq_t pd (md_ends_n (show ¬ (8 : Int32) = 0 by decide) ?_)
          exact bq_f (show ¬ (8 : Int32) ≤ 0 by decide) hQ
      · rcases Classical.em (fI w 6 &&& 1 = 1) with pd | nd
        · unfold wp_Md_operate
          rw [ho]
          repeat first | refine bq_t (by decide) ?_ | refine bq_f (by decide) ?_
          unfold wp_Md_fractions
          refine md_field H.e9 (md_field H.e9 (md_field H.e9 ?_))
          rw [hr]
          repeat first | refine bq_t (by decide) ?_ | refine bq_f (by decide) ?_
          refine fun x ex => ?_
          rw [H.e9, hf] at ex
          subst ex
          repeat first | refine bq_t (by decide) ?_ | refine bq_f (by decide) ?_
          try unfold wj_Md_fractions_170
          refine md_field H.e9 ?_
          repeat first | refine bq_t (by decide) ?_ | refine bq_f (by decide) ?_ | refine bq_f na ?_ | refine bq_f nb ?_ | refine bq_f nd ?_ | refine bq_t pa (md_ends H.e5 ?_) | refine bq_t pa (md_ends_n (show ¬ (8 : Int32) = 0 by decide) ?_) | refine bq_t pb (md_ends H.e5 ?_) | refine bq_t pb (md_ends_n (show ¬ (8 : Int32) = 0 by decide) ?_) | refine bq_t pd (md_ends H.e5 ?_) | refine bq_t pd (md_ends_n (show ¬ (8 : Int32) = 0 by decide) ?_)
          exact bq_f (show ¬ (8 : Int32) ≤ 0 by decide) hQ
        · exact absurd (⟨qa.mpr na, qd.mpr nd⟩) he

theorem i_movzf_d (H : pre mn g rg hq mf cd fg w dd bm rr kt) (ho : zz_ushr w 26 = 17) (hr : fI w 21 = 17) (hf : w &&& 63 = 18) : pfx ms mn g rg hq mf cd fg w dd bm rr kt := by
  obtain ⟨a, ha, ea⟩ := fI_n w 11
  obtain ⟨b, hb, eb⟩ := fI_n w 16
  obtain ⟨d, hd, ed⟩ := fI_n w 6
  by_cases he : evn 1 a ∧ evn 1 d
  · by_cases hv : rv rg w 16 = 0
    · refine pfx_fr H (rg' := rg) (cd' := cd) (fg' := fgR fg 1 d (lN (fbt fg 1 a))) (rr' := rrR rr 1 d (lN (fbt fg 1 a))) (q_fgR hd he.2 H.rel) (fun L O P hP => ?_) (fun dd l1 l2 H Q hQ => ?_)
      · unfold wp_Pr_perform
        refine pr_op ?_
        rw [ho]
        repeat first | refine bq_t (by decide) ?_ | refine bq_f (by decide) ?_
        refine pr_rs ?_
        rw [hr]
        repeat first | refine bq_t (by decide) ?_ | refine bq_f (by decide) ?_
        refine pr_rt ⟨fI_in w 16, fun t et => ?_⟩
        subst et
        unfold wp_Fu_perform
        refine fun x ex => ?_
        have ex : x = 17 := ex.trans hr
        subst ex
        repeat first | refine bq_t (by decide) ?_ | refine bq_f (by decide) ?_
        refine fun y ey => ?_
        rw [hf] at ey
        subst ey
        repeat first | refine bq_t (by decide) ?_ | refine bq_f (by decide) ?_
        exact fu_moveIf hf ha hd ea ed (Or.inr (Or.inl rfl)) (fun _ _ => hP _ _) (fun _ q => absurd (Or.inr (Or.inl ⟨rfl, hv⟩)) q) (fun q => absurd he q)
      · unfold wp_Md_operate
        rw [ho]
        repeat first | refine bq_t (by decide) ?_ | refine bq_f (by decide) ?_
        unfold wp_Md_fractions
        refine md_field H.e9 (md_field H.e9 (md_field H.e9 ?_))
        rw [hr]
        repeat first | refine bq_t (by decide) ?_ | refine bq_f (by decide) ?_
        have na := (evx ha ea).mp he.1
        have nd := (evx hd ed).mp he.2
        refine fun x ex => ?_
        rw [H.e9, hf] at ex
        subst ex
        repeat first | refine bq_t (by decide) ?_ | refine bq_f (by decide) ?_
        try unfold wj_Md_fractions_170
        refine md_field H.e9 ?_
        repeat first | refine bq_t (by decide) ?_ | refine bq_f (by decide) ?_ | refine bq_f na ?_ | refine bq_f nb ?_ | refine bq_f nd ?_ | refine bq_t pa (md_ends H.e5 ?_) | refine bq_t pa (md_ends_n (show ¬ (8 : Int32) = 0 by decide) ?_) | refine bq_t pb (md_ends H.e5 ?_) | refine bq_t pb (md_ends_n (show ¬ (8 : Int32) = 0 by decide) ?_) | refine bq_t pd (md_ends H.e5 ?_) | refine bq_t pd (md_ends_n (show ¬ (8 : Int32) = 0 by decide) ?_)
        refine bq_t (show dd 5 ≤ (0 : Int32) by rw [H.e5]; decide) ?_
        refine md_bits H.rel ha ea he.1 ?_
        refine bq_t (by decide) ?_
        refine bq_t (by decide) ?_
        refine bq_t (by decide) ?_
        refine bq_f (by decide) ?_
        refine bq_f (by decide) ?_
        refine bq_t (by decide) ?_
        refine bq_f (by decide) ?_
        refine md_rt H.e9 H.rel (bq_t hv ?_)
        repeat first | refine bq_t (by decide) ?_ | refine bq_f (by decide) ?_
        exact md_put H.e5 hd ed he.2 (hQ _ _ _ (lo_rf _))
    · refine pfx_fr H (rg' := rg) (cd' := cd) (fg' := fg) (rr' := rr) (H.rel) (fun L O P hP => ?_) (fun dd l1 l2 H Q hQ => ?_)
      · unfold wp_Pr_perform
        refine pr_op ?_
        rw [ho]
        repeat first | refine bq_t (by decide) ?_ | refine bq_f (by decide) ?_
        refine pr_rs ?_
        rw [hr]
        repeat first | refine bq_t (by decide) ?_ | refine bq_f (by decide) ?_
        refine pr_rt ⟨fI_in w 16, fun t et => ?_⟩
        subst et
        unfold wp_Fu_perform
        refine fun x ex => ?_
        have ex : x = 17 := ex.trans hr
        subst ex
        repeat first | refine bq_t (by decide) ?_ | refine bq_f (by decide) ?_
        refine fun y ey => ?_
        rw [hf] at ey
        subst ey
        repeat first | refine bq_t (by decide) ?_ | refine bq_f (by decide) ?_
        refine fu_moveIf hf ha hd ea ed (Or.inr (Or.inl rfl)) (fun _ q => absurd q ?_) (fun _ _ => hP _ _) (fun q => absurd he q)
        rintro (⟨q1, q2⟩ | ⟨q1, q2⟩ | ⟨q1, q2⟩)
        · exact absurd q1 (by decide)
        · exact hv q2
        · exact absurd q1 (by decide)
      · unfold wp_Md_operate
        rw [ho]
        repeat first | refine bq_t (by decide) ?_ | refine bq_f (by decide) ?_
        unfold wp_Md_fractions
        refine md_field H.e9 (md_field H.e9 (md_field H.e9 ?_))
        rw [hr]
        repeat first | refine bq_t (by decide) ?_ | refine bq_f (by decide) ?_
        have na := (evx ha ea).mp he.1
        have nd := (evx hd ed).mp he.2
        refine fun x ex => ?_
        rw [H.e9, hf] at ex
        subst ex
        repeat first | refine bq_t (by decide) ?_ | refine bq_f (by decide) ?_
        try unfold wj_Md_fractions_170
        refine md_field H.e9 ?_
        repeat first | refine bq_t (by decide) ?_ | refine bq_f (by decide) ?_ | refine bq_f na ?_ | refine bq_f nb ?_ | refine bq_f nd ?_ | refine bq_t pa (md_ends H.e5 ?_) | refine bq_t pa (md_ends_n (show ¬ (8 : Int32) = 0 by decide) ?_) | refine bq_t pb (md_ends H.e5 ?_) | refine bq_t pb (md_ends_n (show ¬ (8 : Int32) = 0 by decide) ?_) | refine bq_t pd (md_ends H.e5 ?_) | refine bq_t pd (md_ends_n (show ¬ (8 : Int32) = 0 by decide) ?_)
        refine bq_t (show dd 5 ≤ (0 : Int32) by rw [H.e5]; decide) ?_
        refine md_bits H.rel ha ea he.1 ?_
        refine bq_t (by decide) ?_
        refine bq_t (by decide) ?_
        refine bq_t (by decide) ?_
        refine bq_f (by decide) ?_
        refine bq_f (by decide) ?_
        refine bq_t (by decide) ?_
        refine bq_f (by decide) ?_
        refine md_rt H.e9 H.rel (bq_f hv ?_)
        repeat first | refine bq_t (by decide) ?_ | refine bq_f (by decide) ?_
        exact hQ _ _ _ (lo_rf _)
  · refine pfx_mk H 8 (fun L O => (g, rg, hq, mf, cd, fg, L, O)) (fun dd l1 l2 => (upd dd 5 8, l1, l2, bm, rr, kt)) (fun L O P hP => ?_) (fun dd l1 l2 H L O => ⟨oc_end (by unfold q_e; simp) H.rel H.nxt rfl (fun j _ h => pk_un h), fun Q hQ => ?_⟩) (fun _ _ _ _ => rfl) (fun _ _ _ _ _ hs => ⟨by repeat first | exact hs | apply lo_upd, rfl, rfl, rfl⟩) (by first | exact Or.inr (fun _ _ => rfl) | exact Or.inl (by unfold q_e; decide)) (fun _ _ _ => rfl)
    · unfold wp_Pr_perform
      refine pr_op ?_
      rw [ho]
      repeat first | refine bq_t (by decide) ?_ | refine bq_f (by decide) ?_
      refine pr_rs ?_
      rw [hr]
      repeat first | refine bq_t (by decide) ?_ | refine bq_f (by decide) ?_
      refine pr_rt ⟨fI_in w 16, fun t et => ?_⟩
      subst et
      unfold wp_Fu_perform
      refine fun x ex => ?_
      have ex : x = 17 := ex.trans hr
      subst ex
      repeat first | refine bq_t (by decide) ?_ | refine bq_f (by decide) ?_
      refine fun y ey => ?_
      rw [hf] at ey
      subst ey
      repeat first | refine bq_t (by decide) ?_ | refine bq_f (by decide) ?_
      exact fu_moveIf hf ha hd ea ed (Or.inr (Or.inl rfl)) (fun q _ => absurd q he) (fun q _ => absurd q he) (fun _ => hP)
    · have qa := evx (w := w) ha ea
      have qd := evx (w := w) hd ed
      rcases Classical.em (fI w 11 &&& 1 = 1) with pa | na
      · rcases Classical.em (fI w 6 &&& 1 = 1) with pd | nd
        · unfold wp_Md_operate
          rw [ho]
          repeat first | refine bq_t (by decide) ?_ | refine bq_f (by decide) ?_
          unfold wp_Md_fractions
          refine md_field H.e9 (md_field H.e9 (md_field H.e9 ?_))
          rw [hr]
          repeat first | refine bq_t (by decide) ?_ | refine bq_f (by decide) ?_
          refine fun x ex => ?_
          rw [H.e9, hf] at ex
          subst ex
          repeat first | refine bq_t (by decide) ?_ | refine bq_f (by decide) ?_
          try unfold wj_Md_fractions_170
          refine md_field H.e9 ?_
          repeat first | refine bq_t (by decide) ?_ | refine bq_f (by decide) ?_ | refine bq_f na ?_ | refine bq_f nb ?_ | refine bq_f nd ?_ | refine bq_t pa (md_ends H.e5 ?_) | refine bq_t pa (md_ends_n (show ¬ (8 : Int32) = 0 by decide) ?_) | refine bq_t pb (md_ends H.e5 ?_) | refine bq_t pb (md_ends_n (show ¬ (8 : Int32) = 0 by decide) ?_) | refine bq_t pd (md_ends H.e5 ?_) | refine bq_t pd (md_ends_n (show ¬ (8 : Int32) = 0 by decide) ?_)
          exact bq_f (show ¬ (8 : Int32) ≤ 0 by decide) hQ
        · unfold wp_Md_operate
          rw [ho]
          repeat first | refine bq_t (by decide) ?_ | refine bq_f (by decide) ?_
          unfold wp_Md_fractions
          refine md_field H.e9 (md_field H.e9 (md_field H.e9 ?_))
          rw [hr]
          repeat first | refine bq_t (by decide) ?_ | refine bq_f (by decide) ?_
          refine fun x ex => ?_
          rw [H.e9, hf] at ex
          subst ex
          repeat first | refine bq_t (by decide) ?_ | refine bq_f (by decide) ?_
          try unfold wj_Md_fractions_170
          refine md_field H.e9 ?_
          repeat first | refine bq_t (by decide) ?_ | refine bq_f (by decide) ?_ | refine bq_f na ?_ | refine bq_f nb ?_ | refine bq_f nd ?_ | refine bq_t pa (md_ends H.e5 ?_) | refine bq_t pa (md_ends_n (show ¬ (8 : Int32) = 0 by decide) ?_) | refine bq_t pb (md_ends H.e5 ?_) | refine bq_t pb (md_ends_n (show ¬ (8 : Int32) = 0 by decide) ?_) | refine bq_t pd (md_ends H.e5 ?_) | refine bq_t pd (md_ends_n (show ¬ (8 : Int32) = 0 by decide) ?_)
          exact bq_f (show ¬ (8 : Int32) ≤ 0 by decide) hQ
      · rcases Classical.em (fI w 6 &&& 1 = 1) with pd | nd
        · unfold wp_Md_operate
          rw [ho]
          repeat first | refine bq_t (by decide) ?_ | refine bq_f (by decide) ?_
          unfold wp_Md_fractions
          refine md_field H.e9 (md_field H.e9 (md_field H.e9 ?_))
          rw [hr]
          repeat first | refine bq_t (by decide) ?_ | refine bq_f (by decide) ?_
          refine fun x ex => ?_
          rw [H.e9, hf] at ex
          subst ex
          repeat first | refine bq_t (by decide) ?_ | refine bq_f (by decide) ?_
          try unfold wj_Md_fractions_170
          refine md_field H.e9 ?_
          repeat first | refine bq_t (by decide) ?_ | refine bq_f (by decide) ?_ | refine bq_f na ?_ | refine bq_f nb ?_ | refine bq_f nd ?_ | refine bq_t pa (md_ends H.e5 ?_) | refine bq_t pa (md_ends_n (show ¬ (8 : Int32) = 0 by decide) ?_) | refine bq_t pb (md_ends H.e5 ?_) | refine bq_t pb (md_ends_n (show ¬ (8 : Int32) = 0 by decide) ?_) | refine bq_t pd (md_ends H.e5 ?_) | refine bq_t pd (md_ends_n (show ¬ (8 : Int32) = 0 by decide) ?_)
          exact bq_f (show ¬ (8 : Int32) ≤ 0 by decide) hQ
        · exact absurd (⟨qa.mpr na, qd.mpr nd⟩) he

theorem i_movnf_d (H : pre mn g rg hq mf cd fg w dd bm rr kt) (ho : zz_ushr w 26 = 17) (hr : fI w 21 = 17) (hf : w &&& 63 = 19) : pfx ms mn g rg hq mf cd fg w dd bm rr kt := by
  obtain ⟨a, ha, ea⟩ := fI_n w 11
  obtain ⟨b, hb, eb⟩ := fI_n w 16
  obtain ⟨d, hd, ed⟩ := fI_n w 6
  by_cases he : evn 1 a ∧ evn 1 d
  · by_cases hv : ¬ rv rg w 16 = 0
    · refine pfx_fr H (rg' := rg) (cd' := cd) (fg' := fgR fg 1 d (lN (fbt fg 1 a))) (rr' := rrR rr 1 d (lN (fbt fg 1 a))) (q_fgR hd he.2 H.rel) (fun L O P hP => ?_) (fun dd l1 l2 H Q hQ => ?_)
      · unfold wp_Pr_perform
        refine pr_op ?_
        rw [ho]
        repeat first | refine bq_t (by decide) ?_ | refine bq_f (by decide) ?_
        refine pr_rs ?_
        rw [hr]
        repeat first | refine bq_t (by decide) ?_ | refine bq_f (by decide) ?_
        refine pr_rt ⟨fI_in w 16, fun t et => ?_⟩
        subst et
        unfold wp_Fu_perform
        refine fun x ex => ?_
        have ex : x = 17 := ex.trans hr
        subst ex
        repeat first | refine bq_t (by decide) ?_ | refine bq_f (by decide) ?_
        refine fun y ey => ?_
        rw [hf] at ey
        subst ey
        repeat first | refine bq_t (by decide) ?_ | refine bq_f (by decide) ?_
        exact fu_moveIf hf ha hd ea ed (Or.inr (Or.inr rfl)) (fun _ _ => hP _ _) (fun _ q => absurd (Or.inr (Or.inr ⟨rfl, hv⟩)) q) (fun q => absurd he q)
      · unfold wp_Md_operate
        rw [ho]
        repeat first | refine bq_t (by decide) ?_ | refine bq_f (by decide) ?_
        unfold wp_Md_fractions
        refine md_field H.e9 (md_field H.e9 (md_field H.e9 ?_))
        rw [hr]
        repeat first | refine bq_t (by decide) ?_ | refine bq_f (by decide) ?_
        have na := (evx ha ea).mp he.1
        have nd := (evx hd ed).mp he.2
        refine fun x ex => ?_
        rw [H.e9, hf] at ex
        subst ex
        repeat first | refine bq_t (by decide) ?_ | refine bq_f (by decide) ?_
        try unfold wj_Md_fractions_170
        refine md_field H.e9 ?_
        repeat first | refine bq_t (by decide) ?_ | refine bq_f (by decide) ?_ | refine bq_f na ?_ | refine bq_f nb ?_ | refine bq_f nd ?_ | refine bq_t pa (md_ends H.e5 ?_) | refine bq_t pa (md_ends_n (show ¬ (8 : Int32) = 0 by decide) ?_) | refine bq_t pb (md_ends H.e5 ?_) | refine bq_t pb (md_ends_n (show ¬ (8 : Int32) = 0 by decide) ?_) | refine bq_t pd (md_ends H.e5 ?_) | refine bq_t pd (md_ends_n (show ¬ (8 : Int32) = 0 by decide) ?_)
        refine bq_t (show dd 5 ≤ (0 : Int32) by rw [H.e5]; decide) ?_
        refine md_bits H.rel ha ea he.1 ?_
        refine bq_t (by decide) ?_
        refine bq_t (by decide) ?_
        refine bq_t (by decide) ?_
        refine bq_f (by decide) ?_
        refine bq_f (by decide) ?_
        refine bq_t (by decide) ?_
        refine bq_f (by decide) ?_
        refine md_rt H.e9 H.rel (bq_f hv ?_)
        repeat first | refine bq_t (by decide) ?_ | refine bq_f (by decide) ?_
        exact md_put H.e5 hd ed he.2 (hQ _ _ _ (lo_rf _))
    · refine pfx_fr H (rg' := rg) (cd' := cd) (fg' := fg) (rr' := rr) (H.rel) (fun L O P hP => ?_) (fun dd l1 l2 H Q hQ => ?_)
      · unfold wp_Pr_perform
        refine pr_op ?_
        rw [ho]
        repeat first | refine bq_t (by decide) ?_ | refine bq_f (by decide) ?_
        refine pr_rs ?_
        rw [hr]
        repeat first | refine bq_t (by decide) ?_ | refine bq_f (by decide) ?_
        refine pr_rt ⟨fI_in w 16, fun t et => ?_⟩
        subst et
        unfold wp_Fu_perform
        refine fun x ex => ?_
        have ex : x = 17 := ex.trans hr
        subst ex
        repeat first | refine bq_t (by decide) ?_ | refine bq_f (by decide) ?_
        refine fun y ey => ?_
        rw [hf] at ey
        subst ey
        repeat first | refine bq_t (by decide) ?_ | refine bq_f (by decide) ?_
        refine fu_moveIf hf ha hd ea ed (Or.inr (Or.inr rfl)) (fun _ q => absurd q ?_) (fun _ _ => hP _ _) (fun q => absurd he q)
        rintro (⟨q1, q2⟩ | ⟨q1, q2⟩ | ⟨q1, q2⟩)
        · exact absurd q1 (by decide)
        · exact absurd q1 (by decide)
        · exact hv q2
      · unfold wp_Md_operate
        rw [ho]
        repeat first | refine bq_t (by decide) ?_ | refine bq_f (by decide) ?_
        unfold wp_Md_fractions
        refine md_field H.e9 (md_field H.e9 (md_field H.e9 ?_))
        rw [hr]
        repeat first | refine bq_t (by decide) ?_ | refine bq_f (by decide) ?_
        have na := (evx ha ea).mp he.1
        have nd := (evx hd ed).mp he.2
        refine fun x ex => ?_
        rw [H.e9, hf] at ex
        subst ex
        repeat first | refine bq_t (by decide) ?_ | refine bq_f (by decide) ?_
        try unfold wj_Md_fractions_170
        refine md_field H.e9 ?_
        repeat first | refine bq_t (by decide) ?_ | refine bq_f (by decide) ?_ | refine bq_f na ?_ | refine bq_f nb ?_ | refine bq_f nd ?_ | refine bq_t pa (md_ends H.e5 ?_) | refine bq_t pa (md_ends_n (show ¬ (8 : Int32) = 0 by decide) ?_) | refine bq_t pb (md_ends H.e5 ?_) | refine bq_t pb (md_ends_n (show ¬ (8 : Int32) = 0 by decide) ?_) | refine bq_t pd (md_ends H.e5 ?_) | refine bq_t pd (md_ends_n (show ¬ (8 : Int32) = 0 by decide) ?_)
        refine bq_t (show dd 5 ≤ (0 : Int32) by rw [H.e5]; decide) ?_
        refine md_bits H.rel ha ea he.1 ?_
        refine bq_t (by decide) ?_
        refine bq_t (by decide) ?_
        refine bq_t (by decide) ?_
        refine bq_f (by decide) ?_
        refine bq_f (by decide) ?_
        refine bq_t (by decide) ?_
        refine bq_f (by decide) ?_
        refine md_rt H.e9 H.rel (bq_t (Classical.not_not.mp hv) ?_)
        repeat first | refine bq_t (by decide) ?_ | refine bq_f (by decide) ?_
        exact hQ _ _ _ (lo_rf _)
  · refine pfx_mk H 8 (fun L O => (g, rg, hq, mf, cd, fg, L, O)) (fun dd l1 l2 => (upd dd 5 8, l1, l2, bm, rr, kt)) (fun L O P hP => ?_) (fun dd l1 l2 H L O => ⟨oc_end (by unfold q_e; simp) H.rel H.nxt rfl (fun j _ h => pk_un h), fun Q hQ => ?_⟩) (fun _ _ _ _ => rfl) (fun _ _ _ _ _ hs => ⟨by repeat first | exact hs | apply lo_upd, rfl, rfl, rfl⟩) (by first | exact Or.inr (fun _ _ => rfl) | exact Or.inl (by unfold q_e; decide)) (fun _ _ _ => rfl)
    · unfold wp_Pr_perform
      refine pr_op ?_
      rw [ho]
      repeat first | refine bq_t (by decide) ?_ | refine bq_f (by decide) ?_
      refine pr_rs ?_
      rw [hr]
      repeat first | refine bq_t (by decide) ?_ | refine bq_f (by decide) ?_
      refine pr_rt ⟨fI_in w 16, fun t et => ?_⟩
      subst et
      unfold wp_Fu_perform
      refine fun x ex => ?_
      have ex : x = 17 := ex.trans hr
      subst ex
      repeat first | refine bq_t (by decide) ?_ | refine bq_f (by decide) ?_
      refine fun y ey => ?_
      rw [hf] at ey
      subst ey
      repeat first | refine bq_t (by decide) ?_ | refine bq_f (by decide) ?_
      exact fu_moveIf hf ha hd ea ed (Or.inr (Or.inr rfl)) (fun q _ => absurd q he) (fun q _ => absurd q he) (fun _ => hP)
    · have qa := evx (w := w) ha ea
      have qd := evx (w := w) hd ed
      rcases Classical.em (fI w 11 &&& 1 = 1) with pa | na
      · rcases Classical.em (fI w 6 &&& 1 = 1) with pd | nd
        · unfold wp_Md_operate
          rw [ho]
          repeat first | refine bq_t (by decide) ?_ | refine bq_f (by decide) ?_
          unfold wp_Md_fractions
          refine md_field H.e9 (md_field H.e9 (md_field H.e9 ?_))
          rw [hr]
          repeat first | refine bq_t (by decide) ?_ | refine bq_f (by decide) ?_
          refine fun x ex => ?_
          rw [H.e9, hf] at ex
          subst ex
          repeat first | refine bq_t (by decide) ?_ | refine bq_f (by decide) ?_
          try unfold wj_Md_fractions_170
          refine md_field H.e9 ?_
          repeat first | refine bq_t (by decide) ?_ | refine bq_f (by decide) ?_ | refine bq_f na ?_ | refine bq_f nb ?_ | refine bq_f nd ?_ | refine bq_t pa (md_ends H.e5 ?_) | refine bq_t pa (md_ends_n (show ¬ (8 : Int32) = 0 by decide) ?_) | refine bq_t pb (md_ends H.e5 ?_) | refine bq_t pb (md_ends_n (show ¬ (8 : Int32) = 0 by decide) ?_) | refine bq_t pd (md_ends H.e5 ?_) | refine bq_t pd (md_ends_n (show ¬ (8 : Int32) = 0 by decide) ?_)
          exact bq_f (show ¬ (8 : Int32) ≤ 0 by decide) hQ
        · unfold wp_Md_operate
          rw [ho]
          repeat first | refine bq_t (by decide) ?_ | refine bq_f (by decide) ?_
          unfold wp_Md_fractions
          refine md_field H.e9 (md_field H.e9 (md_field H.e9 ?_))
          rw [hr]
          repeat first | refine bq_t (by decide) ?_ | refine bq_f (by decide) ?_
          refine fun x ex => ?_
          rw [H.e9, hf] at ex
          subst ex
          repeat first | refine bq_t (by decide) ?_ | refine bq_f (by decide) ?_
          try unfold wj_Md_fractions_170
          refine md_field H.e9 ?_
          repeat first | refine bq_t (by decide) ?_ | refine bq_f (by decide) ?_ | refine bq_f na ?_ | refine bq_f nb ?_ | refine bq_f nd ?_ | refine bq_t pa (md_ends H.e5 ?_) | refine bq_t pa (md_ends_n (show ¬ (8 : Int32) = 0 by decide) ?_) | refine bq_t pb (md_ends H.e5 ?_) | refine bq_t pb (md_ends_n (show ¬ (8 : Int32) = 0 by decide) ?_) | refine bq_t pd (md_ends H.e5 ?_) | refine bq_t pd (md_ends_n (show ¬ (8 : Int32) = 0 by decide) ?_)
          exact bq_f (show ¬ (8 : Int32) ≤ 0 by decide) hQ
      · rcases Classical.em (fI w 6 &&& 1 = 1) with pd | nd
        · unfold wp_Md_operate
          rw [ho]
          repeat first | refine bq_t (by decide) ?_ | refine bq_f (by decide) ?_
          unfold wp_Md_fractions
          refine md_field H.e9 (md_field H.e9 (md_field H.e9 ?_))
          rw [hr]
          repeat first | refine bq_t (by decide) ?_ | refine bq_f (by decide) ?_
          refine fun x ex => ?_
          rw [H.e9, hf] at ex
          subst ex
          repeat first | refine bq_t (by decide) ?_ | refine bq_f (by decide) ?_
          try unfold wj_Md_fractions_170
          refine md_field H.e9 ?_
          repeat first | refine bq_t (by decide) ?_ | refine bq_f (by decide) ?_ | refine bq_f na ?_ | refine bq_f nb ?_ | refine bq_f nd ?_ | refine bq_t pa (md_ends H.e5 ?_) | refine bq_t pa (md_ends_n (show ¬ (8 : Int32) = 0 by decide) ?_) | refine bq_t pb (md_ends H.e5 ?_) | refine bq_t pb (md_ends_n (show ¬ (8 : Int32) = 0 by decide) ?_) | refine bq_t pd (md_ends H.e5 ?_) | refine bq_t pd (md_ends_n (show ¬ (8 : Int32) = 0 by decide) ?_)
          exact bq_f (show ¬ (8 : Int32) ≤ 0 by decide) hQ
        · exact absurd (⟨qa.mpr na, qd.mpr nd⟩) he

theorem i_cvtd_s (H : pre mn g rg hq mf cd fg w dd bm rr kt) (ho : zz_ushr w 26 = 17) (hr : fI w 21 = 16) (hf : w &&& 63 = 33) : pfx ms mn g rg hq mf cd fg w dd bm rr kt := by
  obtain ⟨a, ha, ea⟩ := fI_n w 11
  obtain ⟨b, hb, eb⟩ := fI_n w 16
  obtain ⟨d, hd, ed⟩ := fI_n w 6
  by_cases he : evn 1 d
  · refine pfx_fr H (rg' := rg) (cd' := cd) (fg' := fgR fg 1 d (chB 0 (fbt fg 0 a))) (rr' := rrR rr 1 d (chB 0 (fbt fg 0 a))) (q_fgR hd he H.rel) (fun L O P hP => ?_) (fun dd l1 l2 H Q hQ => ?_)
    · unfold wp_Pr_perform
      refine pr_op ?_
      rw [ho]
      repeat first | refine bq_t (by decide) ?_ | refine bq_f (by decide) ?_
      refine pr_rs ?_
      rw [hr]
      repeat first | refine bq_t (by decide) ?_ | refine bq_f (by decide) ?_
      refine pr_rt ⟨fI_in w 16, fun t et => ?_⟩
      subst et
      unfold wp_Fu_perform
      refine fun x ex => ?_
      have ex : x = 16 := ex.trans hr
      subst ex
      repeat first | refine bq_t (by decide) ?_ | refine bq_f (by decide) ?_
      refine fun y ey => ?_
      rw [hf] at ey
      subst ey
      repeat first | refine bq_t (by decide) ?_ | refine bq_f (by decide) ?_
      have ew : fow 0 = 1 := by decide
      refine fu_convert ha hd ea ed (fun _ L' O' => ?_) (fun q => absurd ⟨ev0 _, by rw [ew]; exact he⟩ q)
      rw [ew]
      exact hP L' O'
    · unfold wp_Md_operate
      rw [ho]
      repeat first | refine bq_t (by decide) ?_ | refine bq_f (by decide) ?_
      unfold wp_Md_fractions
      refine md_field H.e9 (md_field H.e9 (md_field H.e9 ?_))
      rw [hr]
      repeat first | refine bq_t (by decide) ?_ | refine bq_f (by decide) ?_
      have nd := (evx hd ed).mp he
      refine fun x ex => ?_
      rw [H.e9, hf] at ex
      subst ex
      repeat first | refine bq_t (by decide) ?_ | refine bq_f (by decide) ?_
      try unfold wj_Md_fractions_170
      refine md_field H.e9 ?_
      repeat first | refine bq_t (by decide) ?_ | refine bq_f (by decide) ?_ | refine bq_f na ?_ | refine bq_f nb ?_ | refine bq_f nd ?_ | refine bq_t pa (md_ends H.e5 ?_) | refine bq_t pa (md_ends_n (show ¬ (8 : Int32) = 0 by decide) ?_) | refine bq_t pb (md_ends H.e5 ?_) | refine bq_t pb (md_ends_n (show ¬ (8 : Int32) = 0 by decide) ?_) | refine bq_t pd (md_ends H.e5 ?_) | refine bq_t pd (md_ends_n (show ¬ (8 : Int32) = 0 by decide) ?_)
      refine bq_t (show dd 5 ≤ (0 : Int32) by rw [H.e5]; decide) ?_
      refine md_bits H.rel ha ea (ev0 _) ?_
      refine bq_t (by decide) ?_
      refine bq_t (by decide) ?_
      refine bq_t (by decide) ?_
      refine bq_f (by decide) ?_
      refine bq_t (by decide) ?_
      refine bq_t (by decide) ?_
      refine md_changed (fbt_fin _ _ _) (fun dd' l1' hl => ?_)
      have e5 : dd' 5 = 0 := by rw [hl 5 (by decide)]; exact H.e5
      exact md_put (wd := 1) e5 hd ed he (hQ _ _ _ hl)
  · refine pfx_mk H 8 (fun L O => (g, rg, hq, mf, cd, fg, L, O)) (fun dd l1 l2 => (upd dd 5 8, l1, l2, bm, rr, kt)) (fun L O P hP => ?_) (fun dd l1 l2 H L O => ⟨oc_end (by unfold q_e; simp) H.rel H.nxt rfl (fun j _ h => pk_un h), fun Q hQ => ?_⟩) (fun _ _ _ _ => rfl) (fun _ _ _ _ _ hs => ⟨by repeat first | exact hs | apply lo_upd, rfl, rfl, rfl⟩) (by first | exact Or.inr (fun _ _ => rfl) | exact Or.inl (by unfold q_e; decide)) (fun _ _ _ => rfl)
    · unfold wp_Pr_perform
      refine pr_op ?_
      rw [ho]
      repeat first | refine bq_t (by decide) ?_ | refine bq_f (by decide) ?_
      refine pr_rs ?_
      rw [hr]
      repeat first | refine bq_t (by decide) ?_ | refine bq_f (by decide) ?_
      refine pr_rt ⟨fI_in w 16, fun t et => ?_⟩
      subst et
      unfold wp_Fu_perform
      refine fun x ex => ?_
      have ex : x = 16 := ex.trans hr
      subst ex
      repeat first | refine bq_t (by decide) ?_ | refine bq_f (by decide) ?_
      refine fun y ey => ?_
      rw [hf] at ey
      subst ey
      repeat first | refine bq_t (by decide) ?_ | refine bq_f (by decide) ?_
      have ew : fow 0 = 1 := by decide
      refine fu_convert ha hd ea ed (fun q => absurd ?_ he) (fun _ => hP)
      rw [ew] at q
      exact q.2
    · have qd := evx (w := w) hd ed
      rcases Classical.em (fI w 6 &&& 1 = 1) with pd | nd
      · unfold wp_Md_operate
        rw [ho]
        repeat first | refine bq_t (by decide) ?_ | refine bq_f (by decide) ?_
        unfold wp_Md_fractions
        refine md_field H.e9 (md_field H.e9 (md_field H.e9 ?_))
        rw [hr]
        repeat first | refine bq_t (by decide) ?_ | refine bq_f (by decide) ?_
        refine fun x ex => ?_
        rw [H.e9, hf] at ex
        subst ex
        repeat first | refine bq_t (by decide) ?_ | refine bq_f (by decide) ?_
        try unfold wj_Md_fractions_170
        refine md_field H.e9 ?_
        repeat first | refine bq_t (by decide) ?_ | refine bq_f (by decide) ?_ | refine bq_f na ?_ | refine bq_f nb ?_ | refine bq_f nd ?_ | refine bq_t pa (md_ends H.e5 ?_) | refine bq_t pa (md_ends_n (show ¬ (8 : Int32) = 0 by decide) ?_) | refine bq_t pb (md_ends H.e5 ?_) | refine bq_t pb (md_ends_n (show ¬ (8 : Int32) = 0 by decide) ?_) | refine bq_t pd (md_ends H.e5 ?_) | refine bq_t pd (md_ends_n (show ¬ (8 : Int32) = 0 by decide) ?_)
        exact bq_f (show ¬ (8 : Int32) ≤ 0 by decide) hQ
      · exact absurd (qd.mpr nd) he

theorem i_cvts_d (H : pre mn g rg hq mf cd fg w dd bm rr kt) (ho : zz_ushr w 26 = 17) (hr : fI w 21 = 17) (hf : w &&& 63 = 32) : pfx ms mn g rg hq mf cd fg w dd bm rr kt := by
  obtain ⟨a, ha, ea⟩ := fI_n w 11
  obtain ⟨b, hb, eb⟩ := fI_n w 16
  obtain ⟨d, hd, ed⟩ := fI_n w 6
  by_cases he : evn 1 a
  · refine pfx_fr H (rg' := rg) (cd' := cd) (fg' := fgR fg 0 d (chB 1 (fbt fg 1 a))) (rr' := rrR rr 0 d (chB 1 (fbt fg 1 a))) (q_fgR hd (ev0 _) H.rel) (fun L O P hP => ?_) (fun dd l1 l2 H Q hQ => ?_)
    · unfold wp_Pr_perform
      refine pr_op ?_
      rw [ho]
      repeat first | refine bq_t (by decide) ?_ | refine bq_f (by decide) ?_
      refine pr_rs ?_
      rw [hr]
      repeat first | refine bq_t (by decide) ?_ | refine bq_f (by decide) ?_
      refine pr_rt ⟨fI_in w 16, fun t et => ?_⟩
      subst et
      unfold wp_Fu_perform
      refine fun x ex => ?_
      have ex : x = 17 := ex.trans hr
      subst ex
      repeat first | refine bq_t (by decide) ?_ | refine bq_f (by decide) ?_
      refine fun y ey => ?_
      rw [hf] at ey
      subst ey
      repeat first | refine bq_t (by decide) ?_ | refine bq_f (by decide) ?_
      have ew : fow 1 = 0 := by decide
      refine fu_convert ha hd ea ed (fun _ L' O' => ?_) (fun q => absurd ⟨he, by rw [ew]; exact ev0 _⟩ q)
      rw [ew]
      exact hP L' O'
    · unfold wp_Md_operate
      rw [ho]
      repeat first | refine bq_t (by decide) ?_ | refine bq_f (by decide) ?_
      unfold wp_Md_fractions
      refine md_field H.e9 (md_field H.e9 (md_field H.e9 ?_))
      rw [hr]
      repeat first | refine bq_t (by decide) ?_ | refine bq_f (by decide) ?_
      have na := (evx ha ea).mp he
      refine fun x ex => ?_
      rw [H.e9, hf] at ex
      subst ex
      repeat first | refine bq_t (by decide) ?_ | refine bq_f (by decide) ?_
      try unfold wj_Md_fractions_170
      refine md_field H.e9 ?_
      repeat first | refine bq_t (by decide) ?_ | refine bq_f (by decide) ?_ | refine bq_f na ?_ | refine bq_f nb ?_ | refine bq_f nd ?_ | refine bq_t pa (md_ends H.e5 ?_) | refine bq_t pa (md_ends_n (show ¬ (8 : Int32) = 0 by decide) ?_) | refine bq_t pb (md_ends H.e5 ?_) | refine bq_t pb (md_ends_n (show ¬ (8 : Int32) = 0 by decide) ?_) | refine bq_t pd (md_ends H.e5 ?_) | refine bq_t pd (md_ends_n (show ¬ (8 : Int32) = 0 by decide) ?_)
      refine bq_t (show dd 5 ≤ (0 : Int32) by rw [H.e5]; decide) ?_
      refine md_bits H.rel ha ea he ?_
      refine bq_t (by decide) ?_
      refine bq_t (by decide) ?_
      refine bq_t (by decide) ?_
      refine bq_t (by decide) ?_
      refine bq_f (by decide) ?_
      refine md_changed (fbt_fin _ _ _) (fun dd' l1' hl => ?_)
      have e5 : dd' 5 = 0 := by rw [hl 5 (by decide)]; exact H.e5
      exact md_put (wd := 0) e5 hd ed (ev0 _) (hQ _ _ _ hl)
  · refine pfx_mk H 8 (fun L O => (g, rg, hq, mf, cd, fg, L, O)) (fun dd l1 l2 => (upd dd 5 8, l1, l2, bm, rr, kt)) (fun L O P hP => ?_) (fun dd l1 l2 H L O => ⟨oc_end (by unfold q_e; simp) H.rel H.nxt rfl (fun j _ h => pk_un h), fun Q hQ => ?_⟩) (fun _ _ _ _ => rfl) (fun _ _ _ _ _ hs => ⟨by repeat first | exact hs | apply lo_upd, rfl, rfl, rfl⟩) (by first | exact Or.inr (fun _ _ => rfl) | exact Or.inl (by unfold q_e; decide)) (fun _ _ _ => rfl)
    · unfold wp_Pr_perform
      refine pr_op ?_
      rw [ho]
      repeat first | refine bq_t (by decide) ?_ | refine bq_f (by decide) ?_
      refine pr_rs ?_
      rw [hr]
      repeat first | refine bq_t (by decide) ?_ | refine bq_f (by decide) ?_
      refine pr_rt ⟨fI_in w 16, fun t et => ?_⟩
      subst et
      unfold wp_Fu_perform
      refine fun x ex => ?_
      have ex : x = 17 := ex.trans hr
      subst ex
      repeat first | refine bq_t (by decide) ?_ | refine bq_f (by decide) ?_
      refine fun y ey => ?_
      rw [hf] at ey
      subst ey
      repeat first | refine bq_t (by decide) ?_ | refine bq_f (by decide) ?_
      have ew : fow 1 = 0 := by decide
      exact fu_convert ha hd ea ed (fun q => absurd q.1 he) (fun _ => hP)
    · have qa := evx (w := w) ha ea
      rcases Classical.em (fI w 11 &&& 1 = 1) with pa | na
      · unfold wp_Md_operate
        rw [ho]
        repeat first | refine bq_t (by decide) ?_ | refine bq_f (by decide) ?_
        unfold wp_Md_fractions
        refine md_field H.e9 (md_field H.e9 (md_field H.e9 ?_))
        rw [hr]
        repeat first | refine bq_t (by decide) ?_ | refine bq_f (by decide) ?_
        refine fun x ex => ?_
        rw [H.e9, hf] at ex
        subst ex
        repeat first | refine bq_t (by decide) ?_ | refine bq_f (by decide) ?_
        try unfold wj_Md_fractions_170
        refine md_field H.e9 ?_
        repeat first | refine bq_t (by decide) ?_ | refine bq_f (by decide) ?_ | refine bq_f na ?_ | refine bq_f nb ?_ | refine bq_f nd ?_ | refine bq_t pa (md_ends H.e5 ?_) | refine bq_t pa (md_ends_n (show ¬ (8 : Int32) = 0 by decide) ?_) | refine bq_t pb (md_ends H.e5 ?_) | refine bq_t pb (md_ends_n (show ¬ (8 : Int32) = 0 by decide) ?_) | refine bq_t pd (md_ends H.e5 ?_) | refine bq_t pd (md_ends_n (show ¬ (8 : Int32) = 0 by decide) ?_)
        exact bq_f (show ¬ (8 : Int32) ≤ 0 by decide) hQ
      · exact absurd (qa.mpr na) he

theorem i_cvts_w (H : pre mn g rg hq mf cd fg w dd bm rr kt) (ho : zz_ushr w 26 = 17) (hr : fI w 21 = 20) (hf : w &&& 63 = 32) : pfx ms mn g rg hq mf cd fg w dd bm rr kt := by
  obtain ⟨a, ha, ea⟩ := fI_n w 11
  obtain ⟨b, hb, eb⟩ := fI_n w 16
  obtain ⟨d, hd, ed⟩ := fI_n w 6
  refine pfx_fr H (rg' := rg) (cd' := cd) (fg' := fgR fg 0 d (fwB 0 (fg a))) (rr' := rrR rr 0 d (fwB 0 (fg a))) (q_fgR hd (ev0 _) H.rel) (fun L O P hP => ?_) (fun dd l1 l2 H Q hQ => ?_)
  · unfold wp_Pr_perform
    refine pr_op ?_
    rw [ho]
    repeat first | refine bq_t (by decide) ?_ | refine bq_f (by decide) ?_
    refine pr_rs ?_
    rw [hr]
    repeat first | refine bq_t (by decide) ?_ | refine bq_f (by decide) ?_
    refine pr_rt ⟨fI_in w 16, fun t et => ?_⟩
    subst et
    unfold wp_Fu_perform
    refine fun x ex => ?_
    have ex : x = 20 := ex.trans hr
    subst ex
    repeat first | refine bq_t (by decide) ?_ | refine bq_f (by decide) ?_
    exact fu_fromWord hf (Or.inr ⟨rfl, rfl⟩) ha hd ea ed (fun _ L' O' => hP L' O') (fun q => absurd (ev0 _) q)
  · unfold wp_Md_operate
    rw [ho]
    repeat first | refine bq_t (by decide) ?_ | refine bq_f (by decide) ?_
    unfold wp_Md_fractions
    refine md_field H.e9 (md_field H.e9 (md_field H.e9 ?_))
    rw [hr]
    repeat first | refine bq_t (by decide) ?_ | refine bq_f (by decide) ?_
    rw [H.e9, hf]
    repeat first | refine bq_t (by decide) ?_ | refine bq_f (by decide) ?_
    have e34 : (34 : Int32) + fI w 11 = nI (34 + a) := by rw [ea, show (34 : Int32) = nI 34 from rfl, nI_add]
    refine ⟨by rw [e34]; exact vp_in_nI (by omega) (by decide), fun x ex => ?_⟩
    rw [e34, nI_clamp (by omega), H.rel.2.2.2.2.1 a ha] at ex
    subst ex
    exact bq_t rfl (md_267 H.e9 (md_put H.e5 hd ed (ev0 _) (hQ _ _ _ (lo_rf _))))

theorem i_cvtd_w (H : pre mn g rg hq mf cd fg w dd bm rr kt) (ho : zz_ushr w 26 = 17) (hr : fI w 21 = 20) (hf : w &&& 63 = 33) : pfx ms mn g rg hq mf cd fg w dd bm rr kt := by
  obtain ⟨a, ha, ea⟩ := fI_n w 11
  obtain ⟨b, hb, eb⟩ := fI_n w 16
  obtain ⟨d, hd, ed⟩ := fI_n w 6
  by_cases he : evn 1 d
  · refine pfx_fr H (rg' := rg) (cd' := cd) (fg' := fgR fg 1 d (fwB 1 (fg a))) (rr' := rrR rr 1 d (fwB 1 (fg a))) (q_fgR hd he H.rel) (fun L O P hP => ?_) (fun dd l1 l2 H Q hQ => ?_)
    · unfold wp_Pr_perform
      refine pr_op ?_
      rw [ho]
      repeat first | refine bq_t (by decide) ?_ | refine bq_f (by decide) ?_
      refine pr_rs ?_
      rw [hr]
      repeat first | refine bq_t (by decide) ?_ | refine bq_f (by decide) ?_
      refine pr_rt ⟨fI_in w 16, fun t et => ?_⟩
      subst et
      unfold wp_Fu_perform
      refine fun x ex => ?_
      have ex : x = 20 := ex.trans hr
      subst ex
      repeat first | refine bq_t (by decide) ?_ | refine bq_f (by decide) ?_
      exact fu_fromWord hf (Or.inl ⟨rfl, rfl⟩) ha hd ea ed (fun _ L' O' => hP L' O') (fun q => absurd he q)
    · unfold wp_Md_operate
      rw [ho]
      repeat first | refine bq_t (by decide) ?_ | refine bq_f (by decide) ?_
      unfold wp_Md_fractions
      refine md_field H.e9 (md_field H.e9 (md_field H.e9 ?_))
      rw [hr]
      repeat first | refine bq_t (by decide) ?_ | refine bq_f (by decide) ?_
      rw [H.e9, hf]
      repeat first | refine bq_t (by decide) ?_ | refine bq_f (by decide) ?_
      have e34 : (34 : Int32) + fI w 11 = nI (34 + a) := by rw [ea, show (34 : Int32) = nI 34 from rfl, nI_add]
      have nd := (evx hd ed).mp he
      refine ⟨by rw [e34]; exact vp_in_nI (by omega) (by decide), fun x ex => ?_⟩
      rw [e34, nI_clamp (by omega), H.rel.2.2.2.2.1 a ha] at ex
      subst ex
      exact bq_f (by decide) (md_field H.e9 (bq_f nd (md_267 H.e9 (md_put H.e5 hd ed he (hQ _ _ _ (lo_rf _))))))
  · refine pfx_mk H 8 (fun L O => (g, rg, hq, mf, cd, fg, L, O)) (fun dd l1 l2 => (upd dd 5 8, l1, l2, bm, rr, kt)) (fun L O P hP => ?_) (fun dd l1 l2 H L O => ⟨oc_end (by unfold q_e; simp) H.rel H.nxt rfl (fun j _ h => pk_un h), fun Q hQ => ?_⟩) (fun _ _ _ _ => rfl) (fun _ _ _ _ _ hs => ⟨by repeat first | exact hs | apply lo_upd, rfl, rfl, rfl⟩) (by first | exact Or.inr (fun _ _ => rfl) | exact Or.inl (by unfold q_e; decide)) (fun _ _ _ => rfl)
    · unfold wp_Pr_perform
      refine pr_op ?_
      rw [ho]
      repeat first | refine bq_t (by decide) ?_ | refine bq_f (by decide) ?_
      refine pr_rs ?_
      rw [hr]
      repeat first | refine bq_t (by decide) ?_ | refine bq_f (by decide) ?_
      refine pr_rt ⟨fI_in w 16, fun t et => ?_⟩
      subst et
      unfold wp_Fu_perform
      refine fun x ex => ?_
      have ex : x = 20 := ex.trans hr
      subst ex
      repeat first | refine bq_t (by decide) ?_ | refine bq_f (by decide) ?_
      exact fu_fromWord hf (Or.inl ⟨rfl, rfl⟩) ha hd ea ed (fun q => absurd q he) (fun _ => hP)
    · unfold wp_Md_operate
      rw [ho]
      repeat first | refine bq_t (by decide) ?_ | refine bq_f (by decide) ?_
      unfold wp_Md_fractions
      refine md_field H.e9 (md_field H.e9 (md_field H.e9 ?_))
      rw [hr]
      repeat first | refine bq_t (by decide) ?_ | refine bq_f (by decide) ?_
      rw [H.e9, hf]
      repeat first | refine bq_t (by decide) ?_ | refine bq_f (by decide) ?_
      have e34 : (34 : Int32) + fI w 11 = nI (34 + a) := by rw [ea, show (34 : Int32) = nI 34 from rfl, nI_add]
      have pd : fI w 6 &&& 1 = 1 := Classical.not_not.mp (fun q => he ((evx hd ed).mpr q))
      refine ⟨by rw [e34]; exact vp_in_nI (by omega) (by decide), fun x ex => ?_⟩
      rw [e34, nI_clamp (by omega), H.rel.2.2.2.2.1 a ha] at ex
      subst ex
      exact bq_f (by decide) (md_field H.e9 (bq_t pd (md_ends H.e5 (md_267 (w := w) H.e9 (md_put8 (show ¬ (8 : Int32) ≤ 0 by decide) hQ)))))

theorem i_y0 (H : pre mn g rg hq mf cd fg w dd bm rr kt) (ho : zz_ushr w 26 = 17) (hr : fI w 21 = 20) (hf : w &&& 63 = 0) : pfx ms mn g rg hq mf cd fg w dd bm rr kt := by
  refine pfx_mk H 3 (fun L O => (g, rg, hq, mf, cd, fg, L, O)) (fun dd l1 l2 => (upd dd 5 3, l1, l2, bm, rr, kt)) (fun L O P hP => ?_) (fun dd l1 l2 H L O => ⟨oc_end (by unfold q_e; simp) H.rel H.nxt rfl (fun j _ h => pk_un h), fun Q hQ => ?_⟩) (fun _ _ _ _ => rfl) (fun _ _ _ _ _ hs => ⟨by repeat first | exact hs | apply lo_upd, rfl, rfl, rfl⟩) (by first | exact Or.inr (fun _ _ => rfl) | exact Or.inl (by unfold q_e; decide)) (fun _ _ _ => rfl)
  · unfold wp_Pr_perform
    refine pr_op ?_
    rw [ho]
    repeat first | refine bq_t (by decide) ?_ | refine bq_f (by decide) ?_
    refine pr_rs ?_
    rw [hr]
    repeat first | refine bq_t (by decide) ?_ | refine bq_f (by decide) ?_
    refine pr_rt ⟨fI_in w 16, fun t et => ?_⟩
    subst et
    unfold wp_Fu_perform
    refine fun x ex => ?_
    have ex : x = 20 := ex.trans hr
    subst ex
    repeat first | refine bq_t (by decide) ?_ | refine bq_f (by decide) ?_
    unfold wp_Fu_convertFromWord
    refine fun x ex => ?_
    rw [hf] at ex
    subst ex
    repeat first | refine bq_t (by decide) ?_ | refine bq_f (by decide) ?_
    exact hP
  · unfold wp_Md_operate
    rw [ho]
    repeat first | refine bq_t (by decide) ?_ | refine bq_f (by decide) ?_
    unfold wp_Md_fractions
    refine md_field H.e9 (md_field H.e9 (md_field H.e9 ?_))
    rw [hr]
    repeat first | refine bq_t (by decide) ?_ | refine bq_f (by decide) ?_
    rw [H.e9, hf]
    repeat first | refine bq_t (by decide) ?_ | refine bq_f (by decide) ?_
    exact md_ends H.e5 hQ

theorem i_y1 (H : pre mn g rg hq mf cd fg w dd bm rr kt) (ho : zz_ushr w 26 = 17) (hr : fI w 21 = 20) (hf : w &&& 63 = 1) : pfx ms mn g rg hq mf cd fg w dd bm rr kt := by
  refine pfx_mk H 3 (fun L O => (g, rg, hq, mf, cd, fg, L, O)) (fun dd l1 l2 => (upd dd 5 3, l1, l2, bm, rr, kt)) (fun L O P hP => ?_) (fun dd l1 l2 H L O => ⟨oc_end (by unfold q_e; simp) H.rel H.nxt rfl (fun j _ h => pk_un h), fun Q hQ => ?_⟩) (fun _ _ _ _ => rfl) (fun _ _ _ _ _ hs => ⟨by repeat first | exact hs | apply lo_upd, rfl, rfl, rfl⟩) (by first | exact Or.inr (fun _ _ => rfl) | exact Or.inl (by unfold q_e; decide)) (fun _ _ _ => rfl)
  · unfold wp_Pr_perform
    refine pr_op ?_
    rw [ho]
    repeat first | refine bq_t (by decide) ?_ | refine bq_f (by decide) ?_
    refine pr_rs ?_
    rw [hr]
    repeat first | refine bq_t (by decide) ?_ | refine bq_f (by decide) ?_
    refine pr_rt ⟨fI_in w 16, fun t et => ?_⟩
    subst et
    unfold wp_Fu_perform
    refine fun x ex => ?_
    have ex : x = 20 := ex.trans hr
    subst ex
    repeat first | refine bq_t (by decide) ?_ | refine bq_f (by decide) ?_
    unfold wp_Fu_convertFromWord
    refine fun x ex => ?_
    rw [hf] at ex
    subst ex
    repeat first | refine bq_t (by decide) ?_ | refine bq_f (by decide) ?_
    exact hP
  · unfold wp_Md_operate
    rw [ho]
    repeat first | refine bq_t (by decide) ?_ | refine bq_f (by decide) ?_
    unfold wp_Md_fractions
    refine md_field H.e9 (md_field H.e9 (md_field H.e9 ?_))
    rw [hr]
    repeat first | refine bq_t (by decide) ?_ | refine bq_f (by decide) ?_
    rw [H.e9, hf]
    repeat first | refine bq_t (by decide) ?_ | refine bq_f (by decide) ?_
    exact md_ends H.e5 hQ

theorem i_y2 (H : pre mn g rg hq mf cd fg w dd bm rr kt) (ho : zz_ushr w 26 = 17) (hr : fI w 21 = 20) (hf : w &&& 63 = 2) : pfx ms mn g rg hq mf cd fg w dd bm rr kt := by
  refine pfx_mk H 3 (fun L O => (g, rg, hq, mf, cd, fg, L, O)) (fun dd l1 l2 => (upd dd 5 3, l1, l2, bm, rr, kt)) (fun L O P hP => ?_) (fun dd l1 l2 H L O => ⟨oc_end (by unfold q_e; simp) H.rel H.nxt rfl (fun j _ h => pk_un h), fun Q hQ => ?_⟩) (fun _ _ _ _ => rfl) (fun _ _ _ _ _ hs => ⟨by repeat first | exact hs | apply lo_upd, rfl, rfl, rfl⟩) (by first | exact Or.inr (fun _ _ => rfl) | exact Or.inl (by unfold q_e; decide)) (fun _ _ _ => rfl)
  · unfold wp_Pr_perform
    refine pr_op ?_
    rw [ho]
    repeat first | refine bq_t (by decide) ?_ | refine bq_f (by decide) ?_
    refine pr_rs ?_
    rw [hr]
    repeat first | refine bq_t (by decide) ?_ | refine bq_f (by decide) ?_
    refine pr_rt ⟨fI_in w 16, fun t et => ?_⟩
    subst et
    unfold wp_Fu_perform
    refine fun x ex => ?_
    have ex : x = 20 := ex.trans hr
    subst ex
    repeat first | refine bq_t (by decide) ?_ | refine bq_f (by decide) ?_
    unfold wp_Fu_convertFromWord
    refine fun x ex => ?_
    rw [hf] at ex
    subst ex
    repeat first | refine bq_t (by decide) ?_ | refine bq_f (by decide) ?_
    exact hP
  · unfold wp_Md_operate
    rw [ho]
    repeat first | refine bq_t (by decide) ?_ | refine bq_f (by decide) ?_
    unfold wp_Md_fractions
    refine md_field H.e9 (md_field H.e9 (md_field H.e9 ?_))
    rw [hr]
    repeat first | refine bq_t (by decide) ?_ | refine bq_f (by decide) ?_
    rw [H.e9, hf]
    repeat first | refine bq_t (by decide) ?_ | refine bq_f (by decide) ?_
    exact md_ends H.e5 hQ

theorem i_y3 (H : pre mn g rg hq mf cd fg w dd bm rr kt) (ho : zz_ushr w 26 = 17) (hr : fI w 21 = 20) (hf : w &&& 63 = 3) : pfx ms mn g rg hq mf cd fg w dd bm rr kt := by
  refine pfx_mk H 3 (fun L O => (g, rg, hq, mf, cd, fg, L, O)) (fun dd l1 l2 => (upd dd 5 3, l1, l2, bm, rr, kt)) (fun L O P hP => ?_) (fun dd l1 l2 H L O => ⟨oc_end (by unfold q_e; simp) H.rel H.nxt rfl (fun j _ h => pk_un h), fun Q hQ => ?_⟩) (fun _ _ _ _ => rfl) (fun _ _ _ _ _ hs => ⟨by repeat first | exact hs | apply lo_upd, rfl, rfl, rfl⟩) (by first | exact Or.inr (fun _ _ => rfl) | exact Or.inl (by unfold q_e; decide)) (fun _ _ _ => rfl)
  · unfold wp_Pr_perform
    refine pr_op ?_
    rw [ho]
    repeat first | refine bq_t (by decide) ?_ | refine bq_f (by decide) ?_
    refine pr_rs ?_
    rw [hr]
    repeat first | refine bq_t (by decide) ?_ | refine bq_f (by decide) ?_
    refine pr_rt ⟨fI_in w 16, fun t et => ?_⟩
    subst et
    unfold wp_Fu_perform
    refine fun x ex => ?_
    have ex : x = 20 := ex.trans hr
    subst ex
    repeat first | refine bq_t (by decide) ?_ | refine bq_f (by decide) ?_
    unfold wp_Fu_convertFromWord
    refine fun x ex => ?_
    rw [hf] at ex
    subst ex
    repeat first | refine bq_t (by decide) ?_ | refine bq_f (by decide) ?_
    exact hP
  · unfold wp_Md_operate
    rw [ho]
    repeat first | refine bq_t (by decide) ?_ | refine bq_f (by decide) ?_
    unfold wp_Md_fractions
    refine md_field H.e9 (md_field H.e9 (md_field H.e9 ?_))
    rw [hr]
    repeat first | refine bq_t (by decide) ?_ | refine bq_f (by decide) ?_
    rw [H.e9, hf]
    repeat first | refine bq_t (by decide) ?_ | refine bq_f (by decide) ?_
    exact md_ends H.e5 hQ

theorem i_y4 (H : pre mn g rg hq mf cd fg w dd bm rr kt) (ho : zz_ushr w 26 = 17) (hr : fI w 21 = 20) (hf : w &&& 63 = 4) : pfx ms mn g rg hq mf cd fg w dd bm rr kt := by
  refine pfx_mk H 3 (fun L O => (g, rg, hq, mf, cd, fg, L, O)) (fun dd l1 l2 => (upd dd 5 3, l1, l2, bm, rr, kt)) (fun L O P hP => ?_) (fun dd l1 l2 H L O => ⟨oc_end (by unfold q_e; simp) H.rel H.nxt rfl (fun j _ h => pk_un h), fun Q hQ => ?_⟩) (fun _ _ _ _ => rfl) (fun _ _ _ _ _ hs => ⟨by repeat first | exact hs | apply lo_upd, rfl, rfl, rfl⟩) (by first | exact Or.inr (fun _ _ => rfl) | exact Or.inl (by unfold q_e; decide)) (fun _ _ _ => rfl)
  · unfold wp_Pr_perform
    refine pr_op ?_
    rw [ho]
    repeat first | refine bq_t (by decide) ?_ | refine bq_f (by decide) ?_
    refine pr_rs ?_
    rw [hr]
    repeat first | refine bq_t (by decide) ?_ | refine bq_f (by decide) ?_
    refine pr_rt ⟨fI_in w 16, fun t et => ?_⟩
    subst et
    unfold wp_Fu_perform
    refine fun x ex => ?_
    have ex : x = 20 := ex.trans hr
    subst ex
    repeat first | refine bq_t (by decide) ?_ | refine bq_f (by decide) ?_
    unfold wp_Fu_convertFromWord
    refine fun x ex => ?_
    rw [hf] at ex
    subst ex
    repeat first | refine bq_t (by decide) ?_ | refine bq_f (by decide) ?_
    exact hP
  · unfold wp_Md_operate
    rw [ho]
    repeat first | refine bq_t (by decide) ?_ | refine bq_f (by decide) ?_
    unfold wp_Md_fractions
    refine md_field H.e9 (md_field H.e9 (md_field H.e9 ?_))
    rw [hr]
    repeat first | refine bq_t (by decide) ?_ | refine bq_f (by decide) ?_
    rw [H.e9, hf]
    repeat first | refine bq_t (by decide) ?_ | refine bq_f (by decide) ?_
    exact md_ends H.e5 hQ

theorem i_y5 (H : pre mn g rg hq mf cd fg w dd bm rr kt) (ho : zz_ushr w 26 = 17) (hr : fI w 21 = 20) (hf : w &&& 63 = 5) : pfx ms mn g rg hq mf cd fg w dd bm rr kt := by
  refine pfx_mk H 3 (fun L O => (g, rg, hq, mf, cd, fg, L, O)) (fun dd l1 l2 => (upd dd 5 3, l1, l2, bm, rr, kt)) (fun L O P hP => ?_) (fun dd l1 l2 H L O => ⟨oc_end (by unfold q_e; simp) H.rel H.nxt rfl (fun j _ h => pk_un h), fun Q hQ => ?_⟩) (fun _ _ _ _ => rfl) (fun _ _ _ _ _ hs => ⟨by repeat first | exact hs | apply lo_upd, rfl, rfl, rfl⟩) (by first | exact Or.inr (fun _ _ => rfl) | exact Or.inl (by unfold q_e; decide)) (fun _ _ _ => rfl)
  · unfold wp_Pr_perform
    refine pr_op ?_
    rw [ho]
    repeat first | refine bq_t (by decide) ?_ | refine bq_f (by decide) ?_
    refine pr_rs ?_
    rw [hr]
    repeat first | refine bq_t (by decide) ?_ | refine bq_f (by decide) ?_
    refine pr_rt ⟨fI_in w 16, fun t et => ?_⟩
    subst et
    unfold wp_Fu_perform
    refine fun x ex => ?_
    have ex : x = 20 := ex.trans hr
    subst ex
    repeat first | refine bq_t (by decide) ?_ | refine bq_f (by decide) ?_
    unfold wp_Fu_convertFromWord
    refine fun x ex => ?_
    rw [hf] at ex
    subst ex
    repeat first | refine bq_t (by decide) ?_ | refine bq_f (by decide) ?_
    exact hP
  · unfold wp_Md_operate
    rw [ho]
    repeat first | refine bq_t (by decide) ?_ | refine bq_f (by decide) ?_
    unfold wp_Md_fractions
    refine md_field H.e9 (md_field H.e9 (md_field H.e9 ?_))
    rw [hr]
    repeat first | refine bq_t (by decide) ?_ | refine bq_f (by decide) ?_
    rw [H.e9, hf]
    repeat first | refine bq_t (by decide) ?_ | refine bq_f (by decide) ?_
    exact md_ends H.e5 hQ

theorem i_y6 (H : pre mn g rg hq mf cd fg w dd bm rr kt) (ho : zz_ushr w 26 = 17) (hr : fI w 21 = 20) (hf : w &&& 63 = 6) : pfx ms mn g rg hq mf cd fg w dd bm rr kt := by
  refine pfx_mk H 3 (fun L O => (g, rg, hq, mf, cd, fg, L, O)) (fun dd l1 l2 => (upd dd 5 3, l1, l2, bm, rr, kt)) (fun L O P hP => ?_) (fun dd l1 l2 H L O => ⟨oc_end (by unfold q_e; simp) H.rel H.nxt rfl (fun j _ h => pk_un h), fun Q hQ => ?_⟩) (fun _ _ _ _ => rfl) (fun _ _ _ _ _ hs => ⟨by repeat first | exact hs | apply lo_upd, rfl, rfl, rfl⟩) (by first | exact Or.inr (fun _ _ => rfl) | exact Or.inl (by unfold q_e; decide)) (fun _ _ _ => rfl)
  · unfold wp_Pr_perform
    refine pr_op ?_
    rw [ho]
    repeat first | refine bq_t (by decide) ?_ | refine bq_f (by decide) ?_
    refine pr_rs ?_
    rw [hr]
    repeat first | refine bq_t (by decide) ?_ | refine bq_f (by decide) ?_
    refine pr_rt ⟨fI_in w 16, fun t et => ?_⟩
    subst et
    unfold wp_Fu_perform
    refine fun x ex => ?_
    have ex : x = 20 := ex.trans hr
    subst ex
    repeat first | refine bq_t (by decide) ?_ | refine bq_f (by decide) ?_
    unfold wp_Fu_convertFromWord
    refine fun x ex => ?_
    rw [hf] at ex
    subst ex
    repeat first | refine bq_t (by decide) ?_ | refine bq_f (by decide) ?_
    exact hP
  · unfold wp_Md_operate
    rw [ho]
    repeat first | refine bq_t (by decide) ?_ | refine bq_f (by decide) ?_
    unfold wp_Md_fractions
    refine md_field H.e9 (md_field H.e9 (md_field H.e9 ?_))
    rw [hr]
    repeat first | refine bq_t (by decide) ?_ | refine bq_f (by decide) ?_
    rw [H.e9, hf]
    repeat first | refine bq_t (by decide) ?_ | refine bq_f (by decide) ?_
    exact md_ends H.e5 hQ

theorem i_y7 (H : pre mn g rg hq mf cd fg w dd bm rr kt) (ho : zz_ushr w 26 = 17) (hr : fI w 21 = 20) (hf : w &&& 63 = 7) : pfx ms mn g rg hq mf cd fg w dd bm rr kt := by
  refine pfx_mk H 3 (fun L O => (g, rg, hq, mf, cd, fg, L, O)) (fun dd l1 l2 => (upd dd 5 3, l1, l2, bm, rr, kt)) (fun L O P hP => ?_) (fun dd l1 l2 H L O => ⟨oc_end (by unfold q_e; simp) H.rel H.nxt rfl (fun j _ h => pk_un h), fun Q hQ => ?_⟩) (fun _ _ _ _ => rfl) (fun _ _ _ _ _ hs => ⟨by repeat first | exact hs | apply lo_upd, rfl, rfl, rfl⟩) (by first | exact Or.inr (fun _ _ => rfl) | exact Or.inl (by unfold q_e; decide)) (fun _ _ _ => rfl)
  · unfold wp_Pr_perform
    refine pr_op ?_
    rw [ho]
    repeat first | refine bq_t (by decide) ?_ | refine bq_f (by decide) ?_
    refine pr_rs ?_
    rw [hr]
    repeat first | refine bq_t (by decide) ?_ | refine bq_f (by decide) ?_
    refine pr_rt ⟨fI_in w 16, fun t et => ?_⟩
    subst et
    unfold wp_Fu_perform
    refine fun x ex => ?_
    have ex : x = 20 := ex.trans hr
    subst ex
    repeat first | refine bq_t (by decide) ?_ | refine bq_f (by decide) ?_
    unfold wp_Fu_convertFromWord
    refine fun x ex => ?_
    rw [hf] at ex
    subst ex
    repeat first | refine bq_t (by decide) ?_ | refine bq_f (by decide) ?_
    exact hP
  · unfold wp_Md_operate
    rw [ho]
    repeat first | refine bq_t (by decide) ?_ | refine bq_f (by decide) ?_
    unfold wp_Md_fractions
    refine md_field H.e9 (md_field H.e9 (md_field H.e9 ?_))
    rw [hr]
    repeat first | refine bq_t (by decide) ?_ | refine bq_f (by decide) ?_
    rw [H.e9, hf]
    repeat first | refine bq_t (by decide) ?_ | refine bq_f (by decide) ?_
    exact md_ends H.e5 hQ

theorem i_y8 (H : pre mn g rg hq mf cd fg w dd bm rr kt) (ho : zz_ushr w 26 = 17) (hr : fI w 21 = 20) (hf : w &&& 63 = 8) : pfx ms mn g rg hq mf cd fg w dd bm rr kt := by
  refine pfx_mk H 3 (fun L O => (g, rg, hq, mf, cd, fg, L, O)) (fun dd l1 l2 => (upd dd 5 3, l1, l2, bm, rr, kt)) (fun L O P hP => ?_) (fun dd l1 l2 H L O => ⟨oc_end (by unfold q_e; simp) H.rel H.nxt rfl (fun j _ h => pk_un h), fun Q hQ => ?_⟩) (fun _ _ _ _ => rfl) (fun _ _ _ _ _ hs => ⟨by repeat first | exact hs | apply lo_upd, rfl, rfl, rfl⟩) (by first | exact Or.inr (fun _ _ => rfl) | exact Or.inl (by unfold q_e; decide)) (fun _ _ _ => rfl)
  · unfold wp_Pr_perform
    refine pr_op ?_
    rw [ho]
    repeat first | refine bq_t (by decide) ?_ | refine bq_f (by decide) ?_
    refine pr_rs ?_
    rw [hr]
    repeat first | refine bq_t (by decide) ?_ | refine bq_f (by decide) ?_
    refine pr_rt ⟨fI_in w 16, fun t et => ?_⟩
    subst et
    unfold wp_Fu_perform
    refine fun x ex => ?_
    have ex : x = 20 := ex.trans hr
    subst ex
    repeat first | refine bq_t (by decide) ?_ | refine bq_f (by decide) ?_
    unfold wp_Fu_convertFromWord
    refine fun x ex => ?_
    rw [hf] at ex
    subst ex
    repeat first | refine bq_t (by decide) ?_ | refine bq_f (by decide) ?_
    exact hP
  · unfold wp_Md_operate
    rw [ho]
    repeat first | refine bq_t (by decide) ?_ | refine bq_f (by decide) ?_
    unfold wp_Md_fractions
    refine md_field H.e9 (md_field H.e9 (md_field H.e9 ?_))
    rw [hr]
    repeat first | refine bq_t (by decide) ?_ | refine bq_f (by decide) ?_
    rw [H.e9, hf]
    repeat first | refine bq_t (by decide) ?_ | refine bq_f (by decide) ?_
    exact md_ends H.e5 hQ

theorem i_y9 (H : pre mn g rg hq mf cd fg w dd bm rr kt) (ho : zz_ushr w 26 = 17) (hr : fI w 21 = 20) (hf : w &&& 63 = 9) : pfx ms mn g rg hq mf cd fg w dd bm rr kt := by
  refine pfx_mk H 3 (fun L O => (g, rg, hq, mf, cd, fg, L, O)) (fun dd l1 l2 => (upd dd 5 3, l1, l2, bm, rr, kt)) (fun L O P hP => ?_) (fun dd l1 l2 H L O => ⟨oc_end (by unfold q_e; simp) H.rel H.nxt rfl (fun j _ h => pk_un h), fun Q hQ => ?_⟩) (fun _ _ _ _ => rfl) (fun _ _ _ _ _ hs => ⟨by repeat first | exact hs | apply lo_upd, rfl, rfl, rfl⟩) (by first | exact Or.inr (fun _ _ => rfl) | exact Or.inl (by unfold q_e; decide)) (fun _ _ _ => rfl)
  · unfold wp_Pr_perform
    refine pr_op ?_
    rw [ho]
    repeat first | refine bq_t (by decide) ?_ | refine bq_f (by decide) ?_
    refine pr_rs ?_
    rw [hr]
    repeat first | refine bq_t (by decide) ?_ | refine bq_f (by decide) ?_
    refine pr_rt ⟨fI_in w 16, fun t et => ?_⟩
    subst et
    unfold wp_Fu_perform
    refine fun x ex => ?_
    have ex : x = 20 := ex.trans hr
    subst ex
    repeat first | refine bq_t (by decide) ?_ | refine bq_f (by decide) ?_
    unfold wp_Fu_convertFromWord
    refine fun x ex => ?_
    rw [hf] at ex
    subst ex
    repeat first | refine bq_t (by decide) ?_ | refine bq_f (by decide) ?_
    exact hP
  · unfold wp_Md_operate
    rw [ho]
    repeat first | refine bq_t (by decide) ?_ | refine bq_f (by decide) ?_
    unfold wp_Md_fractions
    refine md_field H.e9 (md_field H.e9 (md_field H.e9 ?_))
    rw [hr]
    repeat first | refine bq_t (by decide) ?_ | refine bq_f (by decide) ?_
    rw [H.e9, hf]
    repeat first | refine bq_t (by decide) ?_ | refine bq_f (by decide) ?_
    exact md_ends H.e5 hQ

theorem i_y10 (H : pre mn g rg hq mf cd fg w dd bm rr kt) (ho : zz_ushr w 26 = 17) (hr : fI w 21 = 20) (hf : w &&& 63 = 10) : pfx ms mn g rg hq mf cd fg w dd bm rr kt := by
  refine pfx_mk H 3 (fun L O => (g, rg, hq, mf, cd, fg, L, O)) (fun dd l1 l2 => (upd dd 5 3, l1, l2, bm, rr, kt)) (fun L O P hP => ?_) (fun dd l1 l2 H L O => ⟨oc_end (by unfold q_e; simp) H.rel H.nxt rfl (fun j _ h => pk_un h), fun Q hQ => ?_⟩) (fun _ _ _ _ => rfl) (fun _ _ _ _ _ hs => ⟨by repeat first | exact hs | apply lo_upd, rfl, rfl, rfl⟩) (by first | exact Or.inr (fun _ _ => rfl) | exact Or.inl (by unfold q_e; decide)) (fun _ _ _ => rfl)
  · unfold wp_Pr_perform
    refine pr_op ?_
    rw [ho]
    repeat first | refine bq_t (by decide) ?_ | refine bq_f (by decide) ?_
    refine pr_rs ?_
    rw [hr]
    repeat first | refine bq_t (by decide) ?_ | refine bq_f (by decide) ?_
    refine pr_rt ⟨fI_in w 16, fun t et => ?_⟩
    subst et
    unfold wp_Fu_perform
    refine fun x ex => ?_
    have ex : x = 20 := ex.trans hr
    subst ex
    repeat first | refine bq_t (by decide) ?_ | refine bq_f (by decide) ?_
    unfold wp_Fu_convertFromWord
    refine fun x ex => ?_
    rw [hf] at ex
    subst ex
    repeat first | refine bq_t (by decide) ?_ | refine bq_f (by decide) ?_
    exact hP
  · unfold wp_Md_operate
    rw [ho]
    repeat first | refine bq_t (by decide) ?_ | refine bq_f (by decide) ?_
    unfold wp_Md_fractions
    refine md_field H.e9 (md_field H.e9 (md_field H.e9 ?_))
    rw [hr]
    repeat first | refine bq_t (by decide) ?_ | refine bq_f (by decide) ?_
    rw [H.e9, hf]
    repeat first | refine bq_t (by decide) ?_ | refine bq_f (by decide) ?_
    exact md_ends H.e5 hQ

theorem i_y11 (H : pre mn g rg hq mf cd fg w dd bm rr kt) (ho : zz_ushr w 26 = 17) (hr : fI w 21 = 20) (hf : w &&& 63 = 11) : pfx ms mn g rg hq mf cd fg w dd bm rr kt := by
  refine pfx_mk H 3 (fun L O => (g, rg, hq, mf, cd, fg, L, O)) (fun dd l1 l2 => (upd dd 5 3, l1, l2, bm, rr, kt)) (fun L O P hP => ?_) (fun dd l1 l2 H L O => ⟨oc_end (by unfold q_e; simp) H.rel H.nxt rfl (fun j _ h => pk_un h), fun Q hQ => ?_⟩) (fun _ _ _ _ => rfl) (fun _ _ _ _ _ hs => ⟨by repeat first | exact hs | apply lo_upd, rfl, rfl, rfl⟩) (by first | exact Or.inr (fun _ _ => rfl) | exact Or.inl (by unfold q_e; decide)) (fun _ _ _ => rfl)
  · unfold wp_Pr_perform
    refine pr_op ?_
    rw [ho]
    repeat first | refine bq_t (by decide) ?_ | refine bq_f (by decide) ?_
    refine pr_rs ?_
    rw [hr]
    repeat first | refine bq_t (by decide) ?_ | refine bq_f (by decide) ?_
    refine pr_rt ⟨fI_in w 16, fun t et => ?_⟩
    subst et
    unfold wp_Fu_perform
    refine fun x ex => ?_
    have ex : x = 20 := ex.trans hr
    subst ex
    repeat first | refine bq_t (by decide) ?_ | refine bq_f (by decide) ?_
    unfold wp_Fu_convertFromWord
    refine fun x ex => ?_
    rw [hf] at ex
    subst ex
    repeat first | refine bq_t (by decide) ?_ | refine bq_f (by decide) ?_
    exact hP
  · unfold wp_Md_operate
    rw [ho]
    repeat first | refine bq_t (by decide) ?_ | refine bq_f (by decide) ?_
    unfold wp_Md_fractions
    refine md_field H.e9 (md_field H.e9 (md_field H.e9 ?_))
    rw [hr]
    repeat first | refine bq_t (by decide) ?_ | refine bq_f (by decide) ?_
    rw [H.e9, hf]
    repeat first | refine bq_t (by decide) ?_ | refine bq_f (by decide) ?_
    exact md_ends H.e5 hQ

theorem i_y12 (H : pre mn g rg hq mf cd fg w dd bm rr kt) (ho : zz_ushr w 26 = 17) (hr : fI w 21 = 20) (hf : w &&& 63 = 12) : pfx ms mn g rg hq mf cd fg w dd bm rr kt := by
  refine pfx_mk H 3 (fun L O => (g, rg, hq, mf, cd, fg, L, O)) (fun dd l1 l2 => (upd dd 5 3, l1, l2, bm, rr, kt)) (fun L O P hP => ?_) (fun dd l1 l2 H L O => ⟨oc_end (by unfold q_e; simp) H.rel H.nxt rfl (fun j _ h => pk_un h), fun Q hQ => ?_⟩) (fun _ _ _ _ => rfl) (fun _ _ _ _ _ hs => ⟨by repeat first | exact hs | apply lo_upd, rfl, rfl, rfl⟩) (by first | exact Or.inr (fun _ _ => rfl) | exact Or.inl (by unfold q_e; decide)) (fun _ _ _ => rfl)
  · unfold wp_Pr_perform
    refine pr_op ?_
    rw [ho]
    repeat first | refine bq_t (by decide) ?_ | refine bq_f (by decide) ?_
    refine pr_rs ?_
    rw [hr]
    repeat first | refine bq_t (by decide) ?_ | refine bq_f (by decide) ?_
    refine pr_rt ⟨fI_in w 16, fun t et => ?_⟩
    subst et
    unfold wp_Fu_perform
    refine fun x ex => ?_
    have ex : x = 20 := ex.trans hr
    subst ex
    repeat first | refine bq_t (by decide) ?_ | refine bq_f (by decide) ?_
    unfold wp_Fu_convertFromWord
    refine fun x ex => ?_
    rw [hf] at ex
    subst ex
    repeat first | refine bq_t (by decide) ?_ | refine bq_f (by decide) ?_
    exact hP
  · unfold wp_Md_operate
    rw [ho]
    repeat first | refine bq_t (by decide) ?_ | refine bq_f (by decide) ?_
    unfold wp_Md_fractions
    refine md_field H.e9 (md_field H.e9 (md_field H.e9 ?_))
    rw [hr]
    repeat first | refine bq_t (by decide) ?_ | refine bq_f (by decide) ?_
    rw [H.e9, hf]
    repeat first | refine bq_t (by decide) ?_ | refine bq_f (by decide) ?_
    exact md_ends H.e5 hQ

theorem i_y13 (H : pre mn g rg hq mf cd fg w dd bm rr kt) (ho : zz_ushr w 26 = 17) (hr : fI w 21 = 20) (hf : w &&& 63 = 13) : pfx ms mn g rg hq mf cd fg w dd bm rr kt := by
  refine pfx_mk H 3 (fun L O => (g, rg, hq, mf, cd, fg, L, O)) (fun dd l1 l2 => (upd dd 5 3, l1, l2, bm, rr, kt)) (fun L O P hP => ?_) (fun dd l1 l2 H L O => ⟨oc_end (by unfold q_e; simp) H.rel H.nxt rfl (fun j _ h => pk_un h), fun Q hQ => ?_⟩) (fun _ _ _ _ => rfl) (fun _ _ _ _ _ hs => ⟨by repeat first | exact hs | apply lo_upd, rfl, rfl, rfl⟩) (by first | exact Or.inr (fun _ _ => rfl) | exact Or.inl (by unfold q_e; decide)) (fun _ _ _ => rfl)
  · unfold wp_Pr_perform
    refine pr_op ?_
    rw [ho]
    repeat first | refine bq_t (by decide) ?_ | refine bq_f (by decide) ?_
    refine pr_rs ?_
    rw [hr]
    repeat first | refine bq_t (by decide) ?_ | refine bq_f (by decide) ?_
    refine pr_rt ⟨fI_in w 16, fun t et => ?_⟩
    subst et
    unfold wp_Fu_perform
    refine fun x ex => ?_
    have ex : x = 20 := ex.trans hr
    subst ex
    repeat first | refine bq_t (by decide) ?_ | refine bq_f (by decide) ?_
    unfold wp_Fu_convertFromWord
    refine fun x ex => ?_
    rw [hf] at ex
    subst ex
    repeat first | refine bq_t (by decide) ?_ | refine bq_f (by decide) ?_
    exact hP
  · unfold wp_Md_operate
    rw [ho]
    repeat first | refine bq_t (by decide) ?_ | refine bq_f (by decide) ?_
    unfold wp_Md_fractions
    refine md_field H.e9 (md_field H.e9 (md_field H.e9 ?_))
    rw [hr]
    repeat first | refine bq_t (by decide) ?_ | refine bq_f (by decide) ?_
    rw [H.e9, hf]
    repeat first | refine bq_t (by decide) ?_ | refine bq_f (by decide) ?_
    exact md_ends H.e5 hQ

theorem i_y14 (H : pre mn g rg hq mf cd fg w dd bm rr kt) (ho : zz_ushr w 26 = 17) (hr : fI w 21 = 20) (hf : w &&& 63 = 14) : pfx ms mn g rg hq mf cd fg w dd bm rr kt := by
  refine pfx_mk H 3 (fun L O => (g, rg, hq, mf, cd, fg, L, O)) (fun dd l1 l2 => (upd dd 5 3, l1, l2, bm, rr, kt)) (fun L O P hP => ?_) (fun dd l1 l2 H L O => ⟨oc_end (by unfold q_e; simp) H.rel H.nxt rfl (fun j _ h => pk_un h), fun Q hQ => ?_⟩) (fun _ _ _ _ => rfl) (fun _ _ _ _ _ hs => ⟨by repeat first | exact hs | apply lo_upd, rfl, rfl, rfl⟩) (by first | exact Or.inr (fun _ _ => rfl) | exact Or.inl (by unfold q_e; decide)) (fun _ _ _ => rfl)
  · unfold wp_Pr_perform
    refine pr_op ?_
    rw [ho]
    repeat first | refine bq_t (by decide) ?_ | refine bq_f (by decide) ?_
    refine pr_rs ?_
    rw [hr]
    repeat first | refine bq_t (by decide) ?_ | refine bq_f (by decide) ?_
    refine pr_rt ⟨fI_in w 16, fun t et => ?_⟩
    subst et
    unfold wp_Fu_perform
    refine fun x ex => ?_
    have ex : x = 20 := ex.trans hr
    subst ex
    repeat first | refine bq_t (by decide) ?_ | refine bq_f (by decide) ?_
    unfold wp_Fu_convertFromWord
    refine fun x ex => ?_
    rw [hf] at ex
    subst ex
    repeat first | refine bq_t (by decide) ?_ | refine bq_f (by decide) ?_
    exact hP
  · unfold wp_Md_operate
    rw [ho]
    repeat first | refine bq_t (by decide) ?_ | refine bq_f (by decide) ?_
    unfold wp_Md_fractions
    refine md_field H.e9 (md_field H.e9 (md_field H.e9 ?_))
    rw [hr]
    repeat first | refine bq_t (by decide) ?_ | refine bq_f (by decide) ?_
    rw [H.e9, hf]
    repeat first | refine bq_t (by decide) ?_ | refine bq_f (by decide) ?_
    exact md_ends H.e5 hQ

theorem i_y15 (H : pre mn g rg hq mf cd fg w dd bm rr kt) (ho : zz_ushr w 26 = 17) (hr : fI w 21 = 20) (hf : w &&& 63 = 15) : pfx ms mn g rg hq mf cd fg w dd bm rr kt := by
  refine pfx_mk H 3 (fun L O => (g, rg, hq, mf, cd, fg, L, O)) (fun dd l1 l2 => (upd dd 5 3, l1, l2, bm, rr, kt)) (fun L O P hP => ?_) (fun dd l1 l2 H L O => ⟨oc_end (by unfold q_e; simp) H.rel H.nxt rfl (fun j _ h => pk_un h), fun Q hQ => ?_⟩) (fun _ _ _ _ => rfl) (fun _ _ _ _ _ hs => ⟨by repeat first | exact hs | apply lo_upd, rfl, rfl, rfl⟩) (by first | exact Or.inr (fun _ _ => rfl) | exact Or.inl (by unfold q_e; decide)) (fun _ _ _ => rfl)
  · unfold wp_Pr_perform
    refine pr_op ?_
    rw [ho]
    repeat first | refine bq_t (by decide) ?_ | refine bq_f (by decide) ?_
    refine pr_rs ?_
    rw [hr]
    repeat first | refine bq_t (by decide) ?_ | refine bq_f (by decide) ?_
    refine pr_rt ⟨fI_in w 16, fun t et => ?_⟩
    subst et
    unfold wp_Fu_perform
    refine fun x ex => ?_
    have ex : x = 20 := ex.trans hr
    subst ex
    repeat first | refine bq_t (by decide) ?_ | refine bq_f (by decide) ?_
    unfold wp_Fu_convertFromWord
    refine fun x ex => ?_
    rw [hf] at ex
    subst ex
    repeat first | refine bq_t (by decide) ?_ | refine bq_f (by decide) ?_
    exact hP
  · unfold wp_Md_operate
    rw [ho]
    repeat first | refine bq_t (by decide) ?_ | refine bq_f (by decide) ?_
    unfold wp_Md_fractions
    refine md_field H.e9 (md_field H.e9 (md_field H.e9 ?_))
    rw [hr]
    repeat first | refine bq_t (by decide) ?_ | refine bq_f (by decide) ?_
    rw [H.e9, hf]
    repeat first | refine bq_t (by decide) ?_ | refine bq_f (by decide) ?_
    exact md_ends H.e5 hQ

theorem i_y16 (H : pre mn g rg hq mf cd fg w dd bm rr kt) (ho : zz_ushr w 26 = 17) (hr : fI w 21 = 20) (hf : w &&& 63 = 16) : pfx ms mn g rg hq mf cd fg w dd bm rr kt := by
  refine pfx_mk H 3 (fun L O => (g, rg, hq, mf, cd, fg, L, O)) (fun dd l1 l2 => (upd dd 5 3, l1, l2, bm, rr, kt)) (fun L O P hP => ?_) (fun dd l1 l2 H L O => ⟨oc_end (by unfold q_e; simp) H.rel H.nxt rfl (fun j _ h => pk_un h), fun Q hQ => ?_⟩) (fun _ _ _ _ => rfl) (fun _ _ _ _ _ hs => ⟨by repeat first | exact hs | apply lo_upd, rfl, rfl, rfl⟩) (by first | exact Or.inr (fun _ _ => rfl) | exact Or.inl (by unfold q_e; decide)) (fun _ _ _ => rfl)
  · unfold wp_Pr_perform
    refine pr_op ?_
    rw [ho]
    repeat first | refine bq_t (by decide) ?_ | refine bq_f (by decide) ?_
    refine pr_rs ?_
    rw [hr]
    repeat first | refine bq_t (by decide) ?_ | refine bq_f (by decide) ?_
    refine pr_rt ⟨fI_in w 16, fun t et => ?_⟩
    subst et
    unfold wp_Fu_perform
    refine fun x ex => ?_
    have ex : x = 20 := ex.trans hr
    subst ex
    repeat first | refine bq_t (by decide) ?_ | refine bq_f (by decide) ?_
    unfold wp_Fu_convertFromWord
    refine fun x ex => ?_
    rw [hf] at ex
    subst ex
    repeat first | refine bq_t (by decide) ?_ | refine bq_f (by decide) ?_
    exact hP
  · unfold wp_Md_operate
    rw [ho]
    repeat first | refine bq_t (by decide) ?_ | refine bq_f (by decide) ?_
    unfold wp_Md_fractions
    refine md_field H.e9 (md_field H.e9 (md_field H.e9 ?_))
    rw [hr]
    repeat first | refine bq_t (by decide) ?_ | refine bq_f (by decide) ?_
    rw [H.e9, hf]
    repeat first | refine bq_t (by decide) ?_ | refine bq_f (by decide) ?_
    exact md_ends H.e5 hQ

theorem i_y17 (H : pre mn g rg hq mf cd fg w dd bm rr kt) (ho : zz_ushr w 26 = 17) (hr : fI w 21 = 20) (hf : w &&& 63 = 17) : pfx ms mn g rg hq mf cd fg w dd bm rr kt := by
  refine pfx_mk H 3 (fun L O => (g, rg, hq, mf, cd, fg, L, O)) (fun dd l1 l2 => (upd dd 5 3, l1, l2, bm, rr, kt)) (fun L O P hP => ?_) (fun dd l1 l2 H L O => ⟨oc_end (by unfold q_e; simp) H.rel H.nxt rfl (fun j _ h => pk_un h), fun Q hQ => ?_⟩) (fun _ _ _ _ => rfl) (fun _ _ _ _ _ hs => ⟨by repeat first | exact hs | apply lo_upd, rfl, rfl, rfl⟩) (by first | exact Or.inr (fun _ _ => rfl) | exact Or.inl (by unfold q_e; decide)) (fun _ _ _ => rfl)
  · unfold wp_Pr_perform
    refine pr_op ?_
    rw [ho]
    repeat first | refine bq_t (by decide) ?_ | refine bq_f (by decide) ?_
    refine pr_rs ?_
    rw [hr]
    repeat first | refine bq_t (by decide) ?_ | refine bq_f (by decide) ?_
    refine pr_rt ⟨fI_in w 16, fun t et => ?_⟩
    subst et
    unfold wp_Fu_perform
    refine fun x ex => ?_
    have ex : x = 20 := ex.trans hr
    subst ex
    repeat first | refine bq_t (by decide) ?_ | refine bq_f (by decide) ?_
    unfold wp_Fu_convertFromWord
    refine fun x ex => ?_
    rw [hf] at ex
    subst ex
    repeat first | refine bq_t (by decide) ?_ | refine bq_f (by decide) ?_
    exact hP
  · unfold wp_Md_operate
    rw [ho]
    repeat first | refine bq_t (by decide) ?_ | refine bq_f (by decide) ?_
    unfold wp_Md_fractions
    refine md_field H.e9 (md_field H.e9 (md_field H.e9 ?_))
    rw [hr]
    repeat first | refine bq_t (by decide) ?_ | refine bq_f (by decide) ?_
    rw [H.e9, hf]
    repeat first | refine bq_t (by decide) ?_ | refine bq_f (by decide) ?_
    exact md_ends H.e5 hQ

theorem i_y18 (H : pre mn g rg hq mf cd fg w dd bm rr kt) (ho : zz_ushr w 26 = 17) (hr : fI w 21 = 20) (hf : w &&& 63 = 18) : pfx ms mn g rg hq mf cd fg w dd bm rr kt := by
  refine pfx_mk H 3 (fun L O => (g, rg, hq, mf, cd, fg, L, O)) (fun dd l1 l2 => (upd dd 5 3, l1, l2, bm, rr, kt)) (fun L O P hP => ?_) (fun dd l1 l2 H L O => ⟨oc_end (by unfold q_e; simp) H.rel H.nxt rfl (fun j _ h => pk_un h), fun Q hQ => ?_⟩) (fun _ _ _ _ => rfl) (fun _ _ _ _ _ hs => ⟨by repeat first | exact hs | apply lo_upd, rfl, rfl, rfl⟩) (by first | exact Or.inr (fun _ _ => rfl) | exact Or.inl (by unfold q_e; decide)) (fun _ _ _ => rfl)
  · unfold wp_Pr_perform
    refine pr_op ?_
    rw [ho]
    repeat first | refine bq_t (by decide) ?_ | refine bq_f (by decide) ?_
    refine pr_rs ?_
    rw [hr]
    repeat first | refine bq_t (by decide) ?_ | refine bq_f (by decide) ?_
    refine pr_rt ⟨fI_in w 16, fun t et => ?_⟩
    subst et
    unfold wp_Fu_perform
    refine fun x ex => ?_
    have ex : x = 20 := ex.trans hr
    subst ex
    repeat first | refine bq_t (by decide) ?_ | refine bq_f (by decide) ?_
    unfold wp_Fu_convertFromWord
    refine fun x ex => ?_
    rw [hf] at ex
    subst ex
    repeat first | refine bq_t (by decide) ?_ | refine bq_f (by decide) ?_
    exact hP
  · unfold wp_Md_operate
    rw [ho]
    repeat first | refine bq_t (by decide) ?_ | refine bq_f (by decide) ?_
    unfold wp_Md_fractions
    refine md_field H.e9 (md_field H.e9 (md_field H.e9 ?_))
    rw [hr]
    repeat first | refine bq_t (by decide) ?_ | refine bq_f (by decide) ?_
    rw [H.e9, hf]
    repeat first | refine bq_t (by decide) ?_ | refine bq_f (by decide) ?_
    exact md_ends H.e5 hQ

theorem i_y19 (H : pre mn g rg hq mf cd fg w dd bm rr kt) (ho : zz_ushr w 26 = 17) (hr : fI w 21 = 20) (hf : w &&& 63 = 19) : pfx ms mn g rg hq mf cd fg w dd bm rr kt := by
  refine pfx_mk H 3 (fun L O => (g, rg, hq, mf, cd, fg, L, O)) (fun dd l1 l2 => (upd dd 5 3, l1, l2, bm, rr, kt)) (fun L O P hP => ?_) (fun dd l1 l2 H L O => ⟨oc_end (by unfold q_e; simp) H.rel H.nxt rfl (fun j _ h => pk_un h), fun Q hQ => ?_⟩) (fun _ _ _ _ => rfl) (fun _ _ _ _ _ hs => ⟨by repeat first | exact hs | apply lo_upd, rfl, rfl, rfl⟩) (by first | exact Or.inr (fun _ _ => rfl) | exact Or.inl (by unfold q_e; decide)) (fun _ _ _ => rfl)
  · unfold wp_Pr_perform
    refine pr_op ?_
    rw [ho]
    repeat first | refine bq_t (by decide) ?_ | refine bq_f (by decide) ?_
    refine pr_rs ?_
    rw [hr]
    repeat first | refine bq_t (by decide) ?_ | refine bq_f (by decide) ?_
    refine pr_rt ⟨fI_in w 16, fun t et => ?_⟩
    subst et
    unfold wp_Fu_perform
    refine fun x ex => ?_
    have ex : x = 20 := ex.trans hr
    subst ex
    repeat first | refine bq_t (by decide) ?_ | refine bq_f (by decide) ?_
    unfold wp_Fu_convertFromWord
    refine fun x ex => ?_
    rw [hf] at ex
    subst ex
    repeat first | refine bq_t (by decide) ?_ | refine bq_f (by decide) ?_
    exact hP
  · unfold wp_Md_operate
    rw [ho]
    repeat first | refine bq_t (by decide) ?_ | refine bq_f (by decide) ?_
    unfold wp_Md_fractions
    refine md_field H.e9 (md_field H.e9 (md_field H.e9 ?_))
    rw [hr]
    repeat first | refine bq_t (by decide) ?_ | refine bq_f (by decide) ?_
    rw [H.e9, hf]
    repeat first | refine bq_t (by decide) ?_ | refine bq_f (by decide) ?_
    exact md_ends H.e5 hQ

theorem i_y20 (H : pre mn g rg hq mf cd fg w dd bm rr kt) (ho : zz_ushr w 26 = 17) (hr : fI w 21 = 20) (hf : w &&& 63 = 20) : pfx ms mn g rg hq mf cd fg w dd bm rr kt := by
  refine pfx_mk H 3 (fun L O => (g, rg, hq, mf, cd, fg, L, O)) (fun dd l1 l2 => (upd dd 5 3, l1, l2, bm, rr, kt)) (fun L O P hP => ?_) (fun dd l1 l2 H L O => ⟨oc_end (by unfold q_e; simp) H.rel H.nxt rfl (fun j _ h => pk_un h), fun Q hQ => ?_⟩) (fun _ _ _ _ => rfl) (fun _ _ _ _ _ hs => ⟨by repeat first | exact hs | apply lo_upd, rfl, rfl, rfl⟩) (by first | exact Or.inr (fun _ _ => rfl) | exact Or.inl (by unfold q_e; decide)) (fun _ _ _ => rfl)
  · unfold wp_Pr_perform
    refine pr_op ?_
    rw [ho]
    repeat first | refine bq_t (by decide) ?_ | refine bq_f (by decide) ?_
    refine pr_rs ?_
    rw [hr]
    repeat first | refine bq_t (by decide) ?_ | refine bq_f (by decide) ?_
    refine pr_rt ⟨fI_in w 16, fun t et => ?_⟩
    subst et
    unfold wp_Fu_perform
    refine fun x ex => ?_
    have ex : x = 20 := ex.trans hr
    subst ex
    repeat first | refine bq_t (by decide) ?_ | refine bq_f (by decide) ?_
    unfold wp_Fu_convertFromWord
    refine fun x ex => ?_
    rw [hf] at ex
    subst ex
    repeat first | refine bq_t (by decide) ?_ | refine bq_f (by decide) ?_
    exact hP
  · unfold wp_Md_operate
    rw [ho]
    repeat first | refine bq_t (by decide) ?_ | refine bq_f (by decide) ?_
    unfold wp_Md_fractions
    refine md_field H.e9 (md_field H.e9 (md_field H.e9 ?_))
    rw [hr]
    repeat first | refine bq_t (by decide) ?_ | refine bq_f (by decide) ?_
    rw [H.e9, hf]
    repeat first | refine bq_t (by decide) ?_ | refine bq_f (by decide) ?_
    exact md_ends H.e5 hQ

theorem i_y21 (H : pre mn g rg hq mf cd fg w dd bm rr kt) (ho : zz_ushr w 26 = 17) (hr : fI w 21 = 20) (hf : w &&& 63 = 21) : pfx ms mn g rg hq mf cd fg w dd bm rr kt := by
  refine pfx_mk H 3 (fun L O => (g, rg, hq, mf, cd, fg, L, O)) (fun dd l1 l2 => (upd dd 5 3, l1, l2, bm, rr, kt)) (fun L O P hP => ?_) (fun dd l1 l2 H L O => ⟨oc_end (by unfold q_e; simp) H.rel H.nxt rfl (fun j _ h => pk_un h), fun Q hQ => ?_⟩) (fun _ _ _ _ => rfl) (fun _ _ _ _ _ hs => ⟨by repeat first | exact hs | apply lo_upd, rfl, rfl, rfl⟩) (by first | exact Or.inr (fun _ _ => rfl) | exact Or.inl (by unfold q_e; decide)) (fun _ _ _ => rfl)
  · unfold wp_Pr_perform
    refine pr_op ?_
    rw [ho]
    repeat first | refine bq_t (by decide) ?_ | refine bq_f (by decide) ?_
    refine pr_rs ?_
    rw [hr]
    repeat first | refine bq_t (by decide) ?_ | refine bq_f (by decide) ?_
    refine pr_rt ⟨fI_in w 16, fun t et => ?_⟩
    subst et
    unfold wp_Fu_perform
    refine fun x ex => ?_
    have ex : x = 20 := ex.trans hr
    subst ex
    repeat first | refine bq_t (by decide) ?_ | refine bq_f (by decide) ?_
    unfold wp_Fu_convertFromWord
    refine fun x ex => ?_
    rw [hf] at ex
    subst ex
    repeat first | refine bq_t (by decide) ?_ | refine bq_f (by decide) ?_
    exact hP
  · unfold wp_Md_operate
    rw [ho]
    repeat first | refine bq_t (by decide) ?_ | refine bq_f (by decide) ?_
    unfold wp_Md_fractions
    refine md_field H.e9 (md_field H.e9 (md_field H.e9 ?_))
    rw [hr]
    repeat first | refine bq_t (by decide) ?_ | refine bq_f (by decide) ?_
    rw [H.e9, hf]
    repeat first | refine bq_t (by decide) ?_ | refine bq_f (by decide) ?_
    exact md_ends H.e5 hQ

theorem i_y22 (H : pre mn g rg hq mf cd fg w dd bm rr kt) (ho : zz_ushr w 26 = 17) (hr : fI w 21 = 20) (hf : w &&& 63 = 22) : pfx ms mn g rg hq mf cd fg w dd bm rr kt := by
  refine pfx_mk H 3 (fun L O => (g, rg, hq, mf, cd, fg, L, O)) (fun dd l1 l2 => (upd dd 5 3, l1, l2, bm, rr, kt)) (fun L O P hP => ?_) (fun dd l1 l2 H L O => ⟨oc_end (by unfold q_e; simp) H.rel H.nxt rfl (fun j _ h => pk_un h), fun Q hQ => ?_⟩) (fun _ _ _ _ => rfl) (fun _ _ _ _ _ hs => ⟨by repeat first | exact hs | apply lo_upd, rfl, rfl, rfl⟩) (by first | exact Or.inr (fun _ _ => rfl) | exact Or.inl (by unfold q_e; decide)) (fun _ _ _ => rfl)
  · unfold wp_Pr_perform
    refine pr_op ?_
    rw [ho]
    repeat first | refine bq_t (by decide) ?_ | refine bq_f (by decide) ?_
    refine pr_rs ?_
    rw [hr]
    repeat first | refine bq_t (by decide) ?_ | refine bq_f (by decide) ?_
    refine pr_rt ⟨fI_in w 16, fun t et => ?_⟩
    subst et
    unfold wp_Fu_perform
    refine fun x ex => ?_
    have ex : x = 20 := ex.trans hr
    subst ex
    repeat first | refine bq_t (by decide) ?_ | refine bq_f (by decide) ?_
    unfold wp_Fu_convertFromWord
    refine fun x ex => ?_
    rw [hf] at ex
    subst ex
    repeat first | refine bq_t (by decide) ?_ | refine bq_f (by decide) ?_
    exact hP
  · unfold wp_Md_operate
    rw [ho]
    repeat first | refine bq_t (by decide) ?_ | refine bq_f (by decide) ?_
    unfold wp_Md_fractions
    refine md_field H.e9 (md_field H.e9 (md_field H.e9 ?_))
    rw [hr]
    repeat first | refine bq_t (by decide) ?_ | refine bq_f (by decide) ?_
    rw [H.e9, hf]
    repeat first | refine bq_t (by decide) ?_ | refine bq_f (by decide) ?_
    exact md_ends H.e5 hQ

theorem i_y23 (H : pre mn g rg hq mf cd fg w dd bm rr kt) (ho : zz_ushr w 26 = 17) (hr : fI w 21 = 20) (hf : w &&& 63 = 23) : pfx ms mn g rg hq mf cd fg w dd bm rr kt := by
  refine pfx_mk H 3 (fun L O => (g, rg, hq, mf, cd, fg, L, O)) (fun dd l1 l2 => (upd dd 5 3, l1, l2, bm, rr, kt)) (fun L O P hP => ?_) (fun dd l1 l2 H L O => ⟨oc_end (by unfold q_e; simp) H.rel H.nxt rfl (fun j _ h => pk_un h), fun Q hQ => ?_⟩) (fun _ _ _ _ => rfl) (fun _ _ _ _ _ hs => ⟨by repeat first | exact hs | apply lo_upd, rfl, rfl, rfl⟩) (by first | exact Or.inr (fun _ _ => rfl) | exact Or.inl (by unfold q_e; decide)) (fun _ _ _ => rfl)
  · unfold wp_Pr_perform
    refine pr_op ?_
    rw [ho]
    repeat first | refine bq_t (by decide) ?_ | refine bq_f (by decide) ?_
    refine pr_rs ?_
    rw [hr]
    repeat first | refine bq_t (by decide) ?_ | refine bq_f (by decide) ?_
    refine pr_rt ⟨fI_in w 16, fun t et => ?_⟩
    subst et
    unfold wp_Fu_perform
    refine fun x ex => ?_
    have ex : x = 20 := ex.trans hr
    subst ex
    repeat first | refine bq_t (by decide) ?_ | refine bq_f (by decide) ?_
    unfold wp_Fu_convertFromWord
    refine fun x ex => ?_
    rw [hf] at ex
    subst ex
    repeat first | refine bq_t (by decide) ?_ | refine bq_f (by decide) ?_
    exact hP
  · unfold wp_Md_operate
    rw [ho]
    repeat first | refine bq_t (by decide) ?_ | refine bq_f (by decide) ?_
    unfold wp_Md_fractions
    refine md_field H.e9 (md_field H.e9 (md_field H.e9 ?_))
    rw [hr]
    repeat first | refine bq_t (by decide) ?_ | refine bq_f (by decide) ?_
    rw [H.e9, hf]
    repeat first | refine bq_t (by decide) ?_ | refine bq_f (by decide) ?_
    exact md_ends H.e5 hQ

theorem i_y24 (H : pre mn g rg hq mf cd fg w dd bm rr kt) (ho : zz_ushr w 26 = 17) (hr : fI w 21 = 20) (hf : w &&& 63 = 24) : pfx ms mn g rg hq mf cd fg w dd bm rr kt := by
  refine pfx_mk H 3 (fun L O => (g, rg, hq, mf, cd, fg, L, O)) (fun dd l1 l2 => (upd dd 5 3, l1, l2, bm, rr, kt)) (fun L O P hP => ?_) (fun dd l1 l2 H L O => ⟨oc_end (by unfold q_e; simp) H.rel H.nxt rfl (fun j _ h => pk_un h), fun Q hQ => ?_⟩) (fun _ _ _ _ => rfl) (fun _ _ _ _ _ hs => ⟨by repeat first | exact hs | apply lo_upd, rfl, rfl, rfl⟩) (by first | exact Or.inr (fun _ _ => rfl) | exact Or.inl (by unfold q_e; decide)) (fun _ _ _ => rfl)
  · unfold wp_Pr_perform
    refine pr_op ?_
    rw [ho]
    repeat first | refine bq_t (by decide) ?_ | refine bq_f (by decide) ?_
    refine pr_rs ?_
    rw [hr]
    repeat first | refine bq_t (by decide) ?_ | refine bq_f (by decide) ?_
    refine pr_rt ⟨fI_in w 16, fun t et => ?_⟩
    subst et
    unfold wp_Fu_perform
    refine fun x ex => ?_
    have ex : x = 20 := ex.trans hr
    subst ex
    repeat first | refine bq_t (by decide) ?_ | refine bq_f (by decide) ?_
    unfold wp_Fu_convertFromWord
    refine fun x ex => ?_
    rw [hf] at ex
    subst ex
    repeat first | refine bq_t (by decide) ?_ | refine bq_f (by decide) ?_
    exact hP
  · unfold wp_Md_operate
    rw [ho]
    repeat first | refine bq_t (by decide) ?_ | refine bq_f (by decide) ?_
    unfold wp_Md_fractions
    refine md_field H.e9 (md_field H.e9 (md_field H.e9 ?_))
    rw [hr]
    repeat first | refine bq_t (by decide) ?_ | refine bq_f (by decide) ?_
    rw [H.e9, hf]
    repeat first | refine bq_t (by decide) ?_ | refine bq_f (by decide) ?_
    exact md_ends H.e5 hQ

theorem i_y25 (H : pre mn g rg hq mf cd fg w dd bm rr kt) (ho : zz_ushr w 26 = 17) (hr : fI w 21 = 20) (hf : w &&& 63 = 25) : pfx ms mn g rg hq mf cd fg w dd bm rr kt := by
  refine pfx_mk H 3 (fun L O => (g, rg, hq, mf, cd, fg, L, O)) (fun dd l1 l2 => (upd dd 5 3, l1, l2, bm, rr, kt)) (fun L O P hP => ?_) (fun dd l1 l2 H L O => ⟨oc_end (by unfold q_e; simp) H.rel H.nxt rfl (fun j _ h => pk_un h), fun Q hQ => ?_⟩) (fun _ _ _ _ => rfl) (fun _ _ _ _ _ hs => ⟨by repeat first | exact hs | apply lo_upd, rfl, rfl, rfl⟩) (by first | exact Or.inr (fun _ _ => rfl) | exact Or.inl (by unfold q_e; decide)) (fun _ _ _ => rfl)
  · unfold wp_Pr_perform
    refine pr_op ?_
    rw [ho]
    repeat first | refine bq_t (by decide) ?_ | refine bq_f (by decide) ?_
    refine pr_rs ?_
    rw [hr]
    repeat first | refine bq_t (by decide) ?_ | refine bq_f (by decide) ?_
    refine pr_rt ⟨fI_in w 16, fun t et => ?_⟩
    subst et
    unfold wp_Fu_perform
    refine fun x ex => ?_
    have ex : x = 20 := ex.trans hr
    subst ex
    repeat first | refine bq_t (by decide) ?_ | refine bq_f (by decide) ?_
    unfold wp_Fu_convertFromWord
    refine fun x ex => ?_
    rw [hf] at ex
    subst ex
    repeat first | refine bq_t (by decide) ?_ | refine bq_f (by decide) ?_
    exact hP
  · unfold wp_Md_operate
    rw [ho]
    repeat first | refine bq_t (by decide) ?_ | refine bq_f (by decide) ?_
    unfold wp_Md_fractions
    refine md_field H.e9 (md_field H.e9 (md_field H.e9 ?_))
    rw [hr]
    repeat first | refine bq_t (by decide) ?_ | refine bq_f (by decide) ?_
    rw [H.e9, hf]
    repeat first | refine bq_t (by decide) ?_ | refine bq_f (by decide) ?_
    exact md_ends H.e5 hQ

theorem i_y26 (H : pre mn g rg hq mf cd fg w dd bm rr kt) (ho : zz_ushr w 26 = 17) (hr : fI w 21 = 20) (hf : w &&& 63 = 26) : pfx ms mn g rg hq mf cd fg w dd bm rr kt := by
  refine pfx_mk H 3 (fun L O => (g, rg, hq, mf, cd, fg, L, O)) (fun dd l1 l2 => (upd dd 5 3, l1, l2, bm, rr, kt)) (fun L O P hP => ?_) (fun dd l1 l2 H L O => ⟨oc_end (by unfold q_e; simp) H.rel H.nxt rfl (fun j _ h => pk_un h), fun Q hQ => ?_⟩) (fun _ _ _ _ => rfl) (fun _ _ _ _ _ hs => ⟨by repeat first | exact hs | apply lo_upd, rfl, rfl, rfl⟩) (by first | exact Or.inr (fun _ _ => rfl) | exact Or.inl (by unfold q_e; decide)) (fun _ _ _ => rfl)
  · unfold wp_Pr_perform
    refine pr_op ?_
    rw [ho]
    repeat first | refine bq_t (by decide) ?_ | refine bq_f (by decide) ?_
    refine pr_rs ?_
    rw [hr]
    repeat first | refine bq_t (by decide) ?_ | refine bq_f (by decide) ?_
    refine pr_rt ⟨fI_in w 16, fun t et => ?_⟩
    subst et
    unfold wp_Fu_perform
    refine fun x ex => ?_
    have ex : x = 20 := ex.trans hr
    subst ex
    repeat first | refine bq_t (by decide) ?_ | refine bq_f (by decide) ?_
    unfold wp_Fu_convertFromWord
    refine fun x ex => ?_
    rw [hf] at ex
    subst ex
    repeat first | refine bq_t (by decide) ?_ | refine bq_f (by decide) ?_
    exact hP
  · unfold wp_Md_operate
    rw [ho]
    repeat first | refine bq_t (by decide) ?_ | refine bq_f (by decide) ?_
    unfold wp_Md_fractions
    refine md_field H.e9 (md_field H.e9 (md_field H.e9 ?_))
    rw [hr]
    repeat first | refine bq_t (by decide) ?_ | refine bq_f (by decide) ?_
    rw [H.e9, hf]
    repeat first | refine bq_t (by decide) ?_ | refine bq_f (by decide) ?_
    exact md_ends H.e5 hQ

theorem i_y27 (H : pre mn g rg hq mf cd fg w dd bm rr kt) (ho : zz_ushr w 26 = 17) (hr : fI w 21 = 20) (hf : w &&& 63 = 27) : pfx ms mn g rg hq mf cd fg w dd bm rr kt := by
  refine pfx_mk H 3 (fun L O => (g, rg, hq, mf, cd, fg, L, O)) (fun dd l1 l2 => (upd dd 5 3, l1, l2, bm, rr, kt)) (fun L O P hP => ?_) (fun dd l1 l2 H L O => ⟨oc_end (by unfold q_e; simp) H.rel H.nxt rfl (fun j _ h => pk_un h), fun Q hQ => ?_⟩) (fun _ _ _ _ => rfl) (fun _ _ _ _ _ hs => ⟨by repeat first | exact hs | apply lo_upd, rfl, rfl, rfl⟩) (by first | exact Or.inr (fun _ _ => rfl) | exact Or.inl (by unfold q_e; decide)) (fun _ _ _ => rfl)
  · unfold wp_Pr_perform
    refine pr_op ?_
    rw [ho]
    repeat first | refine bq_t (by decide) ?_ | refine bq_f (by decide) ?_
    refine pr_rs ?_
    rw [hr]
    repeat first | refine bq_t (by decide) ?_ | refine bq_f (by decide) ?_
    refine pr_rt ⟨fI_in w 16, fun t et => ?_⟩
    subst et
    unfold wp_Fu_perform
    refine fun x ex => ?_
    have ex : x = 20 := ex.trans hr
    subst ex
    repeat first | refine bq_t (by decide) ?_ | refine bq_f (by decide) ?_
    unfold wp_Fu_convertFromWord
    refine fun x ex => ?_
    rw [hf] at ex
    subst ex
    repeat first | refine bq_t (by decide) ?_ | refine bq_f (by decide) ?_
    exact hP
  · unfold wp_Md_operate
    rw [ho]
    repeat first | refine bq_t (by decide) ?_ | refine bq_f (by decide) ?_
    unfold wp_Md_fractions
    refine md_field H.e9 (md_field H.e9 (md_field H.e9 ?_))
    rw [hr]
    repeat first | refine bq_t (by decide) ?_ | refine bq_f (by decide) ?_
    rw [H.e9, hf]
    repeat first | refine bq_t (by decide) ?_ | refine bq_f (by decide) ?_
    exact md_ends H.e5 hQ

theorem i_y28 (H : pre mn g rg hq mf cd fg w dd bm rr kt) (ho : zz_ushr w 26 = 17) (hr : fI w 21 = 20) (hf : w &&& 63 = 28) : pfx ms mn g rg hq mf cd fg w dd bm rr kt := by
  refine pfx_mk H 3 (fun L O => (g, rg, hq, mf, cd, fg, L, O)) (fun dd l1 l2 => (upd dd 5 3, l1, l2, bm, rr, kt)) (fun L O P hP => ?_) (fun dd l1 l2 H L O => ⟨oc_end (by unfold q_e; simp) H.rel H.nxt rfl (fun j _ h => pk_un h), fun Q hQ => ?_⟩) (fun _ _ _ _ => rfl) (fun _ _ _ _ _ hs => ⟨by repeat first | exact hs | apply lo_upd, rfl, rfl, rfl⟩) (by first | exact Or.inr (fun _ _ => rfl) | exact Or.inl (by unfold q_e; decide)) (fun _ _ _ => rfl)
  · unfold wp_Pr_perform
    refine pr_op ?_
    rw [ho]
    repeat first | refine bq_t (by decide) ?_ | refine bq_f (by decide) ?_
    refine pr_rs ?_
    rw [hr]
    repeat first | refine bq_t (by decide) ?_ | refine bq_f (by decide) ?_
    refine pr_rt ⟨fI_in w 16, fun t et => ?_⟩
    subst et
    unfold wp_Fu_perform
    refine fun x ex => ?_
    have ex : x = 20 := ex.trans hr
    subst ex
    repeat first | refine bq_t (by decide) ?_ | refine bq_f (by decide) ?_
    unfold wp_Fu_convertFromWord
    refine fun x ex => ?_
    rw [hf] at ex
    subst ex
    repeat first | refine bq_t (by decide) ?_ | refine bq_f (by decide) ?_
    exact hP
  · unfold wp_Md_operate
    rw [ho]
    repeat first | refine bq_t (by decide) ?_ | refine bq_f (by decide) ?_
    unfold wp_Md_fractions
    refine md_field H.e9 (md_field H.e9 (md_field H.e9 ?_))
    rw [hr]
    repeat first | refine bq_t (by decide) ?_ | refine bq_f (by decide) ?_
    rw [H.e9, hf]
    repeat first | refine bq_t (by decide) ?_ | refine bq_f (by decide) ?_
    exact md_ends H.e5 hQ

theorem i_y29 (H : pre mn g rg hq mf cd fg w dd bm rr kt) (ho : zz_ushr w 26 = 17) (hr : fI w 21 = 20) (hf : w &&& 63 = 29) : pfx ms mn g rg hq mf cd fg w dd bm rr kt := by
  refine pfx_mk H 3 (fun L O => (g, rg, hq, mf, cd, fg, L, O)) (fun dd l1 l2 => (upd dd 5 3, l1, l2, bm, rr, kt)) (fun L O P hP => ?_) (fun dd l1 l2 H L O => ⟨oc_end (by unfold q_e; simp) H.rel H.nxt rfl (fun j _ h => pk_un h), fun Q hQ => ?_⟩) (fun _ _ _ _ => rfl) (fun _ _ _ _ _ hs => ⟨by repeat first | exact hs | apply lo_upd, rfl, rfl, rfl⟩) (by first | exact Or.inr (fun _ _ => rfl) | exact Or.inl (by unfold q_e; decide)) (fun _ _ _ => rfl)
  · unfold wp_Pr_perform
    refine pr_op ?_
    rw [ho]
    repeat first | refine bq_t (by decide) ?_ | refine bq_f (by decide) ?_
    refine pr_rs ?_
    rw [hr]
    repeat first | refine bq_t (by decide) ?_ | refine bq_f (by decide) ?_
    refine pr_rt ⟨fI_in w 16, fun t et => ?_⟩
    subst et
    unfold wp_Fu_perform
    refine fun x ex => ?_
    have ex : x = 20 := ex.trans hr
    subst ex
    repeat first | refine bq_t (by decide) ?_ | refine bq_f (by decide) ?_
    unfold wp_Fu_convertFromWord
    refine fun x ex => ?_
    rw [hf] at ex
    subst ex
    repeat first | refine bq_t (by decide) ?_ | refine bq_f (by decide) ?_
    exact hP
  · unfold wp_Md_operate
    rw [ho]
    repeat first | refine bq_t (by decide) ?_ | refine bq_f (by decide) ?_
    unfold wp_Md_fractions
    refine md_field H.e9 (md_field H.e9 (md_field H.e9 ?_))
    rw [hr]
    repeat first | refine bq_t (by decide) ?_ | refine bq_f (by decide) ?_
    rw [H.e9, hf]
    repeat first | refine bq_t (by decide) ?_ | refine bq_f (by decide) ?_
    exact md_ends H.e5 hQ

theorem i_y30 (H : pre mn g rg hq mf cd fg w dd bm rr kt) (ho : zz_ushr w 26 = 17) (hr : fI w 21 = 20) (hf : w &&& 63 = 30) : pfx ms mn g rg hq mf cd fg w dd bm rr kt := by
  refine pfx_mk H 3 (fun L O => (g, rg, hq, mf, cd, fg, L, O)) (fun dd l1 l2 => (upd dd 5 3, l1, l2, bm, rr, kt)) (fun L O P hP => ?_) (fun dd l1 l2 H L O => ⟨oc_end (by unfold q_e; simp) H.rel H.nxt rfl (fun j _ h => pk_un h), fun Q hQ => ?_⟩) (fun _ _ _ _ => rfl) (fun _ _ _ _ _ hs => ⟨by repeat first | exact hs | apply lo_upd, rfl, rfl, rfl⟩) (by first | exact Or.inr (fun _ _ => rfl) | exact Or.inl (by unfold q_e; decide)) (fun _ _ _ => rfl)
  · unfold wp_Pr_perform
    refine pr_op ?_
    rw [ho]
    repeat first | refine bq_t (by decide) ?_ | refine bq_f (by decide) ?_
    refine pr_rs ?_
    rw [hr]
    repeat first | refine bq_t (by decide) ?_ | refine bq_f (by decide) ?_
    refine pr_rt ⟨fI_in w 16, fun t et => ?_⟩
    subst et
    unfold wp_Fu_perform
    refine fun x ex => ?_
    have ex : x = 20 := ex.trans hr
    subst ex
    repeat first | refine bq_t (by decide) ?_ | refine bq_f (by decide) ?_
    unfold wp_Fu_convertFromWord
    refine fun x ex => ?_
    rw [hf] at ex
    subst ex
    repeat first | refine bq_t (by decide) ?_ | refine bq_f (by decide) ?_
    exact hP
  · unfold wp_Md_operate
    rw [ho]
    repeat first | refine bq_t (by decide) ?_ | refine bq_f (by decide) ?_
    unfold wp_Md_fractions
    refine md_field H.e9 (md_field H.e9 (md_field H.e9 ?_))
    rw [hr]
    repeat first | refine bq_t (by decide) ?_ | refine bq_f (by decide) ?_
    rw [H.e9, hf]
    repeat first | refine bq_t (by decide) ?_ | refine bq_f (by decide) ?_
    exact md_ends H.e5 hQ

theorem i_y31 (H : pre mn g rg hq mf cd fg w dd bm rr kt) (ho : zz_ushr w 26 = 17) (hr : fI w 21 = 20) (hf : w &&& 63 = 31) : pfx ms mn g rg hq mf cd fg w dd bm rr kt := by
  refine pfx_mk H 3 (fun L O => (g, rg, hq, mf, cd, fg, L, O)) (fun dd l1 l2 => (upd dd 5 3, l1, l2, bm, rr, kt)) (fun L O P hP => ?_) (fun dd l1 l2 H L O => ⟨oc_end (by unfold q_e; simp) H.rel H.nxt rfl (fun j _ h => pk_un h), fun Q hQ => ?_⟩) (fun _ _ _ _ => rfl) (fun _ _ _ _ _ hs => ⟨by repeat first | exact hs | apply lo_upd, rfl, rfl, rfl⟩) (by first | exact Or.inr (fun _ _ => rfl) | exact Or.inl (by unfold q_e; decide)) (fun _ _ _ => rfl)
  · unfold wp_Pr_perform
    refine pr_op ?_
    rw [ho]
    repeat first | refine bq_t (by decide) ?_ | refine bq_f (by decide) ?_
    refine pr_rs ?_
    rw [hr]
    repeat first | refine bq_t (by decide) ?_ | refine bq_f (by decide) ?_
    refine pr_rt ⟨fI_in w 16, fun t et => ?_⟩
    subst et
    unfold wp_Fu_perform
    refine fun x ex => ?_
    have ex : x = 20 := ex.trans hr
    subst ex
    repeat first | refine bq_t (by decide) ?_ | refine bq_f (by decide) ?_
    unfold wp_Fu_convertFromWord
    refine fun x ex => ?_
    rw [hf] at ex
    subst ex
    repeat first | refine bq_t (by decide) ?_ | refine bq_f (by decide) ?_
    exact hP
  · unfold wp_Md_operate
    rw [ho]
    repeat first | refine bq_t (by decide) ?_ | refine bq_f (by decide) ?_
    unfold wp_Md_fractions
    refine md_field H.e9 (md_field H.e9 (md_field H.e9 ?_))
    rw [hr]
    repeat first | refine bq_t (by decide) ?_ | refine bq_f (by decide) ?_
    rw [H.e9, hf]
    repeat first | refine bq_t (by decide) ?_ | refine bq_f (by decide) ?_
    exact md_ends H.e5 hQ

theorem i_y34 (H : pre mn g rg hq mf cd fg w dd bm rr kt) (ho : zz_ushr w 26 = 17) (hr : fI w 21 = 20) (hf : w &&& 63 = 34) : pfx ms mn g rg hq mf cd fg w dd bm rr kt := by
  refine pfx_mk H 3 (fun L O => (g, rg, hq, mf, cd, fg, L, O)) (fun dd l1 l2 => (upd dd 5 3, l1, l2, bm, rr, kt)) (fun L O P hP => ?_) (fun dd l1 l2 H L O => ⟨oc_end (by unfold q_e; simp) H.rel H.nxt rfl (fun j _ h => pk_un h), fun Q hQ => ?_⟩) (fun _ _ _ _ => rfl) (fun _ _ _ _ _ hs => ⟨by repeat first | exact hs | apply lo_upd, rfl, rfl, rfl⟩) (by first | exact Or.inr (fun _ _ => rfl) | exact Or.inl (by unfold q_e; decide)) (fun _ _ _ => rfl)
  · unfold wp_Pr_perform
    refine pr_op ?_
    rw [ho]
    repeat first | refine bq_t (by decide) ?_ | refine bq_f (by decide) ?_
    refine pr_rs ?_
    rw [hr]
    repeat first | refine bq_t (by decide) ?_ | refine bq_f (by decide) ?_
    refine pr_rt ⟨fI_in w 16, fun t et => ?_⟩
    subst et
    unfold wp_Fu_perform
    refine fun x ex => ?_
    have ex : x = 20 := ex.trans hr
    subst ex
    repeat first | refine bq_t (by decide) ?_ | refine bq_f (by decide) ?_
    unfold wp_Fu_convertFromWord
    refine fun x ex => ?_
    rw [hf] at ex
    subst ex
    repeat first | refine bq_t (by decide) ?_ | refine bq_f (by decide) ?_
    exact hP
  · unfold wp_Md_operate
    rw [ho]
    repeat first | refine bq_t (by decide) ?_ | refine bq_f (by decide) ?_
    unfold wp_Md_fractions
    refine md_field H.e9 (md_field H.e9 (md_field H.e9 ?_))
    rw [hr]
    repeat first | refine bq_t (by decide) ?_ | refine bq_f (by decide) ?_
    rw [H.e9, hf]
    repeat first | refine bq_t (by decide) ?_ | refine bq_f (by decide) ?_
    exact md_ends H.e5 hQ

theorem i_y35 (H : pre mn g rg hq mf cd fg w dd bm rr kt) (ho : zz_ushr w 26 = 17) (hr : fI w 21 = 20) (hf : w &&& 63 = 35) : pfx ms mn g rg hq mf cd fg w dd bm rr kt := by
  refine pfx_mk H 3 (fun L O => (g, rg, hq, mf, cd, fg, L, O)) (fun dd l1 l2 => (upd dd 5 3, l1, l2, bm, rr, kt)) (fun L O P hP => ?_) (fun dd l1 l2 H L O => ⟨oc_end (by unfold q_e; simp) H.rel H.nxt rfl (fun j _ h => pk_un h), fun Q hQ => ?_⟩) (fun _ _ _ _ => rfl) (fun _ _ _ _ _ hs => ⟨by repeat first | exact hs | apply lo_upd, rfl, rfl, rfl⟩) (by first | exact Or.inr (fun _ _ => rfl) | exact Or.inl (by unfold q_e; decide)) (fun _ _ _ => rfl)
  · unfold wp_Pr_perform
    refine pr_op ?_
    rw [ho]
    repeat first | refine bq_t (by decide) ?_ | refine bq_f (by decide) ?_
    refine pr_rs ?_
    rw [hr]
    repeat first | refine bq_t (by decide) ?_ | refine bq_f (by decide) ?_
    refine pr_rt ⟨fI_in w 16, fun t et => ?_⟩
    subst et
    unfold wp_Fu_perform
    refine fun x ex => ?_
    have ex : x = 20 := ex.trans hr
    subst ex
    repeat first | refine bq_t (by decide) ?_ | refine bq_f (by decide) ?_
    unfold wp_Fu_convertFromWord
    refine fun x ex => ?_
    rw [hf] at ex
    subst ex
    repeat first | refine bq_t (by decide) ?_ | refine bq_f (by decide) ?_
    exact hP
  · unfold wp_Md_operate
    rw [ho]
    repeat first | refine bq_t (by decide) ?_ | refine bq_f (by decide) ?_
    unfold wp_Md_fractions
    refine md_field H.e9 (md_field H.e9 (md_field H.e9 ?_))
    rw [hr]
    repeat first | refine bq_t (by decide) ?_ | refine bq_f (by decide) ?_
    rw [H.e9, hf]
    repeat first | refine bq_t (by decide) ?_ | refine bq_f (by decide) ?_
    exact md_ends H.e5 hQ

theorem i_y36 (H : pre mn g rg hq mf cd fg w dd bm rr kt) (ho : zz_ushr w 26 = 17) (hr : fI w 21 = 20) (hf : w &&& 63 = 36) : pfx ms mn g rg hq mf cd fg w dd bm rr kt := by
  refine pfx_mk H 3 (fun L O => (g, rg, hq, mf, cd, fg, L, O)) (fun dd l1 l2 => (upd dd 5 3, l1, l2, bm, rr, kt)) (fun L O P hP => ?_) (fun dd l1 l2 H L O => ⟨oc_end (by unfold q_e; simp) H.rel H.nxt rfl (fun j _ h => pk_un h), fun Q hQ => ?_⟩) (fun _ _ _ _ => rfl) (fun _ _ _ _ _ hs => ⟨by repeat first | exact hs | apply lo_upd, rfl, rfl, rfl⟩) (by first | exact Or.inr (fun _ _ => rfl) | exact Or.inl (by unfold q_e; decide)) (fun _ _ _ => rfl)
  · unfold wp_Pr_perform
    refine pr_op ?_
    rw [ho]
    repeat first | refine bq_t (by decide) ?_ | refine bq_f (by decide) ?_
    refine pr_rs ?_
    rw [hr]
    repeat first | refine bq_t (by decide) ?_ | refine bq_f (by decide) ?_
    refine pr_rt ⟨fI_in w 16, fun t et => ?_⟩
    subst et
    unfold wp_Fu_perform
    refine fun x ex => ?_
    have ex : x = 20 := ex.trans hr
    subst ex
    repeat first | refine bq_t (by decide) ?_ | refine bq_f (by decide) ?_
    unfold wp_Fu_convertFromWord
    refine fun x ex => ?_
    rw [hf] at ex
    subst ex
    repeat first | refine bq_t (by decide) ?_ | refine bq_f (by decide) ?_
    exact hP
  · unfold wp_Md_operate
    rw [ho]
    repeat first | refine bq_t (by decide) ?_ | refine bq_f (by decide) ?_
    unfold wp_Md_fractions
    refine md_field H.e9 (md_field H.e9 (md_field H.e9 ?_))
    rw [hr]
    repeat first | refine bq_t (by decide) ?_ | refine bq_f (by decide) ?_
    rw [H.e9, hf]
    repeat first | refine bq_t (by decide) ?_ | refine bq_f (by decide) ?_
    exact md_ends H.e5 hQ

theorem i_y37 (H : pre mn g rg hq mf cd fg w dd bm rr kt) (ho : zz_ushr w 26 = 17) (hr : fI w 21 = 20) (hf : w &&& 63 = 37) : pfx ms mn g rg hq mf cd fg w dd bm rr kt := by
  refine pfx_mk H 3 (fun L O => (g, rg, hq, mf, cd, fg, L, O)) (fun dd l1 l2 => (upd dd 5 3, l1, l2, bm, rr, kt)) (fun L O P hP => ?_) (fun dd l1 l2 H L O => ⟨oc_end (by unfold q_e; simp) H.rel H.nxt rfl (fun j _ h => pk_un h), fun Q hQ => ?_⟩) (fun _ _ _ _ => rfl) (fun _ _ _ _ _ hs => ⟨by repeat first | exact hs | apply lo_upd, rfl, rfl, rfl⟩) (by first | exact Or.inr (fun _ _ => rfl) | exact Or.inl (by unfold q_e; decide)) (fun _ _ _ => rfl)
  · unfold wp_Pr_perform
    refine pr_op ?_
    rw [ho]
    repeat first | refine bq_t (by decide) ?_ | refine bq_f (by decide) ?_
    refine pr_rs ?_
    rw [hr]
    repeat first | refine bq_t (by decide) ?_ | refine bq_f (by decide) ?_
    refine pr_rt ⟨fI_in w 16, fun t et => ?_⟩
    subst et
    unfold wp_Fu_perform
    refine fun x ex => ?_
    have ex : x = 20 := ex.trans hr
    subst ex
    repeat first | refine bq_t (by decide) ?_ | refine bq_f (by decide) ?_
    unfold wp_Fu_convertFromWord
    refine fun x ex => ?_
    rw [hf] at ex
    subst ex
    repeat first | refine bq_t (by decide) ?_ | refine bq_f (by decide) ?_
    exact hP
  · unfold wp_Md_operate
    rw [ho]
    repeat first | refine bq_t (by decide) ?_ | refine bq_f (by decide) ?_
    unfold wp_Md_fractions
    refine md_field H.e9 (md_field H.e9 (md_field H.e9 ?_))
    rw [hr]
    repeat first | refine bq_t (by decide) ?_ | refine bq_f (by decide) ?_
    rw [H.e9, hf]
    repeat first | refine bq_t (by decide) ?_ | refine bq_f (by decide) ?_
    exact md_ends H.e5 hQ

theorem i_y38 (H : pre mn g rg hq mf cd fg w dd bm rr kt) (ho : zz_ushr w 26 = 17) (hr : fI w 21 = 20) (hf : w &&& 63 = 38) : pfx ms mn g rg hq mf cd fg w dd bm rr kt := by
  refine pfx_mk H 3 (fun L O => (g, rg, hq, mf, cd, fg, L, O)) (fun dd l1 l2 => (upd dd 5 3, l1, l2, bm, rr, kt)) (fun L O P hP => ?_) (fun dd l1 l2 H L O => ⟨oc_end (by unfold q_e; simp) H.rel H.nxt rfl (fun j _ h => pk_un h), fun Q hQ => ?_⟩) (fun _ _ _ _ => rfl) (fun _ _ _ _ _ hs => ⟨by repeat first | exact hs | apply lo_upd, rfl, rfl, rfl⟩) (by first | exact Or.inr (fun _ _ => rfl) | exact Or.inl (by unfold q_e; decide)) (fun _ _ _ => rfl)
  · unfold wp_Pr_perform
    refine pr_op ?_
    rw [ho]
    repeat first | refine bq_t (by decide) ?_ | refine bq_f (by decide) ?_
    refine pr_rs ?_
    rw [hr]
    repeat first | refine bq_t (by decide) ?_ | refine bq_f (by decide) ?_
    refine pr_rt ⟨fI_in w 16, fun t et => ?_⟩
    subst et
    unfold wp_Fu_perform
    refine fun x ex => ?_
    have ex : x = 20 := ex.trans hr
    subst ex
    repeat first | refine bq_t (by decide) ?_ | refine bq_f (by decide) ?_
    unfold wp_Fu_convertFromWord
    refine fun x ex => ?_
    rw [hf] at ex
    subst ex
    repeat first | refine bq_t (by decide) ?_ | refine bq_f (by decide) ?_
    exact hP
  · unfold wp_Md_operate
    rw [ho]
    repeat first | refine bq_t (by decide) ?_ | refine bq_f (by decide) ?_
    unfold wp_Md_fractions
    refine md_field H.e9 (md_field H.e9 (md_field H.e9 ?_))
    rw [hr]
    repeat first | refine bq_t (by decide) ?_ | refine bq_f (by decide) ?_
    rw [H.e9, hf]
    repeat first | refine bq_t (by decide) ?_ | refine bq_f (by decide) ?_
    exact md_ends H.e5 hQ

theorem i_y39 (H : pre mn g rg hq mf cd fg w dd bm rr kt) (ho : zz_ushr w 26 = 17) (hr : fI w 21 = 20) (hf : w &&& 63 = 39) : pfx ms mn g rg hq mf cd fg w dd bm rr kt := by
  refine pfx_mk H 3 (fun L O => (g, rg, hq, mf, cd, fg, L, O)) (fun dd l1 l2 => (upd dd 5 3, l1, l2, bm, rr, kt)) (fun L O P hP => ?_) (fun dd l1 l2 H L O => ⟨oc_end (by unfold q_e; simp) H.rel H.nxt rfl (fun j _ h => pk_un h), fun Q hQ => ?_⟩) (fun _ _ _ _ => rfl) (fun _ _ _ _ _ hs => ⟨by repeat first | exact hs | apply lo_upd, rfl, rfl, rfl⟩) (by first | exact Or.inr (fun _ _ => rfl) | exact Or.inl (by unfold q_e; decide)) (fun _ _ _ => rfl)
  · unfold wp_Pr_perform
    refine pr_op ?_
    rw [ho]
    repeat first | refine bq_t (by decide) ?_ | refine bq_f (by decide) ?_
    refine pr_rs ?_
    rw [hr]
    repeat first | refine bq_t (by decide) ?_ | refine bq_f (by decide) ?_
    refine pr_rt ⟨fI_in w 16, fun t et => ?_⟩
    subst et
    unfold wp_Fu_perform
    refine fun x ex => ?_
    have ex : x = 20 := ex.trans hr
    subst ex
    repeat first | refine bq_t (by decide) ?_ | refine bq_f (by decide) ?_
    unfold wp_Fu_convertFromWord
    refine fun x ex => ?_
    rw [hf] at ex
    subst ex
    repeat first | refine bq_t (by decide) ?_ | refine bq_f (by decide) ?_
    exact hP
  · unfold wp_Md_operate
    rw [ho]
    repeat first | refine bq_t (by decide) ?_ | refine bq_f (by decide) ?_
    unfold wp_Md_fractions
    refine md_field H.e9 (md_field H.e9 (md_field H.e9 ?_))
    rw [hr]
    repeat first | refine bq_t (by decide) ?_ | refine bq_f (by decide) ?_
    rw [H.e9, hf]
    repeat first | refine bq_t (by decide) ?_ | refine bq_f (by decide) ?_
    exact md_ends H.e5 hQ

theorem i_y40 (H : pre mn g rg hq mf cd fg w dd bm rr kt) (ho : zz_ushr w 26 = 17) (hr : fI w 21 = 20) (hf : w &&& 63 = 40) : pfx ms mn g rg hq mf cd fg w dd bm rr kt := by
  refine pfx_mk H 3 (fun L O => (g, rg, hq, mf, cd, fg, L, O)) (fun dd l1 l2 => (upd dd 5 3, l1, l2, bm, rr, kt)) (fun L O P hP => ?_) (fun dd l1 l2 H L O => ⟨oc_end (by unfold q_e; simp) H.rel H.nxt rfl (fun j _ h => pk_un h), fun Q hQ => ?_⟩) (fun _ _ _ _ => rfl) (fun _ _ _ _ _ hs => ⟨by repeat first | exact hs | apply lo_upd, rfl, rfl, rfl⟩) (by first | exact Or.inr (fun _ _ => rfl) | exact Or.inl (by unfold q_e; decide)) (fun _ _ _ => rfl)
  · unfold wp_Pr_perform
    refine pr_op ?_
    rw [ho]
    repeat first | refine bq_t (by decide) ?_ | refine bq_f (by decide) ?_
    refine pr_rs ?_
    rw [hr]
    repeat first | refine bq_t (by decide) ?_ | refine bq_f (by decide) ?_
    refine pr_rt ⟨fI_in w 16, fun t et => ?_⟩
    subst et
    unfold wp_Fu_perform
    refine fun x ex => ?_
    have ex : x = 20 := ex.trans hr
    subst ex
    repeat first | refine bq_t (by decide) ?_ | refine bq_f (by decide) ?_
    unfold wp_Fu_convertFromWord
    refine fun x ex => ?_
    rw [hf] at ex
    subst ex
    repeat first | refine bq_t (by decide) ?_ | refine bq_f (by decide) ?_
    exact hP
  · unfold wp_Md_operate
    rw [ho]
    repeat first | refine bq_t (by decide) ?_ | refine bq_f (by decide) ?_
    unfold wp_Md_fractions
    refine md_field H.e9 (md_field H.e9 (md_field H.e9 ?_))
    rw [hr]
    repeat first | refine bq_t (by decide) ?_ | refine bq_f (by decide) ?_
    rw [H.e9, hf]
    repeat first | refine bq_t (by decide) ?_ | refine bq_f (by decide) ?_
    exact md_ends H.e5 hQ

theorem i_y41 (H : pre mn g rg hq mf cd fg w dd bm rr kt) (ho : zz_ushr w 26 = 17) (hr : fI w 21 = 20) (hf : w &&& 63 = 41) : pfx ms mn g rg hq mf cd fg w dd bm rr kt := by
  refine pfx_mk H 3 (fun L O => (g, rg, hq, mf, cd, fg, L, O)) (fun dd l1 l2 => (upd dd 5 3, l1, l2, bm, rr, kt)) (fun L O P hP => ?_) (fun dd l1 l2 H L O => ⟨oc_end (by unfold q_e; simp) H.rel H.nxt rfl (fun j _ h => pk_un h), fun Q hQ => ?_⟩) (fun _ _ _ _ => rfl) (fun _ _ _ _ _ hs => ⟨by repeat first | exact hs | apply lo_upd, rfl, rfl, rfl⟩) (by first | exact Or.inr (fun _ _ => rfl) | exact Or.inl (by unfold q_e; decide)) (fun _ _ _ => rfl)
  · unfold wp_Pr_perform
    refine pr_op ?_
    rw [ho]
    repeat first | refine bq_t (by decide) ?_ | refine bq_f (by decide) ?_
    refine pr_rs ?_
    rw [hr]
    repeat first | refine bq_t (by decide) ?_ | refine bq_f (by decide) ?_
    refine pr_rt ⟨fI_in w 16, fun t et => ?_⟩
    subst et
    unfold wp_Fu_perform
    refine fun x ex => ?_
    have ex : x = 20 := ex.trans hr
    subst ex
    repeat first | refine bq_t (by decide) ?_ | refine bq_f (by decide) ?_
    unfold wp_Fu_convertFromWord
    refine fun x ex => ?_
    rw [hf] at ex
    subst ex
    repeat first | refine bq_t (by decide) ?_ | refine bq_f (by decide) ?_
    exact hP
  · unfold wp_Md_operate
    rw [ho]
    repeat first | refine bq_t (by decide) ?_ | refine bq_f (by decide) ?_
    unfold wp_Md_fractions
    refine md_field H.e9 (md_field H.e9 (md_field H.e9 ?_))
    rw [hr]
    repeat first | refine bq_t (by decide) ?_ | refine bq_f (by decide) ?_
    rw [H.e9, hf]
    repeat first | refine bq_t (by decide) ?_ | refine bq_f (by decide) ?_
    exact md_ends H.e5 hQ

theorem i_y42 (H : pre mn g rg hq mf cd fg w dd bm rr kt) (ho : zz_ushr w 26 = 17) (hr : fI w 21 = 20) (hf : w &&& 63 = 42) : pfx ms mn g rg hq mf cd fg w dd bm rr kt := by
  refine pfx_mk H 3 (fun L O => (g, rg, hq, mf, cd, fg, L, O)) (fun dd l1 l2 => (upd dd 5 3, l1, l2, bm, rr, kt)) (fun L O P hP => ?_) (fun dd l1 l2 H L O => ⟨oc_end (by unfold q_e; simp) H.rel H.nxt rfl (fun j _ h => pk_un h), fun Q hQ => ?_⟩) (fun _ _ _ _ => rfl) (fun _ _ _ _ _ hs => ⟨by repeat first | exact hs | apply lo_upd, rfl, rfl, rfl⟩) (by first | exact Or.inr (fun _ _ => rfl) | exact Or.inl (by unfold q_e; decide)) (fun _ _ _ => rfl)
  · unfold wp_Pr_perform
    refine pr_op ?_
    rw [ho]
    repeat first | refine bq_t (by decide) ?_ | refine bq_f (by decide) ?_
    refine pr_rs ?_
    rw [hr]
    repeat first | refine bq_t (by decide) ?_ | refine bq_f (by decide) ?_
    refine pr_rt ⟨fI_in w 16, fun t et => ?_⟩
    subst et
    unfold wp_Fu_perform
    refine fun x ex => ?_
    have ex : x = 20 := ex.trans hr
    subst ex
    repeat first | refine bq_t (by decide) ?_ | refine bq_f (by decide) ?_
    unfold wp_Fu_convertFromWord
    refine fun x ex => ?_
    rw [hf] at ex
    subst ex
    repeat first | refine bq_t (by decide) ?_ | refine bq_f (by decide) ?_
    exact hP
  · unfold wp_Md_operate
    rw [ho]
    repeat first | refine bq_t (by decide) ?_ | refine bq_f (by decide) ?_
    unfold wp_Md_fractions
    refine md_field H.e9 (md_field H.e9 (md_field H.e9 ?_))
    rw [hr]
    repeat first | refine bq_t (by decide) ?_ | refine bq_f (by decide) ?_
    rw [H.e9, hf]
    repeat first | refine bq_t (by decide) ?_ | refine bq_f (by decide) ?_
    exact md_ends H.e5 hQ

theorem i_y43 (H : pre mn g rg hq mf cd fg w dd bm rr kt) (ho : zz_ushr w 26 = 17) (hr : fI w 21 = 20) (hf : w &&& 63 = 43) : pfx ms mn g rg hq mf cd fg w dd bm rr kt := by
  refine pfx_mk H 3 (fun L O => (g, rg, hq, mf, cd, fg, L, O)) (fun dd l1 l2 => (upd dd 5 3, l1, l2, bm, rr, kt)) (fun L O P hP => ?_) (fun dd l1 l2 H L O => ⟨oc_end (by unfold q_e; simp) H.rel H.nxt rfl (fun j _ h => pk_un h), fun Q hQ => ?_⟩) (fun _ _ _ _ => rfl) (fun _ _ _ _ _ hs => ⟨by repeat first | exact hs | apply lo_upd, rfl, rfl, rfl⟩) (by first | exact Or.inr (fun _ _ => rfl) | exact Or.inl (by unfold q_e; decide)) (fun _ _ _ => rfl)
  · unfold wp_Pr_perform
    refine pr_op ?_
    rw [ho]
    repeat first | refine bq_t (by decide) ?_ | refine bq_f (by decide) ?_
    refine pr_rs ?_
    rw [hr]
    repeat first | refine bq_t (by decide) ?_ | refine bq_f (by decide) ?_
    refine pr_rt ⟨fI_in w 16, fun t et => ?_⟩
    subst et
    unfold wp_Fu_perform
    refine fun x ex => ?_
    have ex : x = 20 := ex.trans hr
    subst ex
    repeat first | refine bq_t (by decide) ?_ | refine bq_f (by decide) ?_
    unfold wp_Fu_convertFromWord
    refine fun x ex => ?_
    rw [hf] at ex
    subst ex
    repeat first | refine bq_t (by decide) ?_ | refine bq_f (by decide) ?_
    exact hP
  · unfold wp_Md_operate
    rw [ho]
    repeat first | refine bq_t (by decide) ?_ | refine bq_f (by decide) ?_
    unfold wp_Md_fractions
    refine md_field H.e9 (md_field H.e9 (md_field H.e9 ?_))
    rw [hr]
    repeat first | refine bq_t (by decide) ?_ | refine bq_f (by decide) ?_
    rw [H.e9, hf]
    repeat first | refine bq_t (by decide) ?_ | refine bq_f (by decide) ?_
    exact md_ends H.e5 hQ

theorem i_y44 (H : pre mn g rg hq mf cd fg w dd bm rr kt) (ho : zz_ushr w 26 = 17) (hr : fI w 21 = 20) (hf : w &&& 63 = 44) : pfx ms mn g rg hq mf cd fg w dd bm rr kt := by
  refine pfx_mk H 3 (fun L O => (g, rg, hq, mf, cd, fg, L, O)) (fun dd l1 l2 => (upd dd 5 3, l1, l2, bm, rr, kt)) (fun L O P hP => ?_) (fun dd l1 l2 H L O => ⟨oc_end (by unfold q_e; simp) H.rel H.nxt rfl (fun j _ h => pk_un h), fun Q hQ => ?_⟩) (fun _ _ _ _ => rfl) (fun _ _ _ _ _ hs => ⟨by repeat first | exact hs | apply lo_upd, rfl, rfl, rfl⟩) (by first | exact Or.inr (fun _ _ => rfl) | exact Or.inl (by unfold q_e; decide)) (fun _ _ _ => rfl)
  · unfold wp_Pr_perform
    refine pr_op ?_
    rw [ho]
    repeat first | refine bq_t (by decide) ?_ | refine bq_f (by decide) ?_
    refine pr_rs ?_
    rw [hr]
    repeat first | refine bq_t (by decide) ?_ | refine bq_f (by decide) ?_
    refine pr_rt ⟨fI_in w 16, fun t et => ?_⟩
    subst et
    unfold wp_Fu_perform
    refine fun x ex => ?_
    have ex : x = 20 := ex.trans hr
    subst ex
    repeat first | refine bq_t (by decide) ?_ | refine bq_f (by decide) ?_
    unfold wp_Fu_convertFromWord
    refine fun x ex => ?_
    rw [hf] at ex
    subst ex
    repeat first | refine bq_t (by decide) ?_ | refine bq_f (by decide) ?_
    exact hP
  · unfold wp_Md_operate
    rw [ho]
    repeat first | refine bq_t (by decide) ?_ | refine bq_f (by decide) ?_
    unfold wp_Md_fractions
    refine md_field H.e9 (md_field H.e9 (md_field H.e9 ?_))
    rw [hr]
    repeat first | refine bq_t (by decide) ?_ | refine bq_f (by decide) ?_
    rw [H.e9, hf]
    repeat first | refine bq_t (by decide) ?_ | refine bq_f (by decide) ?_
    exact md_ends H.e5 hQ

theorem i_y45 (H : pre mn g rg hq mf cd fg w dd bm rr kt) (ho : zz_ushr w 26 = 17) (hr : fI w 21 = 20) (hf : w &&& 63 = 45) : pfx ms mn g rg hq mf cd fg w dd bm rr kt := by
  refine pfx_mk H 3 (fun L O => (g, rg, hq, mf, cd, fg, L, O)) (fun dd l1 l2 => (upd dd 5 3, l1, l2, bm, rr, kt)) (fun L O P hP => ?_) (fun dd l1 l2 H L O => ⟨oc_end (by unfold q_e; simp) H.rel H.nxt rfl (fun j _ h => pk_un h), fun Q hQ => ?_⟩) (fun _ _ _ _ => rfl) (fun _ _ _ _ _ hs => ⟨by repeat first | exact hs | apply lo_upd, rfl, rfl, rfl⟩) (by first | exact Or.inr (fun _ _ => rfl) | exact Or.inl (by unfold q_e; decide)) (fun _ _ _ => rfl)
  · unfold wp_Pr_perform
    refine pr_op ?_
    rw [ho]
    repeat first | refine bq_t (by decide) ?_ | refine bq_f (by decide) ?_
    refine pr_rs ?_
    rw [hr]
    repeat first | refine bq_t (by decide) ?_ | refine bq_f (by decide) ?_
    refine pr_rt ⟨fI_in w 16, fun t et => ?_⟩
    subst et
    unfold wp_Fu_perform
    refine fun x ex => ?_
    have ex : x = 20 := ex.trans hr
    subst ex
    repeat first | refine bq_t (by decide) ?_ | refine bq_f (by decide) ?_
    unfold wp_Fu_convertFromWord
    refine fun x ex => ?_
    rw [hf] at ex
    subst ex
    repeat first | refine bq_t (by decide) ?_ | refine bq_f (by decide) ?_
    exact hP
  · unfold wp_Md_operate
    rw [ho]
    repeat first | refine bq_t (by decide) ?_ | refine bq_f (by decide) ?_
    unfold wp_Md_fractions
    refine md_field H.e9 (md_field H.e9 (md_field H.e9 ?_))
    rw [hr]
    repeat first | refine bq_t (by decide) ?_ | refine bq_f (by decide) ?_
    rw [H.e9, hf]
    repeat first | refine bq_t (by decide) ?_ | refine bq_f (by decide) ?_
    exact md_ends H.e5 hQ

theorem i_y46 (H : pre mn g rg hq mf cd fg w dd bm rr kt) (ho : zz_ushr w 26 = 17) (hr : fI w 21 = 20) (hf : w &&& 63 = 46) : pfx ms mn g rg hq mf cd fg w dd bm rr kt := by
  refine pfx_mk H 3 (fun L O => (g, rg, hq, mf, cd, fg, L, O)) (fun dd l1 l2 => (upd dd 5 3, l1, l2, bm, rr, kt)) (fun L O P hP => ?_) (fun dd l1 l2 H L O => ⟨oc_end (by unfold q_e; simp) H.rel H.nxt rfl (fun j _ h => pk_un h), fun Q hQ => ?_⟩) (fun _ _ _ _ => rfl) (fun _ _ _ _ _ hs => ⟨by repeat first | exact hs | apply lo_upd, rfl, rfl, rfl⟩) (by first | exact Or.inr (fun _ _ => rfl) | exact Or.inl (by unfold q_e; decide)) (fun _ _ _ => rfl)
  · unfold wp_Pr_perform
    refine pr_op ?_
    rw [ho]
    repeat first | refine bq_t (by decide) ?_ | refine bq_f (by decide) ?_
    refine pr_rs ?_
    rw [hr]
    repeat first | refine bq_t (by decide) ?_ | refine bq_f (by decide) ?_
    refine pr_rt ⟨fI_in w 16, fun t et => ?_⟩
    subst et
    unfold wp_Fu_perform
    refine fun x ex => ?_
    have ex : x = 20 := ex.trans hr
    subst ex
    repeat first | refine bq_t (by decide) ?_ | refine bq_f (by decide) ?_
    unfold wp_Fu_convertFromWord
    refine fun x ex => ?_
    rw [hf] at ex
    subst ex
    repeat first | refine bq_t (by decide) ?_ | refine bq_f (by decide) ?_
    exact hP
  · unfold wp_Md_operate
    rw [ho]
    repeat first | refine bq_t (by decide) ?_ | refine bq_f (by decide) ?_
    unfold wp_Md_fractions
    refine md_field H.e9 (md_field H.e9 (md_field H.e9 ?_))
    rw [hr]
    repeat first | refine bq_t (by decide) ?_ | refine bq_f (by decide) ?_
    rw [H.e9, hf]
    repeat first | refine bq_t (by decide) ?_ | refine bq_f (by decide) ?_
    exact md_ends H.e5 hQ

theorem i_y47 (H : pre mn g rg hq mf cd fg w dd bm rr kt) (ho : zz_ushr w 26 = 17) (hr : fI w 21 = 20) (hf : w &&& 63 = 47) : pfx ms mn g rg hq mf cd fg w dd bm rr kt := by
  refine pfx_mk H 3 (fun L O => (g, rg, hq, mf, cd, fg, L, O)) (fun dd l1 l2 => (upd dd 5 3, l1, l2, bm, rr, kt)) (fun L O P hP => ?_) (fun dd l1 l2 H L O => ⟨oc_end (by unfold q_e; simp) H.rel H.nxt rfl (fun j _ h => pk_un h), fun Q hQ => ?_⟩) (fun _ _ _ _ => rfl) (fun _ _ _ _ _ hs => ⟨by repeat first | exact hs | apply lo_upd, rfl, rfl, rfl⟩) (by first | exact Or.inr (fun _ _ => rfl) | exact Or.inl (by unfold q_e; decide)) (fun _ _ _ => rfl)
  · unfold wp_Pr_perform
    refine pr_op ?_
    rw [ho]
    repeat first | refine bq_t (by decide) ?_ | refine bq_f (by decide) ?_
    refine pr_rs ?_
    rw [hr]
    repeat first | refine bq_t (by decide) ?_ | refine bq_f (by decide) ?_
    refine pr_rt ⟨fI_in w 16, fun t et => ?_⟩
    subst et
    unfold wp_Fu_perform
    refine fun x ex => ?_
    have ex : x = 20 := ex.trans hr
    subst ex
    repeat first | refine bq_t (by decide) ?_ | refine bq_f (by decide) ?_
    unfold wp_Fu_convertFromWord
    refine fun x ex => ?_
    rw [hf] at ex
    subst ex
    repeat first | refine bq_t (by decide) ?_ | refine bq_f (by decide) ?_
    exact hP
  · unfold wp_Md_operate
    rw [ho]
    repeat first | refine bq_t (by decide) ?_ | refine bq_f (by decide) ?_
    unfold wp_Md_fractions
    refine md_field H.e9 (md_field H.e9 (md_field H.e9 ?_))
    rw [hr]
    repeat first | refine bq_t (by decide) ?_ | refine bq_f (by decide) ?_
    rw [H.e9, hf]
    repeat first | refine bq_t (by decide) ?_ | refine bq_f (by decide) ?_
    exact md_ends H.e5 hQ

theorem i_y48 (H : pre mn g rg hq mf cd fg w dd bm rr kt) (ho : zz_ushr w 26 = 17) (hr : fI w 21 = 20) (hf : w &&& 63 = 48) : pfx ms mn g rg hq mf cd fg w dd bm rr kt := by
  refine pfx_mk H 3 (fun L O => (g, rg, hq, mf, cd, fg, L, O)) (fun dd l1 l2 => (upd dd 5 3, l1, l2, bm, rr, kt)) (fun L O P hP => ?_) (fun dd l1 l2 H L O => ⟨oc_end (by unfold q_e; simp) H.rel H.nxt rfl (fun j _ h => pk_un h), fun Q hQ => ?_⟩) (fun _ _ _ _ => rfl) (fun _ _ _ _ _ hs => ⟨by repeat first | exact hs | apply lo_upd, rfl, rfl, rfl⟩) (by first | exact Or.inr (fun _ _ => rfl) | exact Or.inl (by unfold q_e; decide)) (fun _ _ _ => rfl)
  · unfold wp_Pr_perform
    refine pr_op ?_
    rw [ho]
    repeat first | refine bq_t (by decide) ?_ | refine bq_f (by decide) ?_
    refine pr_rs ?_
    rw [hr]
    repeat first | refine bq_t (by decide) ?_ | refine bq_f (by decide) ?_
    refine pr_rt ⟨fI_in w 16, fun t et => ?_⟩
    subst et
    unfold wp_Fu_perform
    refine fun x ex => ?_
    have ex : x = 20 := ex.trans hr
    subst ex
    repeat first | refine bq_t (by decide) ?_ | refine bq_f (by decide) ?_
    unfold wp_Fu_convertFromWord
    refine fun x ex => ?_
    rw [hf] at ex
    subst ex
    repeat first | refine bq_t (by decide) ?_ | refine bq_f (by decide) ?_
    exact hP
  · unfold wp_Md_operate
    rw [ho]
    repeat first | refine bq_t (by decide) ?_ | refine bq_f (by decide) ?_
    unfold wp_Md_fractions
    refine md_field H.e9 (md_field H.e9 (md_field H.e9 ?_))
    rw [hr]
    repeat first | refine bq_t (by decide) ?_ | refine bq_f (by decide) ?_
    rw [H.e9, hf]
    repeat first | refine bq_t (by decide) ?_ | refine bq_f (by decide) ?_
    exact md_ends H.e5 hQ

theorem i_y49 (H : pre mn g rg hq mf cd fg w dd bm rr kt) (ho : zz_ushr w 26 = 17) (hr : fI w 21 = 20) (hf : w &&& 63 = 49) : pfx ms mn g rg hq mf cd fg w dd bm rr kt := by
  refine pfx_mk H 3 (fun L O => (g, rg, hq, mf, cd, fg, L, O)) (fun dd l1 l2 => (upd dd 5 3, l1, l2, bm, rr, kt)) (fun L O P hP => ?_) (fun dd l1 l2 H L O => ⟨oc_end (by unfold q_e; simp) H.rel H.nxt rfl (fun j _ h => pk_un h), fun Q hQ => ?_⟩) (fun _ _ _ _ => rfl) (fun _ _ _ _ _ hs => ⟨by repeat first | exact hs | apply lo_upd, rfl, rfl, rfl⟩) (by first | exact Or.inr (fun _ _ => rfl) | exact Or.inl (by unfold q_e; decide)) (fun _ _ _ => rfl)
  · unfold wp_Pr_perform
    refine pr_op ?_
    rw [ho]
    repeat first | refine bq_t (by decide) ?_ | refine bq_f (by decide) ?_
    refine pr_rs ?_
    rw [hr]
    repeat first | refine bq_t (by decide) ?_ | refine bq_f (by decide) ?_
    refine pr_rt ⟨fI_in w 16, fun t et => ?_⟩
    subst et
    unfold wp_Fu_perform
    refine fun x ex => ?_
    have ex : x = 20 := ex.trans hr
    subst ex
    repeat first | refine bq_t (by decide) ?_ | refine bq_f (by decide) ?_
    unfold wp_Fu_convertFromWord
    refine fun x ex => ?_
    rw [hf] at ex
    subst ex
    repeat first | refine bq_t (by decide) ?_ | refine bq_f (by decide) ?_
    exact hP
  · unfold wp_Md_operate
    rw [ho]
    repeat first | refine bq_t (by decide) ?_ | refine bq_f (by decide) ?_
    unfold wp_Md_fractions
    refine md_field H.e9 (md_field H.e9 (md_field H.e9 ?_))
    rw [hr]
    repeat first | refine bq_t (by decide) ?_ | refine bq_f (by decide) ?_
    rw [H.e9, hf]
    repeat first | refine bq_t (by decide) ?_ | refine bq_f (by decide) ?_
    exact md_ends H.e5 hQ

theorem i_y50 (H : pre mn g rg hq mf cd fg w dd bm rr kt) (ho : zz_ushr w 26 = 17) (hr : fI w 21 = 20) (hf : w &&& 63 = 50) : pfx ms mn g rg hq mf cd fg w dd bm rr kt := by
  refine pfx_mk H 3 (fun L O => (g, rg, hq, mf, cd, fg, L, O)) (fun dd l1 l2 => (upd dd 5 3, l1, l2, bm, rr, kt)) (fun L O P hP => ?_) (fun dd l1 l2 H L O => ⟨oc_end (by unfold q_e; simp) H.rel H.nxt rfl (fun j _ h => pk_un h), fun Q hQ => ?_⟩) (fun _ _ _ _ => rfl) (fun _ _ _ _ _ hs => ⟨by repeat first | exact hs | apply lo_upd, rfl, rfl, rfl⟩) (by first | exact Or.inr (fun _ _ => rfl) | exact Or.inl (by unfold q_e; decide)) (fun _ _ _ => rfl)
  · unfold wp_Pr_perform
    refine pr_op ?_
    rw [ho]
    repeat first | refine bq_t (by decide) ?_ | refine bq_f (by decide) ?_
    refine pr_rs ?_
    rw [hr]
    repeat first | refine bq_t (by decide) ?_ | refine bq_f (by decide) ?_
    refine pr_rt ⟨fI_in w 16, fun t et => ?_⟩
    subst et
    unfold wp_Fu_perform
    refine fun x ex => ?_
    have ex : x = 20 := ex.trans hr
    subst ex
    repeat first | refine bq_t (by decide) ?_ | refine bq_f (by decide) ?_
    unfold wp_Fu_convertFromWord
    refine fun x ex => ?_
    rw [hf] at ex
    subst ex
    repeat first | refine bq_t (by decide) ?_ | refine bq_f (by decide) ?_
    exact hP
  · unfold wp_Md_operate
    rw [ho]
    repeat first | refine bq_t (by decide) ?_ | refine bq_f (by decide) ?_
    unfold wp_Md_fractions
    refine md_field H.e9 (md_field H.e9 (md_field H.e9 ?_))
    rw [hr]
    repeat first | refine bq_t (by decide) ?_ | refine bq_f (by decide) ?_
    rw [H.e9, hf]
    repeat first | refine bq_t (by decide) ?_ | refine bq_f (by decide) ?_
    exact md_ends H.e5 hQ

theorem i_y51 (H : pre mn g rg hq mf cd fg w dd bm rr kt) (ho : zz_ushr w 26 = 17) (hr : fI w 21 = 20) (hf : w &&& 63 = 51) : pfx ms mn g rg hq mf cd fg w dd bm rr kt := by
  refine pfx_mk H 3 (fun L O => (g, rg, hq, mf, cd, fg, L, O)) (fun dd l1 l2 => (upd dd 5 3, l1, l2, bm, rr, kt)) (fun L O P hP => ?_) (fun dd l1 l2 H L O => ⟨oc_end (by unfold q_e; simp) H.rel H.nxt rfl (fun j _ h => pk_un h), fun Q hQ => ?_⟩) (fun _ _ _ _ => rfl) (fun _ _ _ _ _ hs => ⟨by repeat first | exact hs | apply lo_upd, rfl, rfl, rfl⟩) (by first | exact Or.inr (fun _ _ => rfl) | exact Or.inl (by unfold q_e; decide)) (fun _ _ _ => rfl)
  · unfold wp_Pr_perform
    refine pr_op ?_
    rw [ho]
    repeat first | refine bq_t (by decide) ?_ | refine bq_f (by decide) ?_
    refine pr_rs ?_
    rw [hr]
    repeat first | refine bq_t (by decide) ?_ | refine bq_f (by decide) ?_
    refine pr_rt ⟨fI_in w 16, fun t et => ?_⟩
    subst et
    unfold wp_Fu_perform
    refine fun x ex => ?_
    have ex : x = 20 := ex.trans hr
    subst ex
    repeat first | refine bq_t (by decide) ?_ | refine bq_f (by decide) ?_
    unfold wp_Fu_convertFromWord
    refine fun x ex => ?_
    rw [hf] at ex
    subst ex
    repeat first | refine bq_t (by decide) ?_ | refine bq_f (by decide) ?_
    exact hP
  · unfold wp_Md_operate
    rw [ho]
    repeat first | refine bq_t (by decide) ?_ | refine bq_f (by decide) ?_
    unfold wp_Md_fractions
    refine md_field H.e9 (md_field H.e9 (md_field H.e9 ?_))
    rw [hr]
    repeat first | refine bq_t (by decide) ?_ | refine bq_f (by decide) ?_
    rw [H.e9, hf]
    repeat first | refine bq_t (by decide) ?_ | refine bq_f (by decide) ?_
    exact md_ends H.e5 hQ

theorem i_y52 (H : pre mn g rg hq mf cd fg w dd bm rr kt) (ho : zz_ushr w 26 = 17) (hr : fI w 21 = 20) (hf : w &&& 63 = 52) : pfx ms mn g rg hq mf cd fg w dd bm rr kt := by
  refine pfx_mk H 3 (fun L O => (g, rg, hq, mf, cd, fg, L, O)) (fun dd l1 l2 => (upd dd 5 3, l1, l2, bm, rr, kt)) (fun L O P hP => ?_) (fun dd l1 l2 H L O => ⟨oc_end (by unfold q_e; simp) H.rel H.nxt rfl (fun j _ h => pk_un h), fun Q hQ => ?_⟩) (fun _ _ _ _ => rfl) (fun _ _ _ _ _ hs => ⟨by repeat first | exact hs | apply lo_upd, rfl, rfl, rfl⟩) (by first | exact Or.inr (fun _ _ => rfl) | exact Or.inl (by unfold q_e; decide)) (fun _ _ _ => rfl)
  · unfold wp_Pr_perform
    refine pr_op ?_
    rw [ho]
    repeat first | refine bq_t (by decide) ?_ | refine bq_f (by decide) ?_
    refine pr_rs ?_
    rw [hr]
    repeat first | refine bq_t (by decide) ?_ | refine bq_f (by decide) ?_
    refine pr_rt ⟨fI_in w 16, fun t et => ?_⟩
    subst et
    unfold wp_Fu_perform
    refine fun x ex => ?_
    have ex : x = 20 := ex.trans hr
    subst ex
    repeat first | refine bq_t (by decide) ?_ | refine bq_f (by decide) ?_
    unfold wp_Fu_convertFromWord
    refine fun x ex => ?_
    rw [hf] at ex
    subst ex
    repeat first | refine bq_t (by decide) ?_ | refine bq_f (by decide) ?_
    exact hP
  · unfold wp_Md_operate
    rw [ho]
    repeat first | refine bq_t (by decide) ?_ | refine bq_f (by decide) ?_
    unfold wp_Md_fractions
    refine md_field H.e9 (md_field H.e9 (md_field H.e9 ?_))
    rw [hr]
    repeat first | refine bq_t (by decide) ?_ | refine bq_f (by decide) ?_
    rw [H.e9, hf]
    repeat first | refine bq_t (by decide) ?_ | refine bq_f (by decide) ?_
    exact md_ends H.e5 hQ

theorem i_y53 (H : pre mn g rg hq mf cd fg w dd bm rr kt) (ho : zz_ushr w 26 = 17) (hr : fI w 21 = 20) (hf : w &&& 63 = 53) : pfx ms mn g rg hq mf cd fg w dd bm rr kt := by
  refine pfx_mk H 3 (fun L O => (g, rg, hq, mf, cd, fg, L, O)) (fun dd l1 l2 => (upd dd 5 3, l1, l2, bm, rr, kt)) (fun L O P hP => ?_) (fun dd l1 l2 H L O => ⟨oc_end (by unfold q_e; simp) H.rel H.nxt rfl (fun j _ h => pk_un h), fun Q hQ => ?_⟩) (fun _ _ _ _ => rfl) (fun _ _ _ _ _ hs => ⟨by repeat first | exact hs | apply lo_upd, rfl, rfl, rfl⟩) (by first | exact Or.inr (fun _ _ => rfl) | exact Or.inl (by unfold q_e; decide)) (fun _ _ _ => rfl)
  · unfold wp_Pr_perform
    refine pr_op ?_
    rw [ho]
    repeat first | refine bq_t (by decide) ?_ | refine bq_f (by decide) ?_
    refine pr_rs ?_
    rw [hr]
    repeat first | refine bq_t (by decide) ?_ | refine bq_f (by decide) ?_
    refine pr_rt ⟨fI_in w 16, fun t et => ?_⟩
    subst et
    unfold wp_Fu_perform
    refine fun x ex => ?_
    have ex : x = 20 := ex.trans hr
    subst ex
    repeat first | refine bq_t (by decide) ?_ | refine bq_f (by decide) ?_
    unfold wp_Fu_convertFromWord
    refine fun x ex => ?_
    rw [hf] at ex
    subst ex
    repeat first | refine bq_t (by decide) ?_ | refine bq_f (by decide) ?_
    exact hP
  · unfold wp_Md_operate
    rw [ho]
    repeat first | refine bq_t (by decide) ?_ | refine bq_f (by decide) ?_
    unfold wp_Md_fractions
    refine md_field H.e9 (md_field H.e9 (md_field H.e9 ?_))
    rw [hr]
    repeat first | refine bq_t (by decide) ?_ | refine bq_f (by decide) ?_
    rw [H.e9, hf]
    repeat first | refine bq_t (by decide) ?_ | refine bq_f (by decide) ?_
    exact md_ends H.e5 hQ

theorem i_y54 (H : pre mn g rg hq mf cd fg w dd bm rr kt) (ho : zz_ushr w 26 = 17) (hr : fI w 21 = 20) (hf : w &&& 63 = 54) : pfx ms mn g rg hq mf cd fg w dd bm rr kt := by
  refine pfx_mk H 3 (fun L O => (g, rg, hq, mf, cd, fg, L, O)) (fun dd l1 l2 => (upd dd 5 3, l1, l2, bm, rr, kt)) (fun L O P hP => ?_) (fun dd l1 l2 H L O => ⟨oc_end (by unfold q_e; simp) H.rel H.nxt rfl (fun j _ h => pk_un h), fun Q hQ => ?_⟩) (fun _ _ _ _ => rfl) (fun _ _ _ _ _ hs => ⟨by repeat first | exact hs | apply lo_upd, rfl, rfl, rfl⟩) (by first | exact Or.inr (fun _ _ => rfl) | exact Or.inl (by unfold q_e; decide)) (fun _ _ _ => rfl)
  · unfold wp_Pr_perform
    refine pr_op ?_
    rw [ho]
    repeat first | refine bq_t (by decide) ?_ | refine bq_f (by decide) ?_
    refine pr_rs ?_
    rw [hr]
    repeat first | refine bq_t (by decide) ?_ | refine bq_f (by decide) ?_
    refine pr_rt ⟨fI_in w 16, fun t et => ?_⟩
    subst et
    unfold wp_Fu_perform
    refine fun x ex => ?_
    have ex : x = 20 := ex.trans hr
    subst ex
    repeat first | refine bq_t (by decide) ?_ | refine bq_f (by decide) ?_
    unfold wp_Fu_convertFromWord
    refine fun x ex => ?_
    rw [hf] at ex
    subst ex
    repeat first | refine bq_t (by decide) ?_ | refine bq_f (by decide) ?_
    exact hP
  · unfold wp_Md_operate
    rw [ho]
    repeat first | refine bq_t (by decide) ?_ | refine bq_f (by decide) ?_
    unfold wp_Md_fractions
    refine md_field H.e9 (md_field H.e9 (md_field H.e9 ?_))
    rw [hr]
    repeat first | refine bq_t (by decide) ?_ | refine bq_f (by decide) ?_
    rw [H.e9, hf]
    repeat first | refine bq_t (by decide) ?_ | refine bq_f (by decide) ?_
    exact md_ends H.e5 hQ

theorem i_y55 (H : pre mn g rg hq mf cd fg w dd bm rr kt) (ho : zz_ushr w 26 = 17) (hr : fI w 21 = 20) (hf : w &&& 63 = 55) : pfx ms mn g rg hq mf cd fg w dd bm rr kt := by
  refine pfx_mk H 3 (fun L O => (g, rg, hq, mf, cd, fg, L, O)) (fun dd l1 l2 => (upd dd 5 3, l1, l2, bm, rr, kt)) (fun L O P hP => ?_) (fun dd l1 l2 H L O => ⟨oc_end (by unfold q_e; simp) H.rel H.nxt rfl (fun j _ h => pk_un h), fun Q hQ => ?_⟩) (fun _ _ _ _ => rfl) (fun _ _ _ _ _ hs => ⟨by repeat first | exact hs | apply lo_upd, rfl, rfl, rfl⟩) (by first | exact Or.inr (fun _ _ => rfl) | exact Or.inl (by unfold q_e; decide)) (fun _ _ _ => rfl)
  · unfold wp_Pr_perform
    refine pr_op ?_
    rw [ho]
    repeat first | refine bq_t (by decide) ?_ | refine bq_f (by decide) ?_
    refine pr_rs ?_
    rw [hr]
    repeat first | refine bq_t (by decide) ?_ | refine bq_f (by decide) ?_
    refine pr_rt ⟨fI_in w 16, fun t et => ?_⟩
    subst et
    unfold wp_Fu_perform
    refine fun x ex => ?_
    have ex : x = 20 := ex.trans hr
    subst ex
    repeat first | refine bq_t (by decide) ?_ | refine bq_f (by decide) ?_
    unfold wp_Fu_convertFromWord
    refine fun x ex => ?_
    rw [hf] at ex
    subst ex
    repeat first | refine bq_t (by decide) ?_ | refine bq_f (by decide) ?_
    exact hP
  · unfold wp_Md_operate
    rw [ho]
    repeat first | refine bq_t (by decide) ?_ | refine bq_f (by decide) ?_
    unfold wp_Md_fractions
    refine md_field H.e9 (md_field H.e9 (md_field H.e9 ?_))
    rw [hr]
    repeat first | refine bq_t (by decide) ?_ | refine bq_f (by decide) ?_
    rw [H.e9, hf]
    repeat first | refine bq_t (by decide) ?_ | refine bq_f (by decide) ?_
    exact md_ends H.e5 hQ

theorem i_y56 (H : pre mn g rg hq mf cd fg w dd bm rr kt) (ho : zz_ushr w 26 = 17) (hr : fI w 21 = 20) (hf : w &&& 63 = 56) : pfx ms mn g rg hq mf cd fg w dd bm rr kt := by
  refine pfx_mk H 3 (fun L O => (g, rg, hq, mf, cd, fg, L, O)) (fun dd l1 l2 => (upd dd 5 3, l1, l2, bm, rr, kt)) (fun L O P hP => ?_) (fun dd l1 l2 H L O => ⟨oc_end (by unfold q_e; simp) H.rel H.nxt rfl (fun j _ h => pk_un h), fun Q hQ => ?_⟩) (fun _ _ _ _ => rfl) (fun _ _ _ _ _ hs => ⟨by repeat first | exact hs | apply lo_upd, rfl, rfl, rfl⟩) (by first | exact Or.inr (fun _ _ => rfl) | exact Or.inl (by unfold q_e; decide)) (fun _ _ _ => rfl)
  · unfold wp_Pr_perform
    refine pr_op ?_
    rw [ho]
    repeat first | refine bq_t (by decide) ?_ | refine bq_f (by decide) ?_
    refine pr_rs ?_
    rw [hr]
    repeat first | refine bq_t (by decide) ?_ | refine bq_f (by decide) ?_
    refine pr_rt ⟨fI_in w 16, fun t et => ?_⟩
    subst et
    unfold wp_Fu_perform
    refine fun x ex => ?_
    have ex : x = 20 := ex.trans hr
    subst ex
    repeat first | refine bq_t (by decide) ?_ | refine bq_f (by decide) ?_
    unfold wp_Fu_convertFromWord
    refine fun x ex => ?_
    rw [hf] at ex
    subst ex
    repeat first | refine bq_t (by decide) ?_ | refine bq_f (by decide) ?_
    exact hP
  · unfold wp_Md_operate
    rw [ho]
    repeat first | refine bq_t (by decide) ?_ | refine bq_f (by decide) ?_
    unfold wp_Md_fractions
    refine md_field H.e9 (md_field H.e9 (md_field H.e9 ?_))
    rw [hr]
    repeat first | refine bq_t (by decide) ?_ | refine bq_f (by decide) ?_
    rw [H.e9, hf]
    repeat first | refine bq_t (by decide) ?_ | refine bq_f (by decide) ?_
    exact md_ends H.e5 hQ

theorem i_y57 (H : pre mn g rg hq mf cd fg w dd bm rr kt) (ho : zz_ushr w 26 = 17) (hr : fI w 21 = 20) (hf : w &&& 63 = 57) : pfx ms mn g rg hq mf cd fg w dd bm rr kt := by
  refine pfx_mk H 3 (fun L O => (g, rg, hq, mf, cd, fg, L, O)) (fun dd l1 l2 => (upd dd 5 3, l1, l2, bm, rr, kt)) (fun L O P hP => ?_) (fun dd l1 l2 H L O => ⟨oc_end (by unfold q_e; simp) H.rel H.nxt rfl (fun j _ h => pk_un h), fun Q hQ => ?_⟩) (fun _ _ _ _ => rfl) (fun _ _ _ _ _ hs => ⟨by repeat first | exact hs | apply lo_upd, rfl, rfl, rfl⟩) (by first | exact Or.inr (fun _ _ => rfl) | exact Or.inl (by unfold q_e; decide)) (fun _ _ _ => rfl)
  · unfold wp_Pr_perform
    refine pr_op ?_
    rw [ho]
    repeat first | refine bq_t (by decide) ?_ | refine bq_f (by decide) ?_
    refine pr_rs ?_
    rw [hr]
    repeat first | refine bq_t (by decide) ?_ | refine bq_f (by decide) ?_
    refine pr_rt ⟨fI_in w 16, fun t et => ?_⟩
    subst et
    unfold wp_Fu_perform
    refine fun x ex => ?_
    have ex : x = 20 := ex.trans hr
    subst ex
    repeat first | refine bq_t (by decide) ?_ | refine bq_f (by decide) ?_
    unfold wp_Fu_convertFromWord
    refine fun x ex => ?_
    rw [hf] at ex
    subst ex
    repeat first | refine bq_t (by decide) ?_ | refine bq_f (by decide) ?_
    exact hP
  · unfold wp_Md_operate
    rw [ho]
    repeat first | refine bq_t (by decide) ?_ | refine bq_f (by decide) ?_
    unfold wp_Md_fractions
    refine md_field H.e9 (md_field H.e9 (md_field H.e9 ?_))
    rw [hr]
    repeat first | refine bq_t (by decide) ?_ | refine bq_f (by decide) ?_
    rw [H.e9, hf]
    repeat first | refine bq_t (by decide) ?_ | refine bq_f (by decide) ?_
    exact md_ends H.e5 hQ

theorem i_y58 (H : pre mn g rg hq mf cd fg w dd bm rr kt) (ho : zz_ushr w 26 = 17) (hr : fI w 21 = 20) (hf : w &&& 63 = 58) : pfx ms mn g rg hq mf cd fg w dd bm rr kt := by
  refine pfx_mk H 3 (fun L O => (g, rg, hq, mf, cd, fg, L, O)) (fun dd l1 l2 => (upd dd 5 3, l1, l2, bm, rr, kt)) (fun L O P hP => ?_) (fun dd l1 l2 H L O => ⟨oc_end (by unfold q_e; simp) H.rel H.nxt rfl (fun j _ h => pk_un h), fun Q hQ => ?_⟩) (fun _ _ _ _ => rfl) (fun _ _ _ _ _ hs => ⟨by repeat first | exact hs | apply lo_upd, rfl, rfl, rfl⟩) (by first | exact Or.inr (fun _ _ => rfl) | exact Or.inl (by unfold q_e; decide)) (fun _ _ _ => rfl)
  · unfold wp_Pr_perform
    refine pr_op ?_
    rw [ho]
    repeat first | refine bq_t (by decide) ?_ | refine bq_f (by decide) ?_
    refine pr_rs ?_
    rw [hr]
    repeat first | refine bq_t (by decide) ?_ | refine bq_f (by decide) ?_
    refine pr_rt ⟨fI_in w 16, fun t et => ?_⟩
    subst et
    unfold wp_Fu_perform
    refine fun x ex => ?_
    have ex : x = 20 := ex.trans hr
    subst ex
    repeat first | refine bq_t (by decide) ?_ | refine bq_f (by decide) ?_
    unfold wp_Fu_convertFromWord
    refine fun x ex => ?_
    rw [hf] at ex
    subst ex
    repeat first | refine bq_t (by decide) ?_ | refine bq_f (by decide) ?_
    exact hP
  · unfold wp_Md_operate
    rw [ho]
    repeat first | refine bq_t (by decide) ?_ | refine bq_f (by decide) ?_
    unfold wp_Md_fractions
    refine md_field H.e9 (md_field H.e9 (md_field H.e9 ?_))
    rw [hr]
    repeat first | refine bq_t (by decide) ?_ | refine bq_f (by decide) ?_
    rw [H.e9, hf]
    repeat first | refine bq_t (by decide) ?_ | refine bq_f (by decide) ?_
    exact md_ends H.e5 hQ

theorem i_y59 (H : pre mn g rg hq mf cd fg w dd bm rr kt) (ho : zz_ushr w 26 = 17) (hr : fI w 21 = 20) (hf : w &&& 63 = 59) : pfx ms mn g rg hq mf cd fg w dd bm rr kt := by
  refine pfx_mk H 3 (fun L O => (g, rg, hq, mf, cd, fg, L, O)) (fun dd l1 l2 => (upd dd 5 3, l1, l2, bm, rr, kt)) (fun L O P hP => ?_) (fun dd l1 l2 H L O => ⟨oc_end (by unfold q_e; simp) H.rel H.nxt rfl (fun j _ h => pk_un h), fun Q hQ => ?_⟩) (fun _ _ _ _ => rfl) (fun _ _ _ _ _ hs => ⟨by repeat first | exact hs | apply lo_upd, rfl, rfl, rfl⟩) (by first | exact Or.inr (fun _ _ => rfl) | exact Or.inl (by unfold q_e; decide)) (fun _ _ _ => rfl)
  · unfold wp_Pr_perform
    refine pr_op ?_
    rw [ho]
    repeat first | refine bq_t (by decide) ?_ | refine bq_f (by decide) ?_
    refine pr_rs ?_
    rw [hr]
    repeat first | refine bq_t (by decide) ?_ | refine bq_f (by decide) ?_
    refine pr_rt ⟨fI_in w 16, fun t et => ?_⟩
    subst et
    unfold wp_Fu_perform
    refine fun x ex => ?_
    have ex : x = 20 := ex.trans hr
    subst ex
    repeat first | refine bq_t (by decide) ?_ | refine bq_f (by decide) ?_
    unfold wp_Fu_convertFromWord
    refine fun x ex => ?_
    rw [hf] at ex
    subst ex
    repeat first | refine bq_t (by decide) ?_ | refine bq_f (by decide) ?_
    exact hP
  · unfold wp_Md_operate
    rw [ho]
    repeat first | refine bq_t (by decide) ?_ | refine bq_f (by decide) ?_
    unfold wp_Md_fractions
    refine md_field H.e9 (md_field H.e9 (md_field H.e9 ?_))
    rw [hr]
    repeat first | refine bq_t (by decide) ?_ | refine bq_f (by decide) ?_
    rw [H.e9, hf]
    repeat first | refine bq_t (by decide) ?_ | refine bq_f (by decide) ?_
    exact md_ends H.e5 hQ

theorem i_y60 (H : pre mn g rg hq mf cd fg w dd bm rr kt) (ho : zz_ushr w 26 = 17) (hr : fI w 21 = 20) (hf : w &&& 63 = 60) : pfx ms mn g rg hq mf cd fg w dd bm rr kt := by
  refine pfx_mk H 3 (fun L O => (g, rg, hq, mf, cd, fg, L, O)) (fun dd l1 l2 => (upd dd 5 3, l1, l2, bm, rr, kt)) (fun L O P hP => ?_) (fun dd l1 l2 H L O => ⟨oc_end (by unfold q_e; simp) H.rel H.nxt rfl (fun j _ h => pk_un h), fun Q hQ => ?_⟩) (fun _ _ _ _ => rfl) (fun _ _ _ _ _ hs => ⟨by repeat first | exact hs | apply lo_upd, rfl, rfl, rfl⟩) (by first | exact Or.inr (fun _ _ => rfl) | exact Or.inl (by unfold q_e; decide)) (fun _ _ _ => rfl)
  · unfold wp_Pr_perform
    refine pr_op ?_
    rw [ho]
    repeat first | refine bq_t (by decide) ?_ | refine bq_f (by decide) ?_
    refine pr_rs ?_
    rw [hr]
    repeat first | refine bq_t (by decide) ?_ | refine bq_f (by decide) ?_
    refine pr_rt ⟨fI_in w 16, fun t et => ?_⟩
    subst et
    unfold wp_Fu_perform
    refine fun x ex => ?_
    have ex : x = 20 := ex.trans hr
    subst ex
    repeat first | refine bq_t (by decide) ?_ | refine bq_f (by decide) ?_
    unfold wp_Fu_convertFromWord
    refine fun x ex => ?_
    rw [hf] at ex
    subst ex
    repeat first | refine bq_t (by decide) ?_ | refine bq_f (by decide) ?_
    exact hP
  · unfold wp_Md_operate
    rw [ho]
    repeat first | refine bq_t (by decide) ?_ | refine bq_f (by decide) ?_
    unfold wp_Md_fractions
    refine md_field H.e9 (md_field H.e9 (md_field H.e9 ?_))
    rw [hr]
    repeat first | refine bq_t (by decide) ?_ | refine bq_f (by decide) ?_
    rw [H.e9, hf]
    repeat first | refine bq_t (by decide) ?_ | refine bq_f (by decide) ?_
    exact md_ends H.e5 hQ

theorem i_y61 (H : pre mn g rg hq mf cd fg w dd bm rr kt) (ho : zz_ushr w 26 = 17) (hr : fI w 21 = 20) (hf : w &&& 63 = 61) : pfx ms mn g rg hq mf cd fg w dd bm rr kt := by
  refine pfx_mk H 3 (fun L O => (g, rg, hq, mf, cd, fg, L, O)) (fun dd l1 l2 => (upd dd 5 3, l1, l2, bm, rr, kt)) (fun L O P hP => ?_) (fun dd l1 l2 H L O => ⟨oc_end (by unfold q_e; simp) H.rel H.nxt rfl (fun j _ h => pk_un h), fun Q hQ => ?_⟩) (fun _ _ _ _ => rfl) (fun _ _ _ _ _ hs => ⟨by repeat first | exact hs | apply lo_upd, rfl, rfl, rfl⟩) (by first | exact Or.inr (fun _ _ => rfl) | exact Or.inl (by unfold q_e; decide)) (fun _ _ _ => rfl)
  · unfold wp_Pr_perform
    refine pr_op ?_
    rw [ho]
    repeat first | refine bq_t (by decide) ?_ | refine bq_f (by decide) ?_
    refine pr_rs ?_
    rw [hr]
    repeat first | refine bq_t (by decide) ?_ | refine bq_f (by decide) ?_
    refine pr_rt ⟨fI_in w 16, fun t et => ?_⟩
    subst et
    unfold wp_Fu_perform
    refine fun x ex => ?_
    have ex : x = 20 := ex.trans hr
    subst ex
    repeat first | refine bq_t (by decide) ?_ | refine bq_f (by decide) ?_
    unfold wp_Fu_convertFromWord
    refine fun x ex => ?_
    rw [hf] at ex
    subst ex
    repeat first | refine bq_t (by decide) ?_ | refine bq_f (by decide) ?_
    exact hP
  · unfold wp_Md_operate
    rw [ho]
    repeat first | refine bq_t (by decide) ?_ | refine bq_f (by decide) ?_
    unfold wp_Md_fractions
    refine md_field H.e9 (md_field H.e9 (md_field H.e9 ?_))
    rw [hr]
    repeat first | refine bq_t (by decide) ?_ | refine bq_f (by decide) ?_
    rw [H.e9, hf]
    repeat first | refine bq_t (by decide) ?_ | refine bq_f (by decide) ?_
    exact md_ends H.e5 hQ

theorem i_y62 (H : pre mn g rg hq mf cd fg w dd bm rr kt) (ho : zz_ushr w 26 = 17) (hr : fI w 21 = 20) (hf : w &&& 63 = 62) : pfx ms mn g rg hq mf cd fg w dd bm rr kt := by
  refine pfx_mk H 3 (fun L O => (g, rg, hq, mf, cd, fg, L, O)) (fun dd l1 l2 => (upd dd 5 3, l1, l2, bm, rr, kt)) (fun L O P hP => ?_) (fun dd l1 l2 H L O => ⟨oc_end (by unfold q_e; simp) H.rel H.nxt rfl (fun j _ h => pk_un h), fun Q hQ => ?_⟩) (fun _ _ _ _ => rfl) (fun _ _ _ _ _ hs => ⟨by repeat first | exact hs | apply lo_upd, rfl, rfl, rfl⟩) (by first | exact Or.inr (fun _ _ => rfl) | exact Or.inl (by unfold q_e; decide)) (fun _ _ _ => rfl)
  · unfold wp_Pr_perform
    refine pr_op ?_
    rw [ho]
    repeat first | refine bq_t (by decide) ?_ | refine bq_f (by decide) ?_
    refine pr_rs ?_
    rw [hr]
    repeat first | refine bq_t (by decide) ?_ | refine bq_f (by decide) ?_
    refine pr_rt ⟨fI_in w 16, fun t et => ?_⟩
    subst et
    unfold wp_Fu_perform
    refine fun x ex => ?_
    have ex : x = 20 := ex.trans hr
    subst ex
    repeat first | refine bq_t (by decide) ?_ | refine bq_f (by decide) ?_
    unfold wp_Fu_convertFromWord
    refine fun x ex => ?_
    rw [hf] at ex
    subst ex
    repeat first | refine bq_t (by decide) ?_ | refine bq_f (by decide) ?_
    exact hP
  · unfold wp_Md_operate
    rw [ho]
    repeat first | refine bq_t (by decide) ?_ | refine bq_f (by decide) ?_
    unfold wp_Md_fractions
    refine md_field H.e9 (md_field H.e9 (md_field H.e9 ?_))
    rw [hr]
    repeat first | refine bq_t (by decide) ?_ | refine bq_f (by decide) ?_
    rw [H.e9, hf]
    repeat first | refine bq_t (by decide) ?_ | refine bq_f (by decide) ?_
    exact md_ends H.e5 hQ

theorem i_y63 (H : pre mn g rg hq mf cd fg w dd bm rr kt) (ho : zz_ushr w 26 = 17) (hr : fI w 21 = 20) (hf : w &&& 63 = 63) : pfx ms mn g rg hq mf cd fg w dd bm rr kt := by
  refine pfx_mk H 3 (fun L O => (g, rg, hq, mf, cd, fg, L, O)) (fun dd l1 l2 => (upd dd 5 3, l1, l2, bm, rr, kt)) (fun L O P hP => ?_) (fun dd l1 l2 H L O => ⟨oc_end (by unfold q_e; simp) H.rel H.nxt rfl (fun j _ h => pk_un h), fun Q hQ => ?_⟩) (fun _ _ _ _ => rfl) (fun _ _ _ _ _ hs => ⟨by repeat first | exact hs | apply lo_upd, rfl, rfl, rfl⟩) (by first | exact Or.inr (fun _ _ => rfl) | exact Or.inl (by unfold q_e; decide)) (fun _ _ _ => rfl)
  · unfold wp_Pr_perform
    refine pr_op ?_
    rw [ho]
    repeat first | refine bq_t (by decide) ?_ | refine bq_f (by decide) ?_
    refine pr_rs ?_
    rw [hr]
    repeat first | refine bq_t (by decide) ?_ | refine bq_f (by decide) ?_
    refine pr_rt ⟨fI_in w 16, fun t et => ?_⟩
    subst et
    unfold wp_Fu_perform
    refine fun x ex => ?_
    have ex : x = 20 := ex.trans hr
    subst ex
    repeat first | refine bq_t (by decide) ?_ | refine bq_f (by decide) ?_
    unfold wp_Fu_convertFromWord
    refine fun x ex => ?_
    rw [hf] at ex
    subst ex
    repeat first | refine bq_t (by decide) ?_ | refine bq_f (by decide) ?_
    exact hP
  · unfold wp_Md_operate
    rw [ho]
    repeat first | refine bq_t (by decide) ?_ | refine bq_f (by decide) ?_
    unfold wp_Md_fractions
    refine md_field H.e9 (md_field H.e9 (md_field H.e9 ?_))
    rw [hr]
    repeat first | refine bq_t (by decide) ?_ | refine bq_f (by decide) ?_
    rw [H.e9, hf]
    repeat first | refine bq_t (by decide) ?_ | refine bq_f (by decide) ?_
    exact md_ends H.e5 hQ

theorem i_f18 (H : pre mn g rg hq mf cd fg w dd bm rr kt) (ho : zz_ushr w 26 = 17) (hr : fI w 21 = 18) : pfx ms mn g rg hq mf cd fg w dd bm rr kt := by
  refine pfx_mk H 3 (fun L O => (g, rg, hq, mf, cd, fg, L, O)) (fun dd l1 l2 => (upd dd 5 3, l1, l2, bm, rr, kt)) (fun L O P hP => ?_) (fun dd l1 l2 H L O => ⟨oc_end (by unfold q_e; simp) H.rel H.nxt rfl (fun j _ h => pk_un h), fun Q hQ => ?_⟩) (fun _ _ _ _ => rfl) (fun _ _ _ _ _ hs => ⟨by repeat first | exact hs | apply lo_upd, rfl, rfl, rfl⟩) (by first | exact Or.inr (fun _ _ => rfl) | exact Or.inl (by unfold q_e; decide)) (fun _ _ _ => rfl)
  · unfold wp_Pr_perform
    refine pr_op ?_
    rw [ho]
    repeat first | refine bq_t (by decide) ?_ | refine bq_f (by decide) ?_
    refine pr_rs ?_
    rw [hr]
    repeat first | refine bq_t (by decide) ?_ | refine bq_f (by decide) ?_
    refine pr_rt ⟨fI_in w 16, fun t et => ?_⟩
    subst et
    unfold wp_Fu_perform
    refine fun x ex => ?_
    have ex : x = 18 := ex.trans hr
    subst ex
    repeat first | refine bq_t (by decide) ?_ | refine bq_f (by decide) ?_
    exact hP
  · unfold wp_Md_operate
    rw [ho]
    repeat first | refine bq_t (by decide) ?_ | refine bq_f (by decide) ?_
    unfold wp_Md_fractions
    refine md_field H.e9 (md_field H.e9 (md_field H.e9 ?_))
    rw [hr]
    repeat first | refine bq_t (by decide) ?_ | refine bq_f (by decide) ?_
    exact md_ends H.e5 hQ

theorem i_f19 (H : pre mn g rg hq mf cd fg w dd bm rr kt) (ho : zz_ushr w 26 = 17) (hr : fI w 21 = 19) : pfx ms mn g rg hq mf cd fg w dd bm rr kt := by
  refine pfx_mk H 3 (fun L O => (g, rg, hq, mf, cd, fg, L, O)) (fun dd l1 l2 => (upd dd 5 3, l1, l2, bm, rr, kt)) (fun L O P hP => ?_) (fun dd l1 l2 H L O => ⟨oc_end (by unfold q_e; simp) H.rel H.nxt rfl (fun j _ h => pk_un h), fun Q hQ => ?_⟩) (fun _ _ _ _ => rfl) (fun _ _ _ _ _ hs => ⟨by repeat first | exact hs | apply lo_upd, rfl, rfl, rfl⟩) (by first | exact Or.inr (fun _ _ => rfl) | exact Or.inl (by unfold q_e; decide)) (fun _ _ _ => rfl)
  · unfold wp_Pr_perform
    refine pr_op ?_
    rw [ho]
    repeat first | refine bq_t (by decide) ?_ | refine bq_f (by decide) ?_
    refine pr_rs ?_
    rw [hr]
    repeat first | refine bq_t (by decide) ?_ | refine bq_f (by decide) ?_
    refine pr_rt ⟨fI_in w 16, fun t et => ?_⟩
    subst et
    unfold wp_Fu_perform
    refine fun x ex => ?_
    have ex : x = 19 := ex.trans hr
    subst ex
    repeat first | refine bq_t (by decide) ?_ | refine bq_f (by decide) ?_
    exact hP
  · unfold wp_Md_operate
    rw [ho]
    repeat first | refine bq_t (by decide) ?_ | refine bq_f (by decide) ?_
    unfold wp_Md_fractions
    refine md_field H.e9 (md_field H.e9 (md_field H.e9 ?_))
    rw [hr]
    repeat first | refine bq_t (by decide) ?_ | refine bq_f (by decide) ?_
    exact md_ends H.e5 hQ

theorem i_f21 (H : pre mn g rg hq mf cd fg w dd bm rr kt) (ho : zz_ushr w 26 = 17) (hr : fI w 21 = 21) : pfx ms mn g rg hq mf cd fg w dd bm rr kt := by
  refine pfx_mk H 3 (fun L O => (g, rg, hq, mf, cd, fg, L, O)) (fun dd l1 l2 => (upd dd 5 3, l1, l2, bm, rr, kt)) (fun L O P hP => ?_) (fun dd l1 l2 H L O => ⟨oc_end (by unfold q_e; simp) H.rel H.nxt rfl (fun j _ h => pk_un h), fun Q hQ => ?_⟩) (fun _ _ _ _ => rfl) (fun _ _ _ _ _ hs => ⟨by repeat first | exact hs | apply lo_upd, rfl, rfl, rfl⟩) (by first | exact Or.inr (fun _ _ => rfl) | exact Or.inl (by unfold q_e; decide)) (fun _ _ _ => rfl)
  · unfold wp_Pr_perform
    refine pr_op ?_
    rw [ho]
    repeat first | refine bq_t (by decide) ?_ | refine bq_f (by decide) ?_
    refine pr_rs ?_
    rw [hr]
    repeat first | refine bq_t (by decide) ?_ | refine bq_f (by decide) ?_
    refine pr_rt ⟨fI_in w 16, fun t et => ?_⟩
    subst et
    unfold wp_Fu_perform
    refine fun x ex => ?_
    have ex : x = 21 := ex.trans hr
    subst ex
    repeat first | refine bq_t (by decide) ?_ | refine bq_f (by decide) ?_
    exact hP
  · unfold wp_Md_operate
    rw [ho]
    repeat first | refine bq_t (by decide) ?_ | refine bq_f (by decide) ?_
    unfold wp_Md_fractions
    refine md_field H.e9 (md_field H.e9 (md_field H.e9 ?_))
    rw [hr]
    repeat first | refine bq_t (by decide) ?_ | refine bq_f (by decide) ?_
    exact md_ends H.e5 hQ

theorem i_f22 (H : pre mn g rg hq mf cd fg w dd bm rr kt) (ho : zz_ushr w 26 = 17) (hr : fI w 21 = 22) : pfx ms mn g rg hq mf cd fg w dd bm rr kt := by
  refine pfx_mk H 3 (fun L O => (g, rg, hq, mf, cd, fg, L, O)) (fun dd l1 l2 => (upd dd 5 3, l1, l2, bm, rr, kt)) (fun L O P hP => ?_) (fun dd l1 l2 H L O => ⟨oc_end (by unfold q_e; simp) H.rel H.nxt rfl (fun j _ h => pk_un h), fun Q hQ => ?_⟩) (fun _ _ _ _ => rfl) (fun _ _ _ _ _ hs => ⟨by repeat first | exact hs | apply lo_upd, rfl, rfl, rfl⟩) (by first | exact Or.inr (fun _ _ => rfl) | exact Or.inl (by unfold q_e; decide)) (fun _ _ _ => rfl)
  · unfold wp_Pr_perform
    refine pr_op ?_
    rw [ho]
    repeat first | refine bq_t (by decide) ?_ | refine bq_f (by decide) ?_
    refine pr_rs ?_
    rw [hr]
    repeat first | refine bq_t (by decide) ?_ | refine bq_f (by decide) ?_
    refine pr_rt ⟨fI_in w 16, fun t et => ?_⟩
    subst et
    unfold wp_Fu_perform
    refine fun x ex => ?_
    have ex : x = 22 := ex.trans hr
    subst ex
    repeat first | refine bq_t (by decide) ?_ | refine bq_f (by decide) ?_
    exact hP
  · unfold wp_Md_operate
    rw [ho]
    repeat first | refine bq_t (by decide) ?_ | refine bq_f (by decide) ?_
    unfold wp_Md_fractions
    refine md_field H.e9 (md_field H.e9 (md_field H.e9 ?_))
    rw [hr]
    repeat first | refine bq_t (by decide) ?_ | refine bq_f (by decide) ?_
    exact md_ends H.e5 hQ

theorem i_f23 (H : pre mn g rg hq mf cd fg w dd bm rr kt) (ho : zz_ushr w 26 = 17) (hr : fI w 21 = 23) : pfx ms mn g rg hq mf cd fg w dd bm rr kt := by
  refine pfx_mk H 3 (fun L O => (g, rg, hq, mf, cd, fg, L, O)) (fun dd l1 l2 => (upd dd 5 3, l1, l2, bm, rr, kt)) (fun L O P hP => ?_) (fun dd l1 l2 H L O => ⟨oc_end (by unfold q_e; simp) H.rel H.nxt rfl (fun j _ h => pk_un h), fun Q hQ => ?_⟩) (fun _ _ _ _ => rfl) (fun _ _ _ _ _ hs => ⟨by repeat first | exact hs | apply lo_upd, rfl, rfl, rfl⟩) (by first | exact Or.inr (fun _ _ => rfl) | exact Or.inl (by unfold q_e; decide)) (fun _ _ _ => rfl)
  · unfold wp_Pr_perform
    refine pr_op ?_
    rw [ho]
    repeat first | refine bq_t (by decide) ?_ | refine bq_f (by decide) ?_
    refine pr_rs ?_
    rw [hr]
    repeat first | refine bq_t (by decide) ?_ | refine bq_f (by decide) ?_
    refine pr_rt ⟨fI_in w 16, fun t et => ?_⟩
    subst et
    unfold wp_Fu_perform
    refine fun x ex => ?_
    have ex : x = 23 := ex.trans hr
    subst ex
    repeat first | refine bq_t (by decide) ?_ | refine bq_f (by decide) ?_
    exact hP
  · unfold wp_Md_operate
    rw [ho]
    repeat first | refine bq_t (by decide) ?_ | refine bq_f (by decide) ?_
    unfold wp_Md_fractions
    refine md_field H.e9 (md_field H.e9 (md_field H.e9 ?_))
    rw [hr]
    repeat first | refine bq_t (by decide) ?_ | refine bq_f (by decide) ?_
    exact md_ends H.e5 hQ

theorem i_f24 (H : pre mn g rg hq mf cd fg w dd bm rr kt) (ho : zz_ushr w 26 = 17) (hr : fI w 21 = 24) : pfx ms mn g rg hq mf cd fg w dd bm rr kt := by
  refine pfx_mk H 3 (fun L O => (g, rg, hq, mf, cd, fg, L, O)) (fun dd l1 l2 => (upd dd 5 3, l1, l2, bm, rr, kt)) (fun L O P hP => ?_) (fun dd l1 l2 H L O => ⟨oc_end (by unfold q_e; simp) H.rel H.nxt rfl (fun j _ h => pk_un h), fun Q hQ => ?_⟩) (fun _ _ _ _ => rfl) (fun _ _ _ _ _ hs => ⟨by repeat first | exact hs | apply lo_upd, rfl, rfl, rfl⟩) (by first | exact Or.inr (fun _ _ => rfl) | exact Or.inl (by unfold q_e; decide)) (fun _ _ _ => rfl)
  · unfold wp_Pr_perform
    refine pr_op ?_
    rw [ho]
    repeat first | refine bq_t (by decide) ?_ | refine bq_f (by decide) ?_
    refine pr_rs ?_
    rw [hr]
    repeat first | refine bq_t (by decide) ?_ | refine bq_f (by decide) ?_
    refine pr_rt ⟨fI_in w 16, fun t et => ?_⟩
    subst et
    unfold wp_Fu_perform
    refine fun x ex => ?_
    have ex : x = 24 := ex.trans hr
    subst ex
    repeat first | refine bq_t (by decide) ?_ | refine bq_f (by decide) ?_
    exact hP
  · unfold wp_Md_operate
    rw [ho]
    repeat first | refine bq_t (by decide) ?_ | refine bq_f (by decide) ?_
    unfold wp_Md_fractions
    refine md_field H.e9 (md_field H.e9 (md_field H.e9 ?_))
    rw [hr]
    repeat first | refine bq_t (by decide) ?_ | refine bq_f (by decide) ?_
    exact md_ends H.e5 hQ

theorem i_f25 (H : pre mn g rg hq mf cd fg w dd bm rr kt) (ho : zz_ushr w 26 = 17) (hr : fI w 21 = 25) : pfx ms mn g rg hq mf cd fg w dd bm rr kt := by
  refine pfx_mk H 3 (fun L O => (g, rg, hq, mf, cd, fg, L, O)) (fun dd l1 l2 => (upd dd 5 3, l1, l2, bm, rr, kt)) (fun L O P hP => ?_) (fun dd l1 l2 H L O => ⟨oc_end (by unfold q_e; simp) H.rel H.nxt rfl (fun j _ h => pk_un h), fun Q hQ => ?_⟩) (fun _ _ _ _ => rfl) (fun _ _ _ _ _ hs => ⟨by repeat first | exact hs | apply lo_upd, rfl, rfl, rfl⟩) (by first | exact Or.inr (fun _ _ => rfl) | exact Or.inl (by unfold q_e; decide)) (fun _ _ _ => rfl)
  · unfold wp_Pr_perform
    refine pr_op ?_
    rw [ho]
    repeat first | refine bq_t (by decide) ?_ | refine bq_f (by decide) ?_
    refine pr_rs ?_
    rw [hr]
    repeat first | refine bq_t (by decide) ?_ | refine bq_f (by decide) ?_
    refine pr_rt ⟨fI_in w 16, fun t et => ?_⟩
    subst et
    unfold wp_Fu_perform
    refine fun x ex => ?_
    have ex : x = 25 := ex.trans hr
    subst ex
    repeat first | refine bq_t (by decide) ?_ | refine bq_f (by decide) ?_
    exact hP
  · unfold wp_Md_operate
    rw [ho]
    repeat first | refine bq_t (by decide) ?_ | refine bq_f (by decide) ?_
    unfold wp_Md_fractions
    refine md_field H.e9 (md_field H.e9 (md_field H.e9 ?_))
    rw [hr]
    repeat first | refine bq_t (by decide) ?_ | refine bq_f (by decide) ?_
    exact md_ends H.e5 hQ

theorem i_f26 (H : pre mn g rg hq mf cd fg w dd bm rr kt) (ho : zz_ushr w 26 = 17) (hr : fI w 21 = 26) : pfx ms mn g rg hq mf cd fg w dd bm rr kt := by
  refine pfx_mk H 3 (fun L O => (g, rg, hq, mf, cd, fg, L, O)) (fun dd l1 l2 => (upd dd 5 3, l1, l2, bm, rr, kt)) (fun L O P hP => ?_) (fun dd l1 l2 H L O => ⟨oc_end (by unfold q_e; simp) H.rel H.nxt rfl (fun j _ h => pk_un h), fun Q hQ => ?_⟩) (fun _ _ _ _ => rfl) (fun _ _ _ _ _ hs => ⟨by repeat first | exact hs | apply lo_upd, rfl, rfl, rfl⟩) (by first | exact Or.inr (fun _ _ => rfl) | exact Or.inl (by unfold q_e; decide)) (fun _ _ _ => rfl)
  · unfold wp_Pr_perform
    refine pr_op ?_
    rw [ho]
    repeat first | refine bq_t (by decide) ?_ | refine bq_f (by decide) ?_
    refine pr_rs ?_
    rw [hr]
    repeat first | refine bq_t (by decide) ?_ | refine bq_f (by decide) ?_
    refine pr_rt ⟨fI_in w 16, fun t et => ?_⟩
    subst et
    unfold wp_Fu_perform
    refine fun x ex => ?_
    have ex : x = 26 := ex.trans hr
    subst ex
    repeat first | refine bq_t (by decide) ?_ | refine bq_f (by decide) ?_
    exact hP
  · unfold wp_Md_operate
    rw [ho]
    repeat first | refine bq_t (by decide) ?_ | refine bq_f (by decide) ?_
    unfold wp_Md_fractions
    refine md_field H.e9 (md_field H.e9 (md_field H.e9 ?_))
    rw [hr]
    repeat first | refine bq_t (by decide) ?_ | refine bq_f (by decide) ?_
    exact md_ends H.e5 hQ

theorem i_f27 (H : pre mn g rg hq mf cd fg w dd bm rr kt) (ho : zz_ushr w 26 = 17) (hr : fI w 21 = 27) : pfx ms mn g rg hq mf cd fg w dd bm rr kt := by
  refine pfx_mk H 3 (fun L O => (g, rg, hq, mf, cd, fg, L, O)) (fun dd l1 l2 => (upd dd 5 3, l1, l2, bm, rr, kt)) (fun L O P hP => ?_) (fun dd l1 l2 H L O => ⟨oc_end (by unfold q_e; simp) H.rel H.nxt rfl (fun j _ h => pk_un h), fun Q hQ => ?_⟩) (fun _ _ _ _ => rfl) (fun _ _ _ _ _ hs => ⟨by repeat first | exact hs | apply lo_upd, rfl, rfl, rfl⟩) (by first | exact Or.inr (fun _ _ => rfl) | exact Or.inl (by unfold q_e; decide)) (fun _ _ _ => rfl)
  · unfold wp_Pr_perform
    refine pr_op ?_
    rw [ho]
    repeat first | refine bq_t (by decide) ?_ | refine bq_f (by decide) ?_
    refine pr_rs ?_
    rw [hr]
    repeat first | refine bq_t (by decide) ?_ | refine bq_f (by decide) ?_
    refine pr_rt ⟨fI_in w 16, fun t et => ?_⟩
    subst et
    unfold wp_Fu_perform
    refine fun x ex => ?_
    have ex : x = 27 := ex.trans hr
    subst ex
    repeat first | refine bq_t (by decide) ?_ | refine bq_f (by decide) ?_
    exact hP
  · unfold wp_Md_operate
    rw [ho]
    repeat first | refine bq_t (by decide) ?_ | refine bq_f (by decide) ?_
    unfold wp_Md_fractions
    refine md_field H.e9 (md_field H.e9 (md_field H.e9 ?_))
    rw [hr]
    repeat first | refine bq_t (by decide) ?_ | refine bq_f (by decide) ?_
    exact md_ends H.e5 hQ

theorem i_f28 (H : pre mn g rg hq mf cd fg w dd bm rr kt) (ho : zz_ushr w 26 = 17) (hr : fI w 21 = 28) : pfx ms mn g rg hq mf cd fg w dd bm rr kt := by
  refine pfx_mk H 3 (fun L O => (g, rg, hq, mf, cd, fg, L, O)) (fun dd l1 l2 => (upd dd 5 3, l1, l2, bm, rr, kt)) (fun L O P hP => ?_) (fun dd l1 l2 H L O => ⟨oc_end (by unfold q_e; simp) H.rel H.nxt rfl (fun j _ h => pk_un h), fun Q hQ => ?_⟩) (fun _ _ _ _ => rfl) (fun _ _ _ _ _ hs => ⟨by repeat first | exact hs | apply lo_upd, rfl, rfl, rfl⟩) (by first | exact Or.inr (fun _ _ => rfl) | exact Or.inl (by unfold q_e; decide)) (fun _ _ _ => rfl)
  · unfold wp_Pr_perform
    refine pr_op ?_
    rw [ho]
    repeat first | refine bq_t (by decide) ?_ | refine bq_f (by decide) ?_
    refine pr_rs ?_
    rw [hr]
    repeat first | refine bq_t (by decide) ?_ | refine bq_f (by decide) ?_
    refine pr_rt ⟨fI_in w 16, fun t et => ?_⟩
    subst et
    unfold wp_Fu_perform
    refine fun x ex => ?_
    have ex : x = 28 := ex.trans hr
    subst ex
    repeat first | refine bq_t (by decide) ?_ | refine bq_f (by decide) ?_
    exact hP
  · unfold wp_Md_operate
    rw [ho]
    repeat first | refine bq_t (by decide) ?_ | refine bq_f (by decide) ?_
    unfold wp_Md_fractions
    refine md_field H.e9 (md_field H.e9 (md_field H.e9 ?_))
    rw [hr]
    repeat first | refine bq_t (by decide) ?_ | refine bq_f (by decide) ?_
    exact md_ends H.e5 hQ

theorem i_f29 (H : pre mn g rg hq mf cd fg w dd bm rr kt) (ho : zz_ushr w 26 = 17) (hr : fI w 21 = 29) : pfx ms mn g rg hq mf cd fg w dd bm rr kt := by
  refine pfx_mk H 3 (fun L O => (g, rg, hq, mf, cd, fg, L, O)) (fun dd l1 l2 => (upd dd 5 3, l1, l2, bm, rr, kt)) (fun L O P hP => ?_) (fun dd l1 l2 H L O => ⟨oc_end (by unfold q_e; simp) H.rel H.nxt rfl (fun j _ h => pk_un h), fun Q hQ => ?_⟩) (fun _ _ _ _ => rfl) (fun _ _ _ _ _ hs => ⟨by repeat first | exact hs | apply lo_upd, rfl, rfl, rfl⟩) (by first | exact Or.inr (fun _ _ => rfl) | exact Or.inl (by unfold q_e; decide)) (fun _ _ _ => rfl)
  · unfold wp_Pr_perform
    refine pr_op ?_
    rw [ho]
    repeat first | refine bq_t (by decide) ?_ | refine bq_f (by decide) ?_
    refine pr_rs ?_
    rw [hr]
    repeat first | refine bq_t (by decide) ?_ | refine bq_f (by decide) ?_
    refine pr_rt ⟨fI_in w 16, fun t et => ?_⟩
    subst et
    unfold wp_Fu_perform
    refine fun x ex => ?_
    have ex : x = 29 := ex.trans hr
    subst ex
    repeat first | refine bq_t (by decide) ?_ | refine bq_f (by decide) ?_
    exact hP
  · unfold wp_Md_operate
    rw [ho]
    repeat first | refine bq_t (by decide) ?_ | refine bq_f (by decide) ?_
    unfold wp_Md_fractions
    refine md_field H.e9 (md_field H.e9 (md_field H.e9 ?_))
    rw [hr]
    repeat first | refine bq_t (by decide) ?_ | refine bq_f (by decide) ?_
    exact md_ends H.e5 hQ

theorem i_f30 (H : pre mn g rg hq mf cd fg w dd bm rr kt) (ho : zz_ushr w 26 = 17) (hr : fI w 21 = 30) : pfx ms mn g rg hq mf cd fg w dd bm rr kt := by
  refine pfx_mk H 3 (fun L O => (g, rg, hq, mf, cd, fg, L, O)) (fun dd l1 l2 => (upd dd 5 3, l1, l2, bm, rr, kt)) (fun L O P hP => ?_) (fun dd l1 l2 H L O => ⟨oc_end (by unfold q_e; simp) H.rel H.nxt rfl (fun j _ h => pk_un h), fun Q hQ => ?_⟩) (fun _ _ _ _ => rfl) (fun _ _ _ _ _ hs => ⟨by repeat first | exact hs | apply lo_upd, rfl, rfl, rfl⟩) (by first | exact Or.inr (fun _ _ => rfl) | exact Or.inl (by unfold q_e; decide)) (fun _ _ _ => rfl)
  · unfold wp_Pr_perform
    refine pr_op ?_
    rw [ho]
    repeat first | refine bq_t (by decide) ?_ | refine bq_f (by decide) ?_
    refine pr_rs ?_
    rw [hr]
    repeat first | refine bq_t (by decide) ?_ | refine bq_f (by decide) ?_
    refine pr_rt ⟨fI_in w 16, fun t et => ?_⟩
    subst et
    unfold wp_Fu_perform
    refine fun x ex => ?_
    have ex : x = 30 := ex.trans hr
    subst ex
    repeat first | refine bq_t (by decide) ?_ | refine bq_f (by decide) ?_
    exact hP
  · unfold wp_Md_operate
    rw [ho]
    repeat first | refine bq_t (by decide) ?_ | refine bq_f (by decide) ?_
    unfold wp_Md_fractions
    refine md_field H.e9 (md_field H.e9 (md_field H.e9 ?_))
    rw [hr]
    repeat first | refine bq_t (by decide) ?_ | refine bq_f (by decide) ?_
    exact md_ends H.e5 hQ

theorem i_f31 (H : pre mn g rg hq mf cd fg w dd bm rr kt) (ho : zz_ushr w 26 = 17) (hr : fI w 21 = 31) : pfx ms mn g rg hq mf cd fg w dd bm rr kt := by
  refine pfx_mk H 3 (fun L O => (g, rg, hq, mf, cd, fg, L, O)) (fun dd l1 l2 => (upd dd 5 3, l1, l2, bm, rr, kt)) (fun L O P hP => ?_) (fun dd l1 l2 H L O => ⟨oc_end (by unfold q_e; simp) H.rel H.nxt rfl (fun j _ h => pk_un h), fun Q hQ => ?_⟩) (fun _ _ _ _ => rfl) (fun _ _ _ _ _ hs => ⟨by repeat first | exact hs | apply lo_upd, rfl, rfl, rfl⟩) (by first | exact Or.inr (fun _ _ => rfl) | exact Or.inl (by unfold q_e; decide)) (fun _ _ _ => rfl)
  · unfold wp_Pr_perform
    refine pr_op ?_
    rw [ho]
    repeat first | refine bq_t (by decide) ?_ | refine bq_f (by decide) ?_
    refine pr_rs ?_
    rw [hr]
    repeat first | refine bq_t (by decide) ?_ | refine bq_f (by decide) ?_
    refine pr_rt ⟨fI_in w 16, fun t et => ?_⟩
    subst et
    unfold wp_Fu_perform
    refine fun x ex => ?_
    have ex : x = 31 := ex.trans hr
    subst ex
    repeat first | refine bq_t (by decide) ?_ | refine bq_f (by decide) ?_
    exact hP
  · unfold wp_Md_operate
    rw [ho]
    repeat first | refine bq_t (by decide) ?_ | refine bq_f (by decide) ?_
    unfold wp_Md_fractions
    refine md_field H.e9 (md_field H.e9 (md_field H.e9 ?_))
    rw [hr]
    repeat first | refine bq_t (by decide) ?_ | refine bq_f (by decide) ?_
    exact md_ends H.e5 hQ

theorem i_f1 (H : pre mn g rg hq mf cd fg w dd bm rr kt) (ho : zz_ushr w 26 = 17) (hr : fI w 21 = 1) : pfx ms mn g rg hq mf cd fg w dd bm rr kt := by
  refine pfx_mk H 3 (fun L O => (g, rg, hq, mf, cd, fg, L, O)) (fun dd l1 l2 => (upd dd 5 3, l1, l2, bm, rr, kt)) (fun L O P hP => ?_) (fun dd l1 l2 H L O => ⟨oc_end (by unfold q_e; simp) H.rel H.nxt rfl (fun j _ h => pk_un h), fun Q hQ => ?_⟩) (fun _ _ _ _ => rfl) (fun _ _ _ _ _ hs => ⟨by repeat first | exact hs | apply lo_upd, rfl, rfl, rfl⟩) (by first | exact Or.inr (fun _ _ => rfl) | exact Or.inl (by unfold q_e; decide)) (fun _ _ _ => rfl)
  · unfold wp_Pr_perform
    refine pr_op ?_
    rw [ho]
    repeat first | refine bq_t (by decide) ?_ | refine bq_f (by decide) ?_
    refine pr_rs ?_
    rw [hr]
    repeat first | refine bq_t (by decide) ?_ | refine bq_f (by decide) ?_
    unfold wp_Pr_coprocessor
    refine pr_rs ?_
    rw [hr]
    repeat first | refine bq_t (by decide) ?_ | refine bq_f (by decide) ?_
    exact hP
  · unfold wp_Md_operate
    rw [ho]
    repeat first | refine bq_t (by decide) ?_ | refine bq_f (by decide) ?_
    unfold wp_Md_fractions
    refine md_field H.e9 (md_field H.e9 (md_field H.e9 ?_))
    rw [hr]
    repeat first | refine bq_t (by decide) ?_ | refine bq_f (by decide) ?_
    exact md_ends H.e5 hQ

theorem i_f2 (H : pre mn g rg hq mf cd fg w dd bm rr kt) (ho : zz_ushr w 26 = 17) (hr : fI w 21 = 2) : pfx ms mn g rg hq mf cd fg w dd bm rr kt := by
  refine pfx_mk H 3 (fun L O => (g, rg, hq, mf, cd, fg, L, O)) (fun dd l1 l2 => (upd dd 5 3, l1, l2, bm, rr, kt)) (fun L O P hP => ?_) (fun dd l1 l2 H L O => ⟨oc_end (by unfold q_e; simp) H.rel H.nxt rfl (fun j _ h => pk_un h), fun Q hQ => ?_⟩) (fun _ _ _ _ => rfl) (fun _ _ _ _ _ hs => ⟨by repeat first | exact hs | apply lo_upd, rfl, rfl, rfl⟩) (by first | exact Or.inr (fun _ _ => rfl) | exact Or.inl (by unfold q_e; decide)) (fun _ _ _ => rfl)
  · unfold wp_Pr_perform
    refine pr_op ?_
    rw [ho]
    repeat first | refine bq_t (by decide) ?_ | refine bq_f (by decide) ?_
    refine pr_rs ?_
    rw [hr]
    repeat first | refine bq_t (by decide) ?_ | refine bq_f (by decide) ?_
    unfold wp_Pr_coprocessor
    refine pr_rs ?_
    rw [hr]
    repeat first | refine bq_t (by decide) ?_ | refine bq_f (by decide) ?_
    exact hP
  · unfold wp_Md_operate
    rw [ho]
    repeat first | refine bq_t (by decide) ?_ | refine bq_f (by decide) ?_
    unfold wp_Md_fractions
    refine md_field H.e9 (md_field H.e9 (md_field H.e9 ?_))
    rw [hr]
    repeat first | refine bq_t (by decide) ?_ | refine bq_f (by decide) ?_
    exact md_ends H.e5 hQ

theorem i_f3 (H : pre mn g rg hq mf cd fg w dd bm rr kt) (ho : zz_ushr w 26 = 17) (hr : fI w 21 = 3) : pfx ms mn g rg hq mf cd fg w dd bm rr kt := by
  refine pfx_mk H 3 (fun L O => (g, rg, hq, mf, cd, fg, L, O)) (fun dd l1 l2 => (upd dd 5 3, l1, l2, bm, rr, kt)) (fun L O P hP => ?_) (fun dd l1 l2 H L O => ⟨oc_end (by unfold q_e; simp) H.rel H.nxt rfl (fun j _ h => pk_un h), fun Q hQ => ?_⟩) (fun _ _ _ _ => rfl) (fun _ _ _ _ _ hs => ⟨by repeat first | exact hs | apply lo_upd, rfl, rfl, rfl⟩) (by first | exact Or.inr (fun _ _ => rfl) | exact Or.inl (by unfold q_e; decide)) (fun _ _ _ => rfl)
  · unfold wp_Pr_perform
    refine pr_op ?_
    rw [ho]
    repeat first | refine bq_t (by decide) ?_ | refine bq_f (by decide) ?_
    refine pr_rs ?_
    rw [hr]
    repeat first | refine bq_t (by decide) ?_ | refine bq_f (by decide) ?_
    unfold wp_Pr_coprocessor
    refine pr_rs ?_
    rw [hr]
    repeat first | refine bq_t (by decide) ?_ | refine bq_f (by decide) ?_
    exact hP
  · unfold wp_Md_operate
    rw [ho]
    repeat first | refine bq_t (by decide) ?_ | refine bq_f (by decide) ?_
    unfold wp_Md_fractions
    refine md_field H.e9 (md_field H.e9 (md_field H.e9 ?_))
    rw [hr]
    repeat first | refine bq_t (by decide) ?_ | refine bq_f (by decide) ?_
    exact md_ends H.e5 hQ

theorem i_f5 (H : pre mn g rg hq mf cd fg w dd bm rr kt) (ho : zz_ushr w 26 = 17) (hr : fI w 21 = 5) : pfx ms mn g rg hq mf cd fg w dd bm rr kt := by
  refine pfx_mk H 3 (fun L O => (g, rg, hq, mf, cd, fg, L, O)) (fun dd l1 l2 => (upd dd 5 3, l1, l2, bm, rr, kt)) (fun L O P hP => ?_) (fun dd l1 l2 H L O => ⟨oc_end (by unfold q_e; simp) H.rel H.nxt rfl (fun j _ h => pk_un h), fun Q hQ => ?_⟩) (fun _ _ _ _ => rfl) (fun _ _ _ _ _ hs => ⟨by repeat first | exact hs | apply lo_upd, rfl, rfl, rfl⟩) (by first | exact Or.inr (fun _ _ => rfl) | exact Or.inl (by unfold q_e; decide)) (fun _ _ _ => rfl)
  · unfold wp_Pr_perform
    refine pr_op ?_
    rw [ho]
    repeat first | refine bq_t (by decide) ?_ | refine bq_f (by decide) ?_
    refine pr_rs ?_
    rw [hr]
    repeat first | refine bq_t (by decide) ?_ | refine bq_f (by decide) ?_
    unfold wp_Pr_coprocessor
    refine pr_rs ?_
    rw [hr]
    repeat first | refine bq_t (by decide) ?_ | refine bq_f (by decide) ?_
    exact hP
  · unfold wp_Md_operate
    rw [ho]
    repeat first | refine bq_t (by decide) ?_ | refine bq_f (by decide) ?_
    unfold wp_Md_fractions
    refine md_field H.e9 (md_field H.e9 (md_field H.e9 ?_))
    rw [hr]
    repeat first | refine bq_t (by decide) ?_ | refine bq_f (by decide) ?_
    exact md_ends H.e5 hQ

theorem i_f6 (H : pre mn g rg hq mf cd fg w dd bm rr kt) (ho : zz_ushr w 26 = 17) (hr : fI w 21 = 6) : pfx ms mn g rg hq mf cd fg w dd bm rr kt := by
  refine pfx_mk H 3 (fun L O => (g, rg, hq, mf, cd, fg, L, O)) (fun dd l1 l2 => (upd dd 5 3, l1, l2, bm, rr, kt)) (fun L O P hP => ?_) (fun dd l1 l2 H L O => ⟨oc_end (by unfold q_e; simp) H.rel H.nxt rfl (fun j _ h => pk_un h), fun Q hQ => ?_⟩) (fun _ _ _ _ => rfl) (fun _ _ _ _ _ hs => ⟨by repeat first | exact hs | apply lo_upd, rfl, rfl, rfl⟩) (by first | exact Or.inr (fun _ _ => rfl) | exact Or.inl (by unfold q_e; decide)) (fun _ _ _ => rfl)
  · unfold wp_Pr_perform
    refine pr_op ?_
    rw [ho]
    repeat first | refine bq_t (by decide) ?_ | refine bq_f (by decide) ?_
    refine pr_rs ?_
    rw [hr]
    repeat first | refine bq_t (by decide) ?_ | refine bq_f (by decide) ?_
    unfold wp_Pr_coprocessor
    refine pr_rs ?_
    rw [hr]
    repeat first | refine bq_t (by decide) ?_ | refine bq_f (by decide) ?_
    exact hP
  · unfold wp_Md_operate
    rw [ho]
    repeat first | refine bq_t (by decide) ?_ | refine bq_f (by decide) ?_
    unfold wp_Md_fractions
    refine md_field H.e9 (md_field H.e9 (md_field H.e9 ?_))
    rw [hr]
    repeat first | refine bq_t (by decide) ?_ | refine bq_f (by decide) ?_
    exact md_ends H.e5 hQ

theorem i_f7 (H : pre mn g rg hq mf cd fg w dd bm rr kt) (ho : zz_ushr w 26 = 17) (hr : fI w 21 = 7) : pfx ms mn g rg hq mf cd fg w dd bm rr kt := by
  refine pfx_mk H 3 (fun L O => (g, rg, hq, mf, cd, fg, L, O)) (fun dd l1 l2 => (upd dd 5 3, l1, l2, bm, rr, kt)) (fun L O P hP => ?_) (fun dd l1 l2 H L O => ⟨oc_end (by unfold q_e; simp) H.rel H.nxt rfl (fun j _ h => pk_un h), fun Q hQ => ?_⟩) (fun _ _ _ _ => rfl) (fun _ _ _ _ _ hs => ⟨by repeat first | exact hs | apply lo_upd, rfl, rfl, rfl⟩) (by first | exact Or.inr (fun _ _ => rfl) | exact Or.inl (by unfold q_e; decide)) (fun _ _ _ => rfl)
  · unfold wp_Pr_perform
    refine pr_op ?_
    rw [ho]
    repeat first | refine bq_t (by decide) ?_ | refine bq_f (by decide) ?_
    refine pr_rs ?_
    rw [hr]
    repeat first | refine bq_t (by decide) ?_ | refine bq_f (by decide) ?_
    unfold wp_Pr_coprocessor
    refine pr_rs ?_
    rw [hr]
    repeat first | refine bq_t (by decide) ?_ | refine bq_f (by decide) ?_
    exact hP
  · unfold wp_Md_operate
    rw [ho]
    repeat first | refine bq_t (by decide) ?_ | refine bq_f (by decide) ?_
    unfold wp_Md_fractions
    refine md_field H.e9 (md_field H.e9 (md_field H.e9 ?_))
    rw [hr]
    repeat first | refine bq_t (by decide) ?_ | refine bq_f (by decide) ?_
    exact md_ends H.e5 hQ

theorem i_f9 (H : pre mn g rg hq mf cd fg w dd bm rr kt) (ho : zz_ushr w 26 = 17) (hr : fI w 21 = 9) : pfx ms mn g rg hq mf cd fg w dd bm rr kt := by
  refine pfx_mk H 3 (fun L O => (g, rg, hq, mf, cd, fg, L, O)) (fun dd l1 l2 => (upd dd 5 3, l1, l2, bm, rr, kt)) (fun L O P hP => ?_) (fun dd l1 l2 H L O => ⟨oc_end (by unfold q_e; simp) H.rel H.nxt rfl (fun j _ h => pk_un h), fun Q hQ => ?_⟩) (fun _ _ _ _ => rfl) (fun _ _ _ _ _ hs => ⟨by repeat first | exact hs | apply lo_upd, rfl, rfl, rfl⟩) (by first | exact Or.inr (fun _ _ => rfl) | exact Or.inl (by unfold q_e; decide)) (fun _ _ _ => rfl)
  · unfold wp_Pr_perform
    refine pr_op ?_
    rw [ho]
    repeat first | refine bq_t (by decide) ?_ | refine bq_f (by decide) ?_
    refine pr_rs ?_
    rw [hr]
    repeat first | refine bq_t (by decide) ?_ | refine bq_f (by decide) ?_
    unfold wp_Pr_coprocessor
    refine pr_rs ?_
    rw [hr]
    repeat first | refine bq_t (by decide) ?_ | refine bq_f (by decide) ?_
    exact hP
  · unfold wp_Md_operate
    rw [ho]
    repeat first | refine bq_t (by decide) ?_ | refine bq_f (by decide) ?_
    unfold wp_Md_fractions
    refine md_field H.e9 (md_field H.e9 (md_field H.e9 ?_))
    rw [hr]
    repeat first | refine bq_t (by decide) ?_ | refine bq_f (by decide) ?_
    exact md_ends H.e5 hQ

theorem i_f10 (H : pre mn g rg hq mf cd fg w dd bm rr kt) (ho : zz_ushr w 26 = 17) (hr : fI w 21 = 10) : pfx ms mn g rg hq mf cd fg w dd bm rr kt := by
  refine pfx_mk H 3 (fun L O => (g, rg, hq, mf, cd, fg, L, O)) (fun dd l1 l2 => (upd dd 5 3, l1, l2, bm, rr, kt)) (fun L O P hP => ?_) (fun dd l1 l2 H L O => ⟨oc_end (by unfold q_e; simp) H.rel H.nxt rfl (fun j _ h => pk_un h), fun Q hQ => ?_⟩) (fun _ _ _ _ => rfl) (fun _ _ _ _ _ hs => ⟨by repeat first | exact hs | apply lo_upd, rfl, rfl, rfl⟩) (by first | exact Or.inr (fun _ _ => rfl) | exact Or.inl (by unfold q_e; decide)) (fun _ _ _ => rfl)
  · unfold wp_Pr_perform
    refine pr_op ?_
    rw [ho]
    repeat first | refine bq_t (by decide) ?_ | refine bq_f (by decide) ?_
    refine pr_rs ?_
    rw [hr]
    repeat first | refine bq_t (by decide) ?_ | refine bq_f (by decide) ?_
    unfold wp_Pr_coprocessor
    refine pr_rs ?_
    rw [hr]
    repeat first | refine bq_t (by decide) ?_ | refine bq_f (by decide) ?_
    exact hP
  · unfold wp_Md_operate
    rw [ho]
    repeat first | refine bq_t (by decide) ?_ | refine bq_f (by decide) ?_
    unfold wp_Md_fractions
    refine md_field H.e9 (md_field H.e9 (md_field H.e9 ?_))
    rw [hr]
    repeat first | refine bq_t (by decide) ?_ | refine bq_f (by decide) ?_
    exact md_ends H.e5 hQ

theorem i_f11 (H : pre mn g rg hq mf cd fg w dd bm rr kt) (ho : zz_ushr w 26 = 17) (hr : fI w 21 = 11) : pfx ms mn g rg hq mf cd fg w dd bm rr kt := by
  refine pfx_mk H 3 (fun L O => (g, rg, hq, mf, cd, fg, L, O)) (fun dd l1 l2 => (upd dd 5 3, l1, l2, bm, rr, kt)) (fun L O P hP => ?_) (fun dd l1 l2 H L O => ⟨oc_end (by unfold q_e; simp) H.rel H.nxt rfl (fun j _ h => pk_un h), fun Q hQ => ?_⟩) (fun _ _ _ _ => rfl) (fun _ _ _ _ _ hs => ⟨by repeat first | exact hs | apply lo_upd, rfl, rfl, rfl⟩) (by first | exact Or.inr (fun _ _ => rfl) | exact Or.inl (by unfold q_e; decide)) (fun _ _ _ => rfl)
  · unfold wp_Pr_perform
    refine pr_op ?_
    rw [ho]
    repeat first | refine bq_t (by decide) ?_ | refine bq_f (by decide) ?_
    refine pr_rs ?_
    rw [hr]
    repeat first | refine bq_t (by decide) ?_ | refine bq_f (by decide) ?_
    unfold wp_Pr_coprocessor
    refine pr_rs ?_
    rw [hr]
    repeat first | refine bq_t (by decide) ?_ | refine bq_f (by decide) ?_
    exact hP
  · unfold wp_Md_operate
    rw [ho]
    repeat first | refine bq_t (by decide) ?_ | refine bq_f (by decide) ?_
    unfold wp_Md_fractions
    refine md_field H.e9 (md_field H.e9 (md_field H.e9 ?_))
    rw [hr]
    repeat first | refine bq_t (by decide) ?_ | refine bq_f (by decide) ?_
    exact md_ends H.e5 hQ

theorem i_f12 (H : pre mn g rg hq mf cd fg w dd bm rr kt) (ho : zz_ushr w 26 = 17) (hr : fI w 21 = 12) : pfx ms mn g rg hq mf cd fg w dd bm rr kt := by
  refine pfx_mk H 3 (fun L O => (g, rg, hq, mf, cd, fg, L, O)) (fun dd l1 l2 => (upd dd 5 3, l1, l2, bm, rr, kt)) (fun L O P hP => ?_) (fun dd l1 l2 H L O => ⟨oc_end (by unfold q_e; simp) H.rel H.nxt rfl (fun j _ h => pk_un h), fun Q hQ => ?_⟩) (fun _ _ _ _ => rfl) (fun _ _ _ _ _ hs => ⟨by repeat first | exact hs | apply lo_upd, rfl, rfl, rfl⟩) (by first | exact Or.inr (fun _ _ => rfl) | exact Or.inl (by unfold q_e; decide)) (fun _ _ _ => rfl)
  · unfold wp_Pr_perform
    refine pr_op ?_
    rw [ho]
    repeat first | refine bq_t (by decide) ?_ | refine bq_f (by decide) ?_
    refine pr_rs ?_
    rw [hr]
    repeat first | refine bq_t (by decide) ?_ | refine bq_f (by decide) ?_
    unfold wp_Pr_coprocessor
    refine pr_rs ?_
    rw [hr]
    repeat first | refine bq_t (by decide) ?_ | refine bq_f (by decide) ?_
    exact hP
  · unfold wp_Md_operate
    rw [ho]
    repeat first | refine bq_t (by decide) ?_ | refine bq_f (by decide) ?_
    unfold wp_Md_fractions
    refine md_field H.e9 (md_field H.e9 (md_field H.e9 ?_))
    rw [hr]
    repeat first | refine bq_t (by decide) ?_ | refine bq_f (by decide) ?_
    exact md_ends H.e5 hQ

theorem i_f13 (H : pre mn g rg hq mf cd fg w dd bm rr kt) (ho : zz_ushr w 26 = 17) (hr : fI w 21 = 13) : pfx ms mn g rg hq mf cd fg w dd bm rr kt := by
  refine pfx_mk H 3 (fun L O => (g, rg, hq, mf, cd, fg, L, O)) (fun dd l1 l2 => (upd dd 5 3, l1, l2, bm, rr, kt)) (fun L O P hP => ?_) (fun dd l1 l2 H L O => ⟨oc_end (by unfold q_e; simp) H.rel H.nxt rfl (fun j _ h => pk_un h), fun Q hQ => ?_⟩) (fun _ _ _ _ => rfl) (fun _ _ _ _ _ hs => ⟨by repeat first | exact hs | apply lo_upd, rfl, rfl, rfl⟩) (by first | exact Or.inr (fun _ _ => rfl) | exact Or.inl (by unfold q_e; decide)) (fun _ _ _ => rfl)
  · unfold wp_Pr_perform
    refine pr_op ?_
    rw [ho]
    repeat first | refine bq_t (by decide) ?_ | refine bq_f (by decide) ?_
    refine pr_rs ?_
    rw [hr]
    repeat first | refine bq_t (by decide) ?_ | refine bq_f (by decide) ?_
    unfold wp_Pr_coprocessor
    refine pr_rs ?_
    rw [hr]
    repeat first | refine bq_t (by decide) ?_ | refine bq_f (by decide) ?_
    exact hP
  · unfold wp_Md_operate
    rw [ho]
    repeat first | refine bq_t (by decide) ?_ | refine bq_f (by decide) ?_
    unfold wp_Md_fractions
    refine md_field H.e9 (md_field H.e9 (md_field H.e9 ?_))
    rw [hr]
    repeat first | refine bq_t (by decide) ?_ | refine bq_f (by decide) ?_
    exact md_ends H.e5 hQ

theorem i_f14 (H : pre mn g rg hq mf cd fg w dd bm rr kt) (ho : zz_ushr w 26 = 17) (hr : fI w 21 = 14) : pfx ms mn g rg hq mf cd fg w dd bm rr kt := by
  refine pfx_mk H 3 (fun L O => (g, rg, hq, mf, cd, fg, L, O)) (fun dd l1 l2 => (upd dd 5 3, l1, l2, bm, rr, kt)) (fun L O P hP => ?_) (fun dd l1 l2 H L O => ⟨oc_end (by unfold q_e; simp) H.rel H.nxt rfl (fun j _ h => pk_un h), fun Q hQ => ?_⟩) (fun _ _ _ _ => rfl) (fun _ _ _ _ _ hs => ⟨by repeat first | exact hs | apply lo_upd, rfl, rfl, rfl⟩) (by first | exact Or.inr (fun _ _ => rfl) | exact Or.inl (by unfold q_e; decide)) (fun _ _ _ => rfl)
  · unfold wp_Pr_perform
    refine pr_op ?_
    rw [ho]
    repeat first | refine bq_t (by decide) ?_ | refine bq_f (by decide) ?_
    refine pr_rs ?_
    rw [hr]
    repeat first | refine bq_t (by decide) ?_ | refine bq_f (by decide) ?_
    unfold wp_Pr_coprocessor
    refine pr_rs ?_
    rw [hr]
    repeat first | refine bq_t (by decide) ?_ | refine bq_f (by decide) ?_
    exact hP
  · unfold wp_Md_operate
    rw [ho]
    repeat first | refine bq_t (by decide) ?_ | refine bq_f (by decide) ?_
    unfold wp_Md_fractions
    refine md_field H.e9 (md_field H.e9 (md_field H.e9 ?_))
    rw [hr]
    repeat first | refine bq_t (by decide) ?_ | refine bq_f (by decide) ?_
    exact md_ends H.e5 hQ

theorem i_f15 (H : pre mn g rg hq mf cd fg w dd bm rr kt) (ho : zz_ushr w 26 = 17) (hr : fI w 21 = 15) : pfx ms mn g rg hq mf cd fg w dd bm rr kt := by
  refine pfx_mk H 3 (fun L O => (g, rg, hq, mf, cd, fg, L, O)) (fun dd l1 l2 => (upd dd 5 3, l1, l2, bm, rr, kt)) (fun L O P hP => ?_) (fun dd l1 l2 H L O => ⟨oc_end (by unfold q_e; simp) H.rel H.nxt rfl (fun j _ h => pk_un h), fun Q hQ => ?_⟩) (fun _ _ _ _ => rfl) (fun _ _ _ _ _ hs => ⟨by repeat first | exact hs | apply lo_upd, rfl, rfl, rfl⟩) (by first | exact Or.inr (fun _ _ => rfl) | exact Or.inl (by unfold q_e; decide)) (fun _ _ _ => rfl)
  · unfold wp_Pr_perform
    refine pr_op ?_
    rw [ho]
    repeat first | refine bq_t (by decide) ?_ | refine bq_f (by decide) ?_
    refine pr_rs ?_
    rw [hr]
    repeat first | refine bq_t (by decide) ?_ | refine bq_f (by decide) ?_
    unfold wp_Pr_coprocessor
    refine pr_rs ?_
    rw [hr]
    repeat first | refine bq_t (by decide) ?_ | refine bq_f (by decide) ?_
    exact hP
  · unfold wp_Md_operate
    rw [ho]
    repeat first | refine bq_t (by decide) ?_ | refine bq_f (by decide) ?_
    unfold wp_Md_fractions
    refine md_field H.e9 (md_field H.e9 (md_field H.e9 ?_))
    rw [hr]
    repeat first | refine bq_t (by decide) ?_ | refine bq_f (by decide) ?_
    exact md_ends H.e5 hQ

theorem i_mfc1 (H : pre mn g rg hq mf cd fg w dd bm rr kt) (ho : zz_ushr w 26 = 17) (hr : fI w 21 = 0) : pfx ms mn g rg hq mf cd fg w dd bm rr kt := by
  obtain ⟨a, ha, ea⟩ := fI_n w 11
  refine pfx_mk H 0 (fun L O => (g, wr rg (fI w 16) (fg a), hq, mf, cd, fg, L, O)) (fun dd l1 l2 => (dd, l1, l2, bm, wr rr (fI w 16) (fg a), kt)) (fun L O P hP => ?_) (fun dd l1 l2 H L O => ⟨oc_0 (q_wr H.rel) H.e5 H.e11 H.e12 H.e13, fun Q hQ => ?_⟩) (fun _ _ _ _ => rfl) (fun _ _ _ _ _ hs => ⟨by repeat first | exact hs | apply lo_upd, rfl, rfl, rfl⟩) (by first | exact Or.inr (fun _ _ => rfl) | exact Or.inl (by unfold q_e; decide)) (fun _ _ _ => rfl)
  · unfold wp_Pr_perform
    refine pr_op ?_
    rw [ho]
    repeat first | refine bq_t (by decide) ?_ | refine bq_f (by decide) ?_
    refine pr_rs ?_
    rw [hr]
    repeat first | refine bq_t (by decide) ?_ | refine bq_f (by decide) ?_
    unfold wp_Pr_coprocessor
    refine pr_rs ?_
    rw [hr]
    repeat first | refine bq_t (by decide) ?_ | refine bq_f (by decide) ?_
    refine pr_rt (pr_rd ⟨fI_in w 11, fun x ex => ?_⟩)
    rw [ea, nI_clamp (by omega)] at ex
    subst ex
    exact pr_result hP
  · unfold wp_Md_operate
    rw [ho]
    repeat first | refine bq_t (by decide) ?_ | refine bq_f (by decide) ?_
    unfold wp_Md_fractions
    refine md_field H.e9 (md_field H.e9 (md_field H.e9 ?_))
    rw [hr]
    repeat first | refine bq_t (by decide) ?_ | refine bq_f (by decide) ?_
    have e34 : (34 : Int32) + fI w 11 = nI (34 + a) := by rw [ea, show (34 : Int32) = nI 34 from rfl, nI_add]
    refine ⟨by rw [e34]; exact vp_in_nI (by omega) (by decide), fun x ex => ?_⟩
    rw [e34, nI_clamp (by omega), H.rel.2.2.2.2.1 a ha] at ex
    subst ex
    exact md_into H.e5 hQ

theorem i_mtc1 (H : pre mn g rg hq mf cd fg w dd bm rr kt) (ho : zz_ushr w 26 = 17) (hr : fI w 21 = 4) : pfx ms mn g rg hq mf cd fg w dd bm rr kt := by
  obtain ⟨a, ha, ea⟩ := fI_n w 11
  refine pfx_fr H (rg' := rg) (cd' := cd) (fg' := upd fg a (rv rg w 16)) (rr' := upd rr (34 + a) (rv rg w 16)) (q_fg ha H.rel) (fun L O P hP => ?_) (fun dd l1 l2 H Q hQ => ?_)
  · unfold wp_Pr_perform
    refine pr_op ?_
    rw [ho]
    repeat first | refine bq_t (by decide) ?_ | refine bq_f (by decide) ?_
    refine pr_rs ?_
    rw [hr]
    repeat first | refine bq_t (by decide) ?_ | refine bq_f (by decide) ?_
    unfold wp_Pr_coprocessor
    refine pr_rs ?_
    rw [hr]
    repeat first | refine bq_t (by decide) ?_ | refine bq_f (by decide) ?_
    refine pr_rd (pr_rt ⟨fI_in w 16, fun x ex => ⟨fI_in w 11, ?_⟩⟩)
    rw [ea, nI_clamp (by omega)]
    subst ex
    exact hP _ _
  · unfold wp_Md_operate
    rw [ho]
    repeat first | refine bq_t (by decide) ?_ | refine bq_f (by decide) ?_
    unfold wp_Md_fractions
    refine md_field H.e9 (md_field H.e9 (md_field H.e9 ?_))
    rw [hr]
    repeat first | refine bq_t (by decide) ?_ | refine bq_f (by decide) ?_
    have e34 : (34 : Int32) + fI w 11 = nI (34 + a) := by rw [ea, show (34 : Int32) = nI 34 from rfl, nI_add]
    unfold wp_Md_rtNow
    refine md_rt H.e9 H.rel ⟨by rw [e34]; exact vp_in_nI (by omega) (by decide), ?_⟩
    rw [e34, nI_clamp (by omega)]
    exact hQ _ _ _ (lo_rf _)

theorem i_bc1 (H : pre mn g rg hq mf cd fg w dd bm rr kt) (ho : zz_ushr w 26 = 17) (hr : fI w 21 = 8) : pfx ms mn g rg hq mf cd fg w dd bm rr kt := by
  by_cases hs : g 2 = 0
  · by_cases hv : cnd cd w
    · by_cases hl : zz_ushr w 17 &&& 1 = 0
      · refine pfx_mk H (-1) (fun L O => (bu g 1 0 (g 1 + zz_shl w.toInt16.toInt32 2), rg, hq, mf, cd, fg, L, O)) (fun dd l1 l2 => (bd dd 1 0 (g 1 + zz_shl w.toInt16.toInt32 2), l1, l2, bm, rr, kt)) (fun L O P hP => ?_) (fun dd l1 l2 H L O => ⟨oc_br (Or.inr rfl) H.rel H.e5, fun Q hQ => ?_⟩) (fun _ _ _ _ => rfl) (fun _ _ _ _ _ hs => ⟨by repeat first | exact hs | apply lo_upd, rfl, rfl, rfl⟩) (by first | exact Or.inr (fun _ _ => rfl) | exact Or.inl (by unfold q_e; decide)) (fun _ _ _ => rfl)
        · unfold wp_Pr_perform
          refine pr_op ?_
          rw [ho]
          repeat first | refine bq_t (by decide) ?_ | refine bq_f (by decide) ?_
          refine pr_rs ?_
          rw [hr]
          repeat first | refine bq_t (by decide) ?_ | refine bq_f (by decide) ?_
          unfold wp_Pr_coprocessor
          refine pr_rs ?_
          rw [hr]
          repeat first | refine bq_t (by decide) ?_ | refine bq_f (by decide) ?_
          unfold wp_Pr_branchOnCondition
          refine bq_t hs (fu_cond (fun _ => ?_) (fun q => absurd hv q))
          refine fun x ex => ?_
          subst ex
          exact bq_t hl (pr_branch hP)
        · unfold wp_Md_operate
          rw [ho]
          repeat first | refine bq_t (by decide) ?_ | refine bq_f (by decide) ?_
          unfold wp_Md_fractions
          refine md_field H.e9 (md_field H.e9 (md_field H.e9 ?_))
          rw [hr]
          repeat first | refine bq_t (by decide) ?_ | refine bq_f (by decide) ?_
          have h6 : dd 6 = 0 := by rw [H.rel.2.2.2.2.2.2.1.2.2.2.1]; exact hs
          have e31 : dd 3 + 4 = g 1 := by rw [H.rel.2.2.2.2.2.2.1.1, H.nxt hs]
          refine ⟨by unfold vp_in; decide, fun p ep q eq r er s es => ?_⟩
          subst ep
          subst eq
          subst er
          subst es
          have e66 : (66 : Int32).toNatClampNeg = 66 := by decide
          rw [e66]
          have hq2 := md_cnd H
          refine bq_t (hq2.mpr hv) ?_
          unfold wj_Md_fractions_106
          refine md_near H.e9 e31 (fun x ex => ?_)
          rw [H.e9] at ex
          subst ex
          rw [b17]
          exact bq_f (fun q => q hl) (md_jumps h6 (Or.inr rfl) hQ)
      · refine pfx_mk H (-1) (fun L O => (bu g 1 1 (g 1 + zz_shl w.toInt16.toInt32 2), rg, hq, mf, cd, fg, L, O)) (fun dd l1 l2 => (bd dd 1 1 (g 1 + zz_shl w.toInt16.toInt32 2), l1, l2, bm, rr, kt)) (fun L O P hP => ?_) (fun dd l1 l2 H L O => ⟨oc_br (Or.inr rfl) H.rel H.e5, fun Q hQ => ?_⟩) (fun _ _ _ _ => rfl) (fun _ _ _ _ _ hs => ⟨by repeat first | exact hs | apply lo_upd, rfl, rfl, rfl⟩) (by first | exact Or.inr (fun _ _ => rfl) | exact Or.inl (by unfold q_e; decide)) (fun _ _ _ => rfl)
        · unfold wp_Pr_perform
          refine pr_op ?_
          rw [ho]
          repeat first | refine bq_t (by decide) ?_ | refine bq_f (by decide) ?_
          refine pr_rs ?_
          rw [hr]
          repeat first | refine bq_t (by decide) ?_ | refine bq_f (by decide) ?_
          unfold wp_Pr_coprocessor
          refine pr_rs ?_
          rw [hr]
          repeat first | refine bq_t (by decide) ?_ | refine bq_f (by decide) ?_
          unfold wp_Pr_branchOnCondition
          refine bq_t hs (fu_cond (fun _ => ?_) (fun q => absurd hv q))
          refine fun x ex => ?_
          subst ex
          exact bq_f hl (pr_branch hP)
        · unfold wp_Md_operate
          rw [ho]
          repeat first | refine bq_t (by decide) ?_ | refine bq_f (by decide) ?_
          unfold wp_Md_fractions
          refine md_field H.e9 (md_field H.e9 (md_field H.e9 ?_))
          rw [hr]
          repeat first | refine bq_t (by decide) ?_ | refine bq_f (by decide) ?_
          have h6 : dd 6 = 0 := by rw [H.rel.2.2.2.2.2.2.1.2.2.2.1]; exact hs
          have e31 : dd 3 + 4 = g 1 := by rw [H.rel.2.2.2.2.2.2.1.1, H.nxt hs]
          refine ⟨by unfold vp_in; decide, fun p ep q eq r er s es => ?_⟩
          subst ep
          subst eq
          subst er
          subst es
          have e66 : (66 : Int32).toNatClampNeg = 66 := by decide
          rw [e66]
          have hq2 := md_cnd H
          refine bq_t (hq2.mpr hv) ?_
          unfold wj_Md_fractions_106
          refine md_near H.e9 e31 (fun x ex => ?_)
          rw [H.e9] at ex
          subst ex
          rw [b17]
          exact bq_t hl (md_jumps h6 (Or.inr rfl) hQ)
    · by_cases hl : zz_ushr w 17 &&& 1 = 0
      · refine pfx_mk H (-1) (fun L O => (bu g 0 0 (g 1 + zz_shl w.toInt16.toInt32 2), rg, hq, mf, cd, fg, L, O)) (fun dd l1 l2 => (bd dd 0 0 (g 1 + zz_shl w.toInt16.toInt32 2), l1, l2, bm, rr, kt)) (fun L O P hP => ?_) (fun dd l1 l2 H L O => ⟨oc_br (Or.inl rfl) H.rel H.e5, fun Q hQ => ?_⟩) (fun _ _ _ _ => rfl) (fun _ _ _ _ _ hs => ⟨by repeat first | exact hs | apply lo_upd, rfl, rfl, rfl⟩) (by first | exact Or.inr (fun _ _ => rfl) | exact Or.inl (by unfold q_e; decide)) (fun _ _ _ => rfl)
        · unfold wp_Pr_perform
          refine pr_op ?_
          rw [ho]
          repeat first | refine bq_t (by decide) ?_ | refine bq_f (by decide) ?_
          refine pr_rs ?_
          rw [hr]
          repeat first | refine bq_t (by decide) ?_ | refine bq_f (by decide) ?_
          unfold wp_Pr_coprocessor
          refine pr_rs ?_
          rw [hr]
          repeat first | refine bq_t (by decide) ?_ | refine bq_f (by decide) ?_
          unfold wp_Pr_branchOnCondition
          refine bq_t hs (fu_cond (fun q => absurd q hv) (fun _ => ?_))
          refine fun x ex => ?_
          subst ex
          exact bq_t hl (pr_branch hP)
        · unfold wp_Md_operate
          rw [ho]
          repeat first | refine bq_t (by decide) ?_ | refine bq_f (by decide) ?_
          unfold wp_Md_fractions
          refine md_field H.e9 (md_field H.e9 (md_field H.e9 ?_))
          rw [hr]
          repeat first | refine bq_t (by decide) ?_ | refine bq_f (by decide) ?_
          have h6 : dd 6 = 0 := by rw [H.rel.2.2.2.2.2.2.1.2.2.2.1]; exact hs
          have e31 : dd 3 + 4 = g 1 := by rw [H.rel.2.2.2.2.2.2.1.1, H.nxt hs]
          refine ⟨by unfold vp_in; decide, fun p ep q eq r er s es => ?_⟩
          subst ep
          subst eq
          subst er
          subst es
          have e66 : (66 : Int32).toNatClampNeg = 66 := by decide
          rw [e66]
          have hq2 := md_cnd H
          refine bq_f (fun q => hv (hq2.mp q)) ?_
          unfold wj_Md_fractions_106
          refine md_near H.e9 e31 (fun x ex => ?_)
          rw [H.e9] at ex
          subst ex
          rw [b17]
          exact bq_f (fun q => q hl) (md_jumps h6 (Or.inl rfl) hQ)
      · refine pfx_mk H (-1) (fun L O => (bu g 0 1 (g 1 + zz_shl w.toInt16.toInt32 2), rg, hq, mf, cd, fg, L, O)) (fun dd l1 l2 => (bd dd 0 1 (g 1 + zz_shl w.toInt16.toInt32 2), l1, l2, bm, rr, kt)) (fun L O P hP => ?_) (fun dd l1 l2 H L O => ⟨oc_br (Or.inl rfl) H.rel H.e5, fun Q hQ => ?_⟩) (fun _ _ _ _ => rfl) (fun _ _ _ _ _ hs => ⟨by repeat first | exact hs | apply lo_upd, rfl, rfl, rfl⟩) (by first | exact Or.inr (fun _ _ => rfl) | exact Or.inl (by unfold q_e; decide)) (fun _ _ _ => rfl)
        · unfold wp_Pr_perform
          refine pr_op ?_
          rw [ho]
          repeat first | refine bq_t (by decide) ?_ | refine bq_f (by decide) ?_
          refine pr_rs ?_
          rw [hr]
          repeat first | refine bq_t (by decide) ?_ | refine bq_f (by decide) ?_
          unfold wp_Pr_coprocessor
          refine pr_rs ?_
          rw [hr]
          repeat first | refine bq_t (by decide) ?_ | refine bq_f (by decide) ?_
          unfold wp_Pr_branchOnCondition
          refine bq_t hs (fu_cond (fun q => absurd q hv) (fun _ => ?_))
          refine fun x ex => ?_
          subst ex
          exact bq_f hl (pr_branch hP)
        · unfold wp_Md_operate
          rw [ho]
          repeat first | refine bq_t (by decide) ?_ | refine bq_f (by decide) ?_
          unfold wp_Md_fractions
          refine md_field H.e9 (md_field H.e9 (md_field H.e9 ?_))
          rw [hr]
          repeat first | refine bq_t (by decide) ?_ | refine bq_f (by decide) ?_
          have h6 : dd 6 = 0 := by rw [H.rel.2.2.2.2.2.2.1.2.2.2.1]; exact hs
          have e31 : dd 3 + 4 = g 1 := by rw [H.rel.2.2.2.2.2.2.1.1, H.nxt hs]
          refine ⟨by unfold vp_in; decide, fun p ep q eq r er s es => ?_⟩
          subst ep
          subst eq
          subst er
          subst es
          have e66 : (66 : Int32).toNatClampNeg = 66 := by decide
          rw [e66]
          have hq2 := md_cnd H
          refine bq_f (fun q => hv (hq2.mp q)) ?_
          unfold wj_Md_fractions_106
          refine md_near H.e9 e31 (fun x ex => ?_)
          rw [H.e9] at ex
          subst ex
          rw [b17]
          exact bq_t hl (md_jumps h6 (Or.inl rfl) hQ)
  · refine pfx_mk H 8 (fun L O => (g, rg, hq, mf, cd, fg, L, O)) (fun dd l1 l2 => (upd dd 5 8, l1, l2, bm, rr, kt)) (fun L O P hP => ?_) (fun dd l1 l2 H L O => ⟨oc_end (by unfold q_e; simp) H.rel H.nxt rfl (fun j _ h => pk_un h), fun Q hQ => ?_⟩) (fun _ _ _ _ => rfl) (fun _ _ _ _ _ hs => ⟨by repeat first | exact hs | apply lo_upd, rfl, rfl, rfl⟩) (by first | exact Or.inr (fun _ _ => rfl) | exact Or.inl (by unfold q_e; decide)) (fun _ _ _ => rfl)
    · unfold wp_Pr_perform
      refine pr_op ?_
      rw [ho]
      repeat first | refine bq_t (by decide) ?_ | refine bq_f (by decide) ?_
      refine pr_rs ?_
      rw [hr]
      repeat first | refine bq_t (by decide) ?_ | refine bq_f (by decide) ?_
      unfold wp_Pr_coprocessor
      refine pr_rs ?_
      rw [hr]
      repeat first | refine bq_t (by decide) ?_ | refine bq_f (by decide) ?_
      unfold wp_Pr_branchOnCondition
      exact bq_f hs hP
    · unfold wp_Md_operate
      rw [ho]
      repeat first | refine bq_t (by decide) ?_ | refine bq_f (by decide) ?_
      unfold wp_Md_fractions
      refine md_field H.e9 (md_field H.e9 (md_field H.e9 ?_))
      rw [hr]
      repeat first | refine bq_t (by decide) ?_ | refine bq_f (by decide) ?_
      have h6 : ¬ dd 6 = 0 := by rw [H.rel.2.2.2.2.2.2.1.2.2.2.1]; exact hs
      refine ⟨by unfold vp_in; decide, fun p ep q eq r er s es => ?_⟩
      subst ep
      subst eq
      subst er
      subst es
      have e66 : (66 : Int32).toNatClampNeg = 66 := by decide
      rw [e66]
      have hq2 := md_cnd H
      have any : ∀ z, wj_Md_fractions_106 ms (fun u => Q u) z dd l1 l2 bm rr kt := fun z => by
        unfold wj_Md_fractions_106 wp_Md_near
        exact md_offset H.e9 (fun x ex y ey => ⟨fun _ => md_jumps_s h6 H.e5 hQ, fun _ => md_jumps_s h6 H.e5 hQ⟩)
      exact ⟨fun _ => any _, fun _ => any _⟩

end COP4
