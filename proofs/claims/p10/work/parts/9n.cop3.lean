/-! ===== the coprocessor's instructions ===== -/
section COP3
variable {ms : Int32} {mn S : Nat} {g rg hq mf : Nat → Int32} {cd : Int32} {fg : Nat → Int32} {L O : Fr4} {dd bm rr kt : Nat → Int32} {l1 l2 : Int64} {w : Int32}
theorem evx {k : Int32} {j : Nat} (hj : j < 32) (ej : fI w k = nI j) : evn 1 j ↔ ¬ (fI w k &&& 1 = 1) := by
  have e : (fI w k &&& 1 = 1) ↔ ¬ j % 2 = 0 := by rw [ej, and1_n hj, show (1 : Int32) = nI 1 from rfl, nI_eq (by omega) (by decide)]; omega
  rw [e, Classical.not_not]
  unfold evn
  exact ⟨fun q => q.elim (fun z => absurd z (by decide)) id, Or.inr⟩
theorem ev0 (j : Nat) : evn 0 j := Or.inl rfl
theorem h8n : ¬ upd dd 5 8 5 = 0 := (by decide : ¬ (8 : Int32) = 0)

theorem i_addf_s (H : pre mn g rg hq mf cd fg w dd bm rr kt) (ho : zz_ushr w 26 = 17) (hr : fI w 21 = 16) (hf : w &&& 63 = 0) : pfx ms mn g rg hq mf cd fg w dd bm rr kt := by
  obtain ⟨a, ha, ea⟩ := fI_n w 11
  obtain ⟨b, hb, eb⟩ := fI_n w 16
  obtain ⟨d, hd, ed⟩ := fI_n w 6
  have he : evn 0 a ∧ evn 0 b ∧ evn 0 d := ⟨ev0 _, ev0 _, ev0 _⟩
  refine pfx_fr H (rg' := rg) (cd' := cd) (fg' := fgR fg 0 d (twoB 0 0 (fbt fg 0 a) (fbt fg 0 b))) (rr' := rrR rr 0 d (twoB 0 0 (fbt fg 0 a) (fbt fg 0 b))) (q_fgR hd he.2.2 H.rel) (fun L O P hP => ?_) (fun dd l1 l2 H Q hQ => ?_)
  · unfold wp_Pr_perform
    refine pr_op ?_
    rw [ho]
    repeat first | refine bq_t (by decide) ?_ | refine bq_f (by decide) ?_
    refine pr_rs ?_
    rw [hr]
    repeat first | refine bq_t (by decide) ?_ | refine bq_f (by decide) ?_
    refine pr_rt ⟨fI_in w 16, fun t et => ?_⟩
    subst et
    unfold wp_Fu_perform
    refine fun x ex => ?_
    have ex : x = 16 := ex.trans hr
    subst ex
    repeat first | refine bq_t (by decide) ?_ | refine bq_f (by decide) ?_
    refine fun y ey => ?_
    rw [hf] at ey
    subst ey
    repeat first | refine bq_t (by decide) ?_ | refine bq_f (by decide) ?_
    exact fu_compute hf (Or.inl rfl) ha hb hd ea eb ed (fun _ L' O' => hP L' O') (fun q => absurd he q)
  · unfold wp_Md_operate
    rw [ho]
    repeat first | refine bq_t (by decide) ?_ | refine bq_f (by decide) ?_
    unfold wp_Md_fractions
    refine md_field H.e9 (md_field H.e9 (md_field H.e9 ?_))
    rw [hr]
    repeat first | refine bq_t (by decide) ?_ | refine bq_f (by decide) ?_
    refine fun x ex => ?_
    rw [H.e9, hf] at ex
    subst ex
    repeat first | refine bq_t (by decide) ?_ | refine bq_f (by decide) ?_
    try unfold wj_Md_fractions_170
    refine md_field H.e9 ?_
    repeat first | refine bq_t (by decide) ?_ | refine bq_f (by decide) ?_ | refine bq_f na ?_ | refine bq_f nb ?_ | refine bq_f nd ?_ | refine bq_t pa (md_ends H.e5 ?_) | refine bq_t pa (md_ends_n (show ¬ (8 : Int32) = 0 by decide) ?_) | refine bq_t pb (md_ends H.e5 ?_) | refine bq_t pb (md_ends_n (show ¬ (8 : Int32) = 0 by decide) ?_) | refine bq_t pd (md_ends H.e5 ?_) | refine bq_t pd (md_ends_n (show ¬ (8 : Int32) = 0 by decide) ?_)
    refine bq_t (show dd 5 ≤ (0 : Int32) by rw [H.e5]; decide) ?_
    refine md_bits H.rel ha ea he.1 ?_
    refine bq_t (by decide) ?_
    refine bq_f (by decide) ?_
    refine md_bits H.rel hb eb he.2.1 ?_
    refine md_two (fbt_fin _ _ _) (fbt_fin _ _ _) (Or.inl rfl) (fun dd' l1' l2' hl => ?_)
    have e5 : dd' 5 = 0 := by rw [hl 5 (by decide)]; exact H.e5
    exact md_put e5 hd ed he.2.2 (hQ _ _ _ hl)

theorem i_subf_s (H : pre mn g rg hq mf cd fg w dd bm rr kt) (ho : zz_ushr w 26 = 17) (hr : fI w 21 = 16) (hf : w &&& 63 = 1) : pfx ms mn g rg hq mf cd fg w dd bm rr kt := by
  obtain ⟨a, ha, ea⟩ := fI_n w 11
  obtain ⟨b, hb, eb⟩ := fI_n w 16
  obtain ⟨d, hd, ed⟩ := fI_n w 6
  have he : evn 0 a ∧ evn 0 b ∧ evn 0 d := ⟨ev0 _, ev0 _, ev0 _⟩
  refine pfx_fr H (rg' := rg) (cd' := cd) (fg' := fgR fg 0 d (twoB 1 0 (fbt fg 0 a) (fbt fg 0 b))) (rr' := rrR rr 0 d (twoB 1 0 (fbt fg 0 a) (fbt fg 0 b))) (q_fgR hd he.2.2 H.rel) (fun L O P hP => ?_) (fun dd l1 l2 H Q hQ => ?_)
  · unfold wp_Pr_perform
    refine pr_op ?_
    rw [ho]
    repeat first | refine bq_t (by decide) ?_ | refine bq_f (by decide) ?_
    refine pr_rs ?_
    rw [hr]
    repeat first | refine bq_t (by decide) ?_ | refine bq_f (by decide) ?_
    refine pr_rt ⟨fI_in w 16, fun t et => ?_⟩
    subst et
    unfold wp_Fu_perform
    refine fun x ex => ?_
    have ex : x = 16 := ex.trans hr
    subst ex
    repeat first | refine bq_t (by decide) ?_ | refine bq_f (by decide) ?_
    refine fun y ey => ?_
    rw [hf] at ey
    subst ey
    repeat first | refine bq_t (by decide) ?_ | refine bq_f (by decide) ?_
    exact fu_compute hf (Or.inr (Or.inl rfl)) ha hb hd ea eb ed (fun _ L' O' => hP L' O') (fun q => absurd he q)
  · unfold wp_Md_operate
    rw [ho]
    repeat first | refine bq_t (by decide) ?_ | refine bq_f (by decide) ?_
    unfold wp_Md_fractions
    refine md_field H.e9 (md_field H.e9 (md_field H.e9 ?_))
    rw [hr]
    repeat first | refine bq_t (by decide) ?_ | refine bq_f (by decide) ?_
    refine fun x ex => ?_
    rw [H.e9, hf] at ex
    subst ex
    repeat first | refine bq_t (by decide) ?_ | refine bq_f (by decide) ?_
    try unfold wj_Md_fractions_170
    refine md_field H.e9 ?_
    repeat first | refine bq_t (by decide) ?_ | refine bq_f (by decide) ?_ | refine bq_f na ?_ | refine bq_f nb ?_ | refine bq_f nd ?_ | refine bq_t pa (md_ends H.e5 ?_) | refine bq_t pa (md_ends_n (show ¬ (8 : Int32) = 0 by decide) ?_) | refine bq_t pb (md_ends H.e5 ?_) | refine bq_t pb (md_ends_n (show ¬ (8 : Int32) = 0 by decide) ?_) | refine bq_t pd (md_ends H.e5 ?_) | refine bq_t pd (md_ends_n (show ¬ (8 : Int32) = 0 by decide) ?_)
    refine bq_t (show dd 5 ≤ (0 : Int32) by rw [H.e5]; decide) ?_
    refine md_bits H.rel ha ea he.1 ?_
    refine bq_t (by decide) ?_
    refine bq_f (by decide) ?_
    refine md_bits H.rel hb eb he.2.1 ?_
    refine md_two (fbt_fin _ _ _) (fbt_fin _ _ _) (Or.inr (Or.inl rfl)) (fun dd' l1' l2' hl => ?_)
    have e5 : dd' 5 = 0 := by rw [hl 5 (by decide)]; exact H.e5
    exact md_put e5 hd ed he.2.2 (hQ _ _ _ hl)

theorem i_mulf_s (H : pre mn g rg hq mf cd fg w dd bm rr kt) (ho : zz_ushr w 26 = 17) (hr : fI w 21 = 16) (hf : w &&& 63 = 2) : pfx ms mn g rg hq mf cd fg w dd bm rr kt := by
  obtain ⟨a, ha, ea⟩ := fI_n w 11
  obtain ⟨b, hb, eb⟩ := fI_n w 16
  obtain ⟨d, hd, ed⟩ := fI_n w 6
  have he : evn 0 a ∧ evn 0 b ∧ evn 0 d := ⟨ev0 _, ev0 _, ev0 _⟩
  refine pfx_fr H (rg' := rg) (cd' := cd) (fg' := fgR fg 0 d (twoB 2 0 (fbt fg 0 a) (fbt fg 0 b))) (rr' := rrR rr 0 d (twoB 2 0 (fbt fg 0 a) (fbt fg 0 b))) (q_fgR hd he.2.2 H.rel) (fun L O P hP => ?_) (fun dd l1 l2 H Q hQ => ?_)
  · unfold wp_Pr_perform
    refine pr_op ?_
    rw [ho]
    repeat first | refine bq_t (by decide) ?_ | refine bq_f (by decide) ?_
    refine pr_rs ?_
    rw [hr]
    repeat first | refine bq_t (by decide) ?_ | refine bq_f (by decide) ?_
    refine pr_rt ⟨fI_in w 16, fun t et => ?_⟩
    subst et
    unfold wp_Fu_perform
    refine fun x ex => ?_
    have ex : x = 16 := ex.trans hr
    subst ex
    repeat first | refine bq_t (by decide) ?_ | refine bq_f (by decide) ?_
    refine fun y ey => ?_
    rw [hf] at ey
    subst ey
    repeat first | refine bq_t (by decide) ?_ | refine bq_f (by decide) ?_
    exact fu_compute hf (Or.inr (Or.inr (Or.inl rfl))) ha hb hd ea eb ed (fun _ L' O' => hP L' O') (fun q => absurd he q)
  · unfold wp_Md_operate
    rw [ho]
    repeat first | refine bq_t (by decide) ?_ | refine bq_f (by decide) ?_
    unfold wp_Md_fractions
    refine md_field H.e9 (md_field H.e9 (md_field H.e9 ?_))
    rw [hr]
    repeat first | refine bq_t (by decide) ?_ | refine bq_f (by decide) ?_
    refine fun x ex => ?_
    rw [H.e9, hf] at ex
    subst ex
    repeat first | refine bq_t (by decide) ?_ | refine bq_f (by decide) ?_
    try unfold wj_Md_fractions_170
    refine md_field H.e9 ?_
    repeat first | refine bq_t (by decide) ?_ | refine bq_f (by decide) ?_ | refine bq_f na ?_ | refine bq_f nb ?_ | refine bq_f nd ?_ | refine bq_t pa (md_ends H.e5 ?_) | refine bq_t pa (md_ends_n (show ¬ (8 : Int32) = 0 by decide) ?_) | refine bq_t pb (md_ends H.e5 ?_) | refine bq_t pb (md_ends_n (show ¬ (8 : Int32) = 0 by decide) ?_) | refine bq_t pd (md_ends H.e5 ?_) | refine bq_t pd (md_ends_n (show ¬ (8 : Int32) = 0 by decide) ?_)
    refine bq_t (show dd 5 ≤ (0 : Int32) by rw [H.e5]; decide) ?_
    refine md_bits H.rel ha ea he.1 ?_
    refine bq_t (by decide) ?_
    refine bq_f (by decide) ?_
    refine md_bits H.rel hb eb he.2.1 ?_
    refine md_two (fbt_fin _ _ _) (fbt_fin _ _ _) (Or.inr (Or.inr (Or.inl rfl))) (fun dd' l1' l2' hl => ?_)
    have e5 : dd' 5 = 0 := by rw [hl 5 (by decide)]; exact H.e5
    exact md_put e5 hd ed he.2.2 (hQ _ _ _ hl)

theorem i_divf_s (H : pre mn g rg hq mf cd fg w dd bm rr kt) (ho : zz_ushr w 26 = 17) (hr : fI w 21 = 16) (hf : w &&& 63 = 3) : pfx ms mn g rg hq mf cd fg w dd bm rr kt := by
  obtain ⟨a, ha, ea⟩ := fI_n w 11
  obtain ⟨b, hb, eb⟩ := fI_n w 16
  obtain ⟨d, hd, ed⟩ := fI_n w 6
  have he : evn 0 a ∧ evn 0 b ∧ evn 0 d := ⟨ev0 _, ev0 _, ev0 _⟩
  refine pfx_fr H (rg' := rg) (cd' := cd) (fg' := fgR fg 0 d (twoB 3 0 (fbt fg 0 a) (fbt fg 0 b))) (rr' := rrR rr 0 d (twoB 3 0 (fbt fg 0 a) (fbt fg 0 b))) (q_fgR hd he.2.2 H.rel) (fun L O P hP => ?_) (fun dd l1 l2 H Q hQ => ?_)
  · unfold wp_Pr_perform
    refine pr_op ?_
    rw [ho]
    repeat first | refine bq_t (by decide) ?_ | refine bq_f (by decide) ?_
    refine pr_rs ?_
    rw [hr]
    repeat first | refine bq_t (by decide) ?_ | refine bq_f (by decide) ?_
    refine pr_rt ⟨fI_in w 16, fun t et => ?_⟩
    subst et
    unfold wp_Fu_perform
    refine fun x ex => ?_
    have ex : x = 16 := ex.trans hr
    subst ex
    repeat first | refine bq_t (by decide) ?_ | refine bq_f (by decide) ?_
    refine fun y ey => ?_
    rw [hf] at ey
    subst ey
    repeat first | refine bq_t (by decide) ?_ | refine bq_f (by decide) ?_
    exact fu_compute hf (Or.inr (Or.inr (Or.inr rfl))) ha hb hd ea eb ed (fun _ L' O' => hP L' O') (fun q => absurd he q)
  · unfold wp_Md_operate
    rw [ho]
    repeat first | refine bq_t (by decide) ?_ | refine bq_f (by decide) ?_
    unfold wp_Md_fractions
    refine md_field H.e9 (md_field H.e9 (md_field H.e9 ?_))
    rw [hr]
    repeat first | refine bq_t (by decide) ?_ | refine bq_f (by decide) ?_
    refine fun x ex => ?_
    rw [H.e9, hf] at ex
    subst ex
    repeat first | refine bq_t (by decide) ?_ | refine bq_f (by decide) ?_
    try unfold wj_Md_fractions_170
    refine md_field H.e9 ?_
    repeat first | refine bq_t (by decide) ?_ | refine bq_f (by decide) ?_ | refine bq_f na ?_ | refine bq_f nb ?_ | refine bq_f nd ?_ | refine bq_t pa (md_ends H.e5 ?_) | refine bq_t pa (md_ends_n (show ¬ (8 : Int32) = 0 by decide) ?_) | refine bq_t pb (md_ends H.e5 ?_) | refine bq_t pb (md_ends_n (show ¬ (8 : Int32) = 0 by decide) ?_) | refine bq_t pd (md_ends H.e5 ?_) | refine bq_t pd (md_ends_n (show ¬ (8 : Int32) = 0 by decide) ?_)
    refine bq_t (show dd 5 ≤ (0 : Int32) by rw [H.e5]; decide) ?_
    refine md_bits H.rel ha ea he.1 ?_
    refine bq_t (by decide) ?_
    refine bq_f (by decide) ?_
    refine md_bits H.rel hb eb he.2.1 ?_
    refine md_two (fbt_fin _ _ _) (fbt_fin _ _ _) (Or.inr (Or.inr (Or.inr rfl))) (fun dd' l1' l2' hl => ?_)
    have e5 : dd' 5 = 0 := by rw [hl 5 (by decide)]; exact H.e5
    exact md_put e5 hd ed he.2.2 (hQ _ _ _ hl)

theorem i_sqrtf_s (H : pre mn g rg hq mf cd fg w dd bm rr kt) (ho : zz_ushr w 26 = 17) (hr : fI w 21 = 16) (hf : w &&& 63 = 4) : pfx ms mn g rg hq mf cd fg w dd bm rr kt := by
  obtain ⟨a, ha, ea⟩ := fI_n w 11
  obtain ⟨b, hb, eb⟩ := fI_n w 16
  obtain ⟨d, hd, ed⟩ := fI_n w 6
  obtain ⟨r_, x_, hx1, hx2⟩ := rt_ex (rtS (fA 0 (fbt fg 0 a)) (fp 0 (fbt fg 0 a)) * 2 ^ 58)
  have hrt : rtOk 0 (fbt fg 0 a) r_ x_ := ⟨hx1, hx2⟩
  have he : evn 0 a ∧ evn 0 d := ⟨ev0 _, ev0 _⟩
  refine pfx_fr H (rg' := rg) (cd' := cd) (fg' := fgR fg 0 d (oneB 4 0 (fbt fg 0 a) r_ x_)) (rr' := rrR rr 0 d (oneB 4 0 (fbt fg 0 a) r_ x_)) (q_fgR hd he.2 H.rel) (fun L O P hP => ?_) (fun dd l1 l2 H Q hQ => ?_)
  · unfold wp_Pr_perform
    refine pr_op ?_
    rw [ho]
    repeat first | refine bq_t (by decide) ?_ | refine bq_f (by decide) ?_
    refine pr_rs ?_
    rw [hr]
    repeat first | refine bq_t (by decide) ?_ | refine bq_f (by decide) ?_
    refine pr_rt ⟨fI_in w 16, fun t et => ?_⟩
    subst et
    unfold wp_Fu_perform
    refine fun x ex => ?_
    have ex : x = 16 := ex.trans hr
    subst ex
    repeat first | refine bq_t (by decide) ?_ | refine bq_f (by decide) ?_
    refine fun y ey => ?_
    rw [hf] at ey
    subst ey
    repeat first | refine bq_t (by decide) ?_ | refine bq_f (by decide) ?_
    exact fu_change hf (Or.inl rfl) ha hd ea ed hrt (fun _ L' O' => hP L' O') (fun q => absurd he q)
  · unfold wp_Md_operate
    rw [ho]
    repeat first | refine bq_t (by decide) ?_ | refine bq_f (by decide) ?_
    unfold wp_Md_fractions
    refine md_field H.e9 (md_field H.e9 (md_field H.e9 ?_))
    rw [hr]
    repeat first | refine bq_t (by decide) ?_ | refine bq_f (by decide) ?_
    refine fun x ex => ?_
    rw [H.e9, hf] at ex
    subst ex
    repeat first | refine bq_t (by decide) ?_ | refine bq_f (by decide) ?_
    try unfold wj_Md_fractions_170
    refine md_field H.e9 ?_
    repeat first | refine bq_t (by decide) ?_ | refine bq_f (by decide) ?_ | refine bq_f na ?_ | refine bq_f nb ?_ | refine bq_f nd ?_ | refine bq_t pa (md_ends H.e5 ?_) | refine bq_t pa (md_ends_n (show ¬ (8 : Int32) = 0 by decide) ?_) | refine bq_t pb (md_ends H.e5 ?_) | refine bq_t pb (md_ends_n (show ¬ (8 : Int32) = 0 by decide) ?_) | refine bq_t pd (md_ends H.e5 ?_) | refine bq_t pd (md_ends_n (show ¬ (8 : Int32) = 0 by decide) ?_)
    refine bq_t (show dd 5 ≤ (0 : Int32) by rw [H.e5]; decide) ?_
    refine md_bits H.rel ha ea he.1 ?_
    refine bq_t (by decide) ?_
    refine bq_t (by decide) ?_
    refine bq_t (by decide) ?_
    refine bq_f (by decide) ?_
    refine bq_f (by decide) ?_
    refine bq_f (by decide) ?_
    refine md_one (fbt_fin _ _ _) hrt (fun dd' l1' hl => ?_)
    have e5 : dd' 5 = 0 := by rw [hl 5 (by decide)]; exact H.e5
    exact md_put e5 hd ed he.2 (hQ _ _ _ hl)

theorem i_absf_s (H : pre mn g rg hq mf cd fg w dd bm rr kt) (ho : zz_ushr w 26 = 17) (hr : fI w 21 = 16) (hf : w &&& 63 = 5) : pfx ms mn g rg hq mf cd fg w dd bm rr kt := by
  obtain ⟨a, ha, ea⟩ := fI_n w 11
  obtain ⟨b, hb, eb⟩ := fI_n w 16
  obtain ⟨d, hd, ed⟩ := fI_n w 6
  obtain ⟨r_, x_, hx1, hx2⟩ := rt_ex (rtS (fA 0 (fbt fg 0 a)) (fp 0 (fbt fg 0 a)) * 2 ^ 58)
  have hrt : rtOk 0 (fbt fg 0 a) r_ x_ := ⟨hx1, hx2⟩
  have he : evn 0 a ∧ evn 0 d := ⟨ev0 _, ev0 _⟩
  refine pfx_fr H (rg' := rg) (cd' := cd) (fg' := fgR fg 0 d (oneB 5 0 (fbt fg 0 a) r_ x_)) (rr' := rrR rr 0 d (oneB 5 0 (fbt fg 0 a) r_ x_)) (q_fgR hd he.2 H.rel) (fun L O P hP => ?_) (fun dd l1 l2 H Q hQ => ?_)
  · unfold wp_Pr_perform
    refine pr_op ?_
    rw [ho]
    repeat first | refine bq_t (by decide) ?_ | refine bq_f (by decide) ?_
    refine pr_rs ?_
    rw [hr]
    repeat first | refine bq_t (by decide) ?_ | refine bq_f (by decide) ?_
    refine pr_rt ⟨fI_in w 16, fun t et => ?_⟩
    subst et
    unfold wp_Fu_perform
    refine fun x ex => ?_
    have ex : x = 16 := ex.trans hr
    subst ex
    repeat first | refine bq_t (by decide) ?_ | refine bq_f (by decide) ?_
    refine fun y ey => ?_
    rw [hf] at ey
    subst ey
    repeat first | refine bq_t (by decide) ?_ | refine bq_f (by decide) ?_
    exact fu_change hf (Or.inr (Or.inl rfl)) ha hd ea ed hrt (fun _ L' O' => hP L' O') (fun q => absurd he q)
  · unfold wp_Md_operate
    rw [ho]
    repeat first | refine bq_t (by decide) ?_ | refine bq_f (by decide) ?_
    unfold wp_Md_fractions
    refine md_field H.e9 (md_field H.e9 (md_field H.e9 ?_))
    rw [hr]
    repeat first | refine bq_t (by decide) ?_ | refine bq_f (by decide) ?_
    refine fun x ex => ?_
    rw [H.e9, hf] at ex
    subst ex
    repeat first | refine bq_t (by decide) ?_ | refine bq_f (by decide) ?_
    try unfold wj_Md_fractions_170
    refine md_field H.e9 ?_
    repeat first | refine bq_t (by decide) ?_ | refine bq_f (by decide) ?_ | refine bq_f na ?_ | refine bq_f nb ?_ | refine bq_f nd ?_ | refine bq_t pa (md_ends H.e5 ?_) | refine bq_t pa (md_ends_n (show ¬ (8 : Int32) = 0 by decide) ?_) | refine bq_t pb (md_ends H.e5 ?_) | refine bq_t pb (md_ends_n (show ¬ (8 : Int32) = 0 by decide) ?_) | refine bq_t pd (md_ends H.e5 ?_) | refine bq_t pd (md_ends_n (show ¬ (8 : Int32) = 0 by decide) ?_)
    refine bq_t (show dd 5 ≤ (0 : Int32) by rw [H.e5]; decide) ?_
    refine md_bits H.rel ha ea he.1 ?_
    refine bq_t (by decide) ?_
    refine bq_t (by decide) ?_
    refine bq_t (by decide) ?_
    refine bq_f (by decide) ?_
    refine bq_f (by decide) ?_
    refine bq_f (by decide) ?_
    refine md_one (fbt_fin _ _ _) hrt (fun dd' l1' hl => ?_)
    have e5 : dd' 5 = 0 := by rw [hl 5 (by decide)]; exact H.e5
    exact md_put e5 hd ed he.2 (hQ _ _ _ hl)

theorem i_movf_s (H : pre mn g rg hq mf cd fg w dd bm rr kt) (ho : zz_ushr w 26 = 17) (hr : fI w 21 = 16) (hf : w &&& 63 = 6) : pfx ms mn g rg hq mf cd fg w dd bm rr kt := by
  obtain ⟨a, ha, ea⟩ := fI_n w 11
  obtain ⟨b, hb, eb⟩ := fI_n w 16
  obtain ⟨d, hd, ed⟩ := fI_n w 6
  obtain ⟨r_, x_, hx1, hx2⟩ := rt_ex (rtS (fA 0 (fbt fg 0 a)) (fp 0 (fbt fg 0 a)) * 2 ^ 58)
  have hrt : rtOk 0 (fbt fg 0 a) r_ x_ := ⟨hx1, hx2⟩
  have he : evn 0 a ∧ evn 0 d := ⟨ev0 _, ev0 _⟩
  refine pfx_fr H (rg' := rg) (cd' := cd) (fg' := fgR fg 0 d (oneB 6 0 (fbt fg 0 a) r_ x_)) (rr' := rrR rr 0 d (oneB 6 0 (fbt fg 0 a) r_ x_)) (q_fgR hd he.2 H.rel) (fun L O P hP => ?_) (fun dd l1 l2 H Q hQ => ?_)
  · unfold wp_Pr_perform
    refine pr_op ?_
    rw [ho]
    repeat first | refine bq_t (by decide) ?_ | refine bq_f (by decide) ?_
    refine pr_rs ?_
    rw [hr]
    repeat first | refine bq_t (by decide) ?_ | refine bq_f (by decide) ?_
    refine pr_rt ⟨fI_in w 16, fun t et => ?_⟩
    subst et
    unfold wp_Fu_perform
    refine fun x ex => ?_
    have ex : x = 16 := ex.trans hr
    subst ex
    repeat first | refine bq_t (by decide) ?_ | refine bq_f (by decide) ?_
    refine fun y ey => ?_
    rw [hf] at ey
    subst ey
    repeat first | refine bq_t (by decide) ?_ | refine bq_f (by decide) ?_
    exact fu_change hf (Or.inr (Or.inr (Or.inl rfl))) ha hd ea ed hrt (fun _ L' O' => hP L' O') (fun q => absurd he q)
  · unfold wp_Md_operate
    rw [ho]
    repeat first | refine bq_t (by decide) ?_ | refine bq_f (by decide) ?_
    unfold wp_Md_fractions
    refine md_field H.e9 (md_field H.e9 (md_field H.e9 ?_))
    rw [hr]
    repeat first | refine bq_t (by decide) ?_ | refine bq_f (by decide) ?_
    refine fun x ex => ?_
    rw [H.e9, hf] at ex
    subst ex
    repeat first | refine bq_t (by decide) ?_ | refine bq_f (by decide) ?_
    try unfold wj_Md_fractions_170
    refine md_field H.e9 ?_
    repeat first | refine bq_t (by decide) ?_ | refine bq_f (by decide) ?_ | refine bq_f na ?_ | refine bq_f nb ?_ | refine bq_f nd ?_ | refine bq_t pa (md_ends H.e5 ?_) | refine bq_t pa (md_ends_n (show ¬ (8 : Int32) = 0 by decide) ?_) | refine bq_t pb (md_ends H.e5 ?_) | refine bq_t pb (md_ends_n (show ¬ (8 : Int32) = 0 by decide) ?_) | refine bq_t pd (md_ends H.e5 ?_) | refine bq_t pd (md_ends_n (show ¬ (8 : Int32) = 0 by decide) ?_)
    refine bq_t (show dd 5 ≤ (0 : Int32) by rw [H.e5]; decide) ?_
    refine md_bits H.rel ha ea he.1 ?_
    refine bq_t (by decide) ?_
    refine bq_t (by decide) ?_
    refine bq_t (by decide) ?_
    refine bq_f (by decide) ?_
    refine bq_f (by decide) ?_
    refine bq_f (by decide) ?_
    refine md_one (fbt_fin _ _ _) hrt (fun dd' l1' hl => ?_)
    have e5 : dd' 5 = 0 := by rw [hl 5 (by decide)]; exact H.e5
    exact md_put e5 hd ed he.2 (hQ _ _ _ hl)

theorem i_negf_s (H : pre mn g rg hq mf cd fg w dd bm rr kt) (ho : zz_ushr w 26 = 17) (hr : fI w 21 = 16) (hf : w &&& 63 = 7) : pfx ms mn g rg hq mf cd fg w dd bm rr kt := by
  obtain ⟨a, ha, ea⟩ := fI_n w 11
  obtain ⟨b, hb, eb⟩ := fI_n w 16
  obtain ⟨d, hd, ed⟩ := fI_n w 6
  obtain ⟨r_, x_, hx1, hx2⟩ := rt_ex (rtS (fA 0 (fbt fg 0 a)) (fp 0 (fbt fg 0 a)) * 2 ^ 58)
  have hrt : rtOk 0 (fbt fg 0 a) r_ x_ := ⟨hx1, hx2⟩
  have he : evn 0 a ∧ evn 0 d := ⟨ev0 _, ev0 _⟩
  refine pfx_fr H (rg' := rg) (cd' := cd) (fg' := fgR fg 0 d (oneB 7 0 (fbt fg 0 a) r_ x_)) (rr' := rrR rr 0 d (oneB 7 0 (fbt fg 0 a) r_ x_)) (q_fgR hd he.2 H.rel) (fun L O P hP => ?_) (fun dd l1 l2 H Q hQ => ?_)
  · unfold wp_Pr_perform
    refine pr_op ?_
    rw [ho]
    repeat first | refine bq_t (by decide) ?_ | refine bq_f (by decide) ?_
    refine pr_rs ?_
    rw [hr]
    repeat first | refine bq_t (by decide) ?_ | refine bq_f (by decide) ?_
    refine pr_rt ⟨fI_in w 16, fun t et => ?_⟩
    subst et
    unfold wp_Fu_perform
    refine fun x ex => ?_
    have ex : x = 16 := ex.trans hr
    subst ex
    repeat first | refine bq_t (by decide) ?_ | refine bq_f (by decide) ?_
    refine fun y ey => ?_
    rw [hf] at ey
    subst ey
    repeat first | refine bq_t (by decide) ?_ | refine bq_f (by decide) ?_
    exact fu_change hf (Or.inr (Or.inr (Or.inr rfl))) ha hd ea ed hrt (fun _ L' O' => hP L' O') (fun q => absurd he q)
  · unfold wp_Md_operate
    rw [ho]
    repeat first | refine bq_t (by decide) ?_ | refine bq_f (by decide) ?_
    unfold wp_Md_fractions
    refine md_field H.e9 (md_field H.e9 (md_field H.e9 ?_))
    rw [hr]
    repeat first | refine bq_t (by decide) ?_ | refine bq_f (by decide) ?_
    refine fun x ex => ?_
    rw [H.e9, hf] at ex
    subst ex
    repeat first | refine bq_t (by decide) ?_ | refine bq_f (by decide) ?_
    try unfold wj_Md_fractions_170
    refine md_field H.e9 ?_
    repeat first | refine bq_t (by decide) ?_ | refine bq_f (by decide) ?_ | refine bq_f na ?_ | refine bq_f nb ?_ | refine bq_f nd ?_ | refine bq_t pa (md_ends H.e5 ?_) | refine bq_t pa (md_ends_n (show ¬ (8 : Int32) = 0 by decide) ?_) | refine bq_t pb (md_ends H.e5 ?_) | refine bq_t pb (md_ends_n (show ¬ (8 : Int32) = 0 by decide) ?_) | refine bq_t pd (md_ends H.e5 ?_) | refine bq_t pd (md_ends_n (show ¬ (8 : Int32) = 0 by decide) ?_)
    refine bq_t (show dd 5 ≤ (0 : Int32) by rw [H.e5]; decide) ?_
    refine md_bits H.rel ha ea he.1 ?_
    refine bq_t (by decide) ?_
    refine bq_t (by decide) ?_
    refine bq_t (by decide) ?_
    refine bq_f (by decide) ?_
    refine bq_f (by decide) ?_
    refine bq_f (by decide) ?_
    refine md_one (fbt_fin _ _ _) hrt (fun dd' l1' hl => ?_)
    have e5 : dd' 5 = 0 := by rw [hl 5 (by decide)]; exact H.e5
    exact md_put e5 hd ed he.2 (hQ _ _ _ hl)

theorem m32_i (x : Int32) : (x.toInt64 &&& (4294967295 : Int64)).toInt32 = x := by
  rw [u_toN, lN_i]
  apply Int32.toBitVec_inj.mp
  apply BitVec.eq_of_toNat_eq
  rw [pk_tn x.toBitVec.isLt]
theorem i_w12_s (H : pre mn g rg hq mf cd fg w dd bm rr kt) (ho : zz_ushr w 26 = 17) (hr : fI w 21 = 16) (hf : w &&& 63 = 12) : pfx ms mn g rg hq mf cd fg w dd bm rr kt := by
  obtain ⟨a, ha, ea⟩ := fI_n w 11
  obtain ⟨b, hb, eb⟩ := fI_n w 16
  obtain ⟨d, hd, ed⟩ := fI_n w 6
  have h3 : w &&& 3 = 0 := by
    have : w &&& 3 = (w &&& 63) &&& 3 := by rw [Int32.and_assoc]; rfl
    rw [this, hf]; decide
  have he : evn 0 a := ev0 _
  refine pfx_fr H (rg' := rg) (cd' := cd) (fg' := upd fg d (wdB 0 0 (fbt fg 0 a))) (rr' := upd rr (34 + d) (wdB 0 0 (fbt fg 0 a))) (q_fg hd H.rel) (fun L O P hP => ?_) (fun dd l1 l2 H Q hQ => ?_)
  · unfold wp_Pr_perform
    refine pr_op ?_
    rw [ho]
    repeat first | refine bq_t (by decide) ?_ | refine bq_f (by decide) ?_
    refine pr_rs ?_
    rw [hr]
    repeat first | refine bq_t (by decide) ?_ | refine bq_f (by decide) ?_
    refine pr_rt ⟨fI_in w 16, fun t et => ?_⟩
    subst et
    unfold wp_Fu_perform
    refine fun x ex => ?_
    have ex : x = 16 := ex.trans hr
    subst ex
    repeat first | refine bq_t (by decide) ?_ | refine bq_f (by decide) ?_
    refine fun y ey => ?_
    rw [hf] at ey
    subst ey
    repeat first | refine bq_t (by decide) ?_ | refine bq_f (by decide) ?_
    refine fu_toWord ha hd ea ed (fun _ L' O' => ?_) (fun q => absurd he q)
    rw [h3]
    exact hP L' O'
  · unfold wp_Md_operate
    rw [ho]
    repeat first | refine bq_t (by decide) ?_ | refine bq_f (by decide) ?_
    unfold wp_Md_fractions
    refine md_field H.e9 (md_field H.e9 (md_field H.e9 ?_))
    rw [hr]
    repeat first | refine bq_t (by decide) ?_ | refine bq_f (by decide) ?_
    refine fun x ex => ?_
    rw [H.e9, hf] at ex
    subst ex
    repeat first | refine bq_t (by decide) ?_ | refine bq_f (by decide) ?_
    try unfold wj_Md_fractions_170
    refine md_field H.e9 ?_
    repeat first | refine bq_t (by decide) ?_ | refine bq_f (by decide) ?_ | refine bq_f na ?_ | refine bq_f nb ?_ | refine bq_f nd ?_ | refine bq_t pa (md_ends H.e5 ?_) | refine bq_t pa (md_ends_n (show ¬ (8 : Int32) = 0 by decide) ?_) | refine bq_t pb (md_ends H.e5 ?_) | refine bq_t pb (md_ends_n (show ¬ (8 : Int32) = 0 by decide) ?_) | refine bq_t pd (md_ends H.e5 ?_) | refine bq_t pd (md_ends_n (show ¬ (8 : Int32) = 0 by decide) ?_)
    refine bq_t (show dd 5 ≤ (0 : Int32) by rw [H.e5]; decide) ?_
    refine md_bits H.rel ha ea he ?_
    refine bq_t (by decide) ?_
    refine bq_t (by decide) ?_
    refine bq_f (by decide) ?_
    refine md_wordOf (fbt_fin _ _ _) (Or.inl ⟨rfl, rfl⟩) (fun dd' l1' hl y ey => ?_)
    have e5 : dd' 5 = 0 := by rw [hl 5 (by decide)]; exact H.e5
    subst ey
    refine md_put (wd := 0) e5 hd ed (ev0 _) ?_
    unfold rrR
    rw [if_pos rfl, m32_i]
    exact hQ _ _ _ hl

theorem i_w13_s (H : pre mn g rg hq mf cd fg w dd bm rr kt) (ho : zz_ushr w 26 = 17) (hr : fI w 21 = 16) (hf : w &&& 63 = 13) : pfx ms mn g rg hq mf cd fg w dd bm rr kt := by
  obtain ⟨a, ha, ea⟩ := fI_n w 11
  obtain ⟨b, hb, eb⟩ := fI_n w 16
  obtain ⟨d, hd, ed⟩ := fI_n w 6
  have h3 : w &&& 3 = 1 := by
    have : w &&& 3 = (w &&& 63) &&& 3 := by rw [Int32.and_assoc]; rfl
    rw [this, hf]; decide
  have he : evn 0 a := ev0 _
  refine pfx_fr H (rg' := rg) (cd' := cd) (fg' := upd fg d (wdB 1 0 (fbt fg 0 a))) (rr' := upd rr (34 + d) (wdB 1 0 (fbt fg 0 a))) (q_fg hd H.rel) (fun L O P hP => ?_) (fun dd l1 l2 H Q hQ => ?_)
  · unfold wp_Pr_perform
    refine pr_op ?_
    rw [ho]
    repeat first | refine bq_t (by decide) ?_ | refine bq_f (by decide) ?_
    refine pr_rs ?_
    rw [hr]
    repeat first | refine bq_t (by decide) ?_ | refine bq_f (by decide) ?_
    refine pr_rt ⟨fI_in w 16, fun t et => ?_⟩
    subst et
    unfold wp_Fu_perform
    refine fun x ex => ?_
    have ex : x = 16 := ex.trans hr
    subst ex
    repeat first | refine bq_t (by decide) ?_ | refine bq_f (by decide) ?_
    refine fun y ey => ?_
    rw [hf] at ey
    subst ey
    repeat first | refine bq_t (by decide) ?_ | refine bq_f (by decide) ?_
    refine fu_toWord ha hd ea ed (fun _ L' O' => ?_) (fun q => absurd he q)
    rw [h3]
    exact hP L' O'
  · unfold wp_Md_operate
    rw [ho]
    repeat first | refine bq_t (by decide) ?_ | refine bq_f (by decide) ?_
    unfold wp_Md_fractions
    refine md_field H.e9 (md_field H.e9 (md_field H.e9 ?_))
    rw [hr]
    repeat first | refine bq_t (by decide) ?_ | refine bq_f (by decide) ?_
    refine fun x ex => ?_
    rw [H.e9, hf] at ex
    subst ex
    repeat first | refine bq_t (by decide) ?_ | refine bq_f (by decide) ?_
    try unfold wj_Md_fractions_170
    refine md_field H.e9 ?_
    repeat first | refine bq_t (by decide) ?_ | refine bq_f (by decide) ?_ | refine bq_f na ?_ | refine bq_f nb ?_ | refine bq_f nd ?_ | refine bq_t pa (md_ends H.e5 ?_) | refine bq_t pa (md_ends_n (show ¬ (8 : Int32) = 0 by decide) ?_) | refine bq_t pb (md_ends H.e5 ?_) | refine bq_t pb (md_ends_n (show ¬ (8 : Int32) = 0 by decide) ?_) | refine bq_t pd (md_ends H.e5 ?_) | refine bq_t pd (md_ends_n (show ¬ (8 : Int32) = 0 by decide) ?_)
    refine bq_t (show dd 5 ≤ (0 : Int32) by rw [H.e5]; decide) ?_
    refine md_bits H.rel ha ea he ?_
    refine bq_t (by decide) ?_
    refine bq_t (by decide) ?_
    refine bq_f (by decide) ?_
    refine md_wordOf (fbt_fin _ _ _) (Or.inr (Or.inl ⟨rfl, rfl⟩)) (fun dd' l1' hl y ey => ?_)
    have e5 : dd' 5 = 0 := by rw [hl 5 (by decide)]; exact H.e5
    subst ey
    refine md_put (wd := 0) e5 hd ed (ev0 _) ?_
    unfold rrR
    rw [if_pos rfl, m32_i]
    exact hQ _ _ _ hl

theorem i_w14_s (H : pre mn g rg hq mf cd fg w dd bm rr kt) (ho : zz_ushr w 26 = 17) (hr : fI w 21 = 16) (hf : w &&& 63 = 14) : pfx ms mn g rg hq mf cd fg w dd bm rr kt := by
  obtain ⟨a, ha, ea⟩ := fI_n w 11
  obtain ⟨b, hb, eb⟩ := fI_n w 16
  obtain ⟨d, hd, ed⟩ := fI_n w 6
  have h3 : w &&& 3 = 2 := by
    have : w &&& 3 = (w &&& 63) &&& 3 := by rw [Int32.and_assoc]; rfl
    rw [this, hf]; decide
  have he : evn 0 a := ev0 _
  refine pfx_fr H (rg' := rg) (cd' := cd) (fg' := upd fg d (wdB 2 0 (fbt fg 0 a))) (rr' := upd rr (34 + d) (wdB 2 0 (fbt fg 0 a))) (q_fg hd H.rel) (fun L O P hP => ?_) (fun dd l1 l2 H Q hQ => ?_)
  · unfold wp_Pr_perform
    refine pr_op ?_
    rw [ho]
    repeat first | refine bq_t (by decide) ?_ | refine bq_f (by decide) ?_
    refine pr_rs ?_
    rw [hr]
    repeat first | refine bq_t (by decide) ?_ | refine bq_f (by decide) ?_
    refine pr_rt ⟨fI_in w 16, fun t et => ?_⟩
    subst et
    unfold wp_Fu_perform
    refine fun x ex => ?_
    have ex : x = 16 := ex.trans hr
    subst ex
    repeat first | refine bq_t (by decide) ?_ | refine bq_f (by decide) ?_
    refine fun y ey => ?_
    rw [hf] at ey
    subst ey
    repeat first | refine bq_t (by decide) ?_ | refine bq_f (by decide) ?_
    refine fu_toWord ha hd ea ed (fun _ L' O' => ?_) (fun q => absurd he q)
    rw [h3]
    exact hP L' O'
  · unfold wp_Md_operate
    rw [ho]
    repeat first | refine bq_t (by decide) ?_ | refine bq_f (by decide) ?_
    unfold wp_Md_fractions
    refine md_field H.e9 (md_field H.e9 (md_field H.e9 ?_))
    rw [hr]
    repeat first | refine bq_t (by decide) ?_ | refine bq_f (by decide) ?_
    refine fun x ex => ?_
    rw [H.e9, hf] at ex
    subst ex
    repeat first | refine bq_t (by decide) ?_ | refine bq_f (by decide) ?_
    try unfold wj_Md_fractions_170
    refine md_field H.e9 ?_
    repeat first | refine bq_t (by decide) ?_ | refine bq_f (by decide) ?_ | refine bq_f na ?_ | refine bq_f nb ?_ | refine bq_f nd ?_ | refine bq_t pa (md_ends H.e5 ?_) | refine bq_t pa (md_ends_n (show ¬ (8 : Int32) = 0 by decide) ?_) | refine bq_t pb (md_ends H.e5 ?_) | refine bq_t pb (md_ends_n (show ¬ (8 : Int32) = 0 by decide) ?_) | refine bq_t pd (md_ends H.e5 ?_) | refine bq_t pd (md_ends_n (show ¬ (8 : Int32) = 0 by decide) ?_)
    refine bq_t (show dd 5 ≤ (0 : Int32) by rw [H.e5]; decide) ?_
    refine md_bits H.rel ha ea he ?_
    refine bq_t (by decide) ?_
    refine bq_t (by decide) ?_
    refine bq_f (by decide) ?_
    refine md_wordOf (fbt_fin _ _ _) (Or.inr (Or.inr (Or.inl ⟨rfl, rfl⟩))) (fun dd' l1' hl y ey => ?_)
    have e5 : dd' 5 = 0 := by rw [hl 5 (by decide)]; exact H.e5
    subst ey
    refine md_put (wd := 0) e5 hd ed (ev0 _) ?_
    unfold rrR
    rw [if_pos rfl, m32_i]
    exact hQ _ _ _ hl

theorem i_w15_s (H : pre mn g rg hq mf cd fg w dd bm rr kt) (ho : zz_ushr w 26 = 17) (hr : fI w 21 = 16) (hf : w &&& 63 = 15) : pfx ms mn g rg hq mf cd fg w dd bm rr kt := by
  obtain ⟨a, ha, ea⟩ := fI_n w 11
  obtain ⟨b, hb, eb⟩ := fI_n w 16
  obtain ⟨d, hd, ed⟩ := fI_n w 6
  have h3 : w &&& 3 = 3 := by
    have : w &&& 3 = (w &&& 63) &&& 3 := by rw [Int32.and_assoc]; rfl
    rw [this, hf]; decide
  have he : evn 0 a := ev0 _
  refine pfx_fr H (rg' := rg) (cd' := cd) (fg' := upd fg d (wdB 3 0 (fbt fg 0 a))) (rr' := upd rr (34 + d) (wdB 3 0 (fbt fg 0 a))) (q_fg hd H.rel) (fun L O P hP => ?_) (fun dd l1 l2 H Q hQ => ?_)
  · unfold wp_Pr_perform
    refine pr_op ?_
    rw [ho]
    repeat first | refine bq_t (by decide) ?_ | refine bq_f (by decide) ?_
    refine pr_rs ?_
    rw [hr]
    repeat first | refine bq_t (by decide) ?_ | refine bq_f (by decide) ?_
    refine pr_rt ⟨fI_in w 16, fun t et => ?_⟩
    subst et
    unfold wp_Fu_perform
    refine fun x ex => ?_
    have ex : x = 16 := ex.trans hr
    subst ex
    repeat first | refine bq_t (by decide) ?_ | refine bq_f (by decide) ?_
    refine fun y ey => ?_
    rw [hf] at ey
    subst ey
    repeat first | refine bq_t (by decide) ?_ | refine bq_f (by decide) ?_
    refine fu_toWord ha hd ea ed (fun _ L' O' => ?_) (fun q => absurd he q)
    rw [h3]
    exact hP L' O'
  · unfold wp_Md_operate
    rw [ho]
    repeat first | refine bq_t (by decide) ?_ | refine bq_f (by decide) ?_
    unfold wp_Md_fractions
    refine md_field H.e9 (md_field H.e9 (md_field H.e9 ?_))
    rw [hr]
    repeat first | refine bq_t (by decide) ?_ | refine bq_f (by decide) ?_
    refine fun x ex => ?_
    rw [H.e9, hf] at ex
    subst ex
    repeat first | refine bq_t (by decide) ?_ | refine bq_f (by decide) ?_
    try unfold wj_Md_fractions_170
    refine md_field H.e9 ?_
    repeat first | refine bq_t (by decide) ?_ | refine bq_f (by decide) ?_ | refine bq_f na ?_ | refine bq_f nb ?_ | refine bq_f nd ?_ | refine bq_t pa (md_ends H.e5 ?_) | refine bq_t pa (md_ends_n (show ¬ (8 : Int32) = 0 by decide) ?_) | refine bq_t pb (md_ends H.e5 ?_) | refine bq_t pb (md_ends_n (show ¬ (8 : Int32) = 0 by decide) ?_) | refine bq_t pd (md_ends H.e5 ?_) | refine bq_t pd (md_ends_n (show ¬ (8 : Int32) = 0 by decide) ?_)
    refine bq_t (show dd 5 ≤ (0 : Int32) by rw [H.e5]; decide) ?_
    refine md_bits H.rel ha ea he ?_
    refine bq_t (by decide) ?_
    refine bq_t (by decide) ?_
    refine bq_f (by decide) ?_
    refine md_wordOf (fbt_fin _ _ _) (Or.inr (Or.inr (Or.inr (Or.inl ⟨rfl, rfl⟩)))) (fun dd' l1' hl y ey => ?_)
    have e5 : dd' 5 = 0 := by rw [hl 5 (by decide)]; exact H.e5
    subst ey
    refine md_put (wd := 0) e5 hd ed (ev0 _) ?_
    unfold rrR
    rw [if_pos rfl, m32_i]
    exact hQ _ _ _ hl

theorem i_w36_s (H : pre mn g rg hq mf cd fg w dd bm rr kt) (ho : zz_ushr w 26 = 17) (hr : fI w 21 = 16) (hf : w &&& 63 = 36) : pfx ms mn g rg hq mf cd fg w dd bm rr kt := by
  obtain ⟨a, ha, ea⟩ := fI_n w 11
  obtain ⟨b, hb, eb⟩ := fI_n w 16
  obtain ⟨d, hd, ed⟩ := fI_n w 6
  have h3 : w &&& 3 = 0 := by
    have : w &&& 3 = (w &&& 63) &&& 3 := by rw [Int32.and_assoc]; rfl
    rw [this, hf]; decide
  have he : evn 0 a := ev0 _
  refine pfx_fr H (rg' := rg) (cd' := cd) (fg' := upd fg d (wdB 0 0 (fbt fg 0 a))) (rr' := upd rr (34 + d) (wdB 0 0 (fbt fg 0 a))) (q_fg hd H.rel) (fun L O P hP => ?_) (fun dd l1 l2 H Q hQ => ?_)
  · unfold wp_Pr_perform
    refine pr_op ?_
    rw [ho]
    repeat first | refine bq_t (by decide) ?_ | refine bq_f (by decide) ?_
    refine pr_rs ?_
    rw [hr]
    repeat first | refine bq_t (by decide) ?_ | refine bq_f (by decide) ?_
    refine pr_rt ⟨fI_in w 16, fun t et => ?_⟩
    subst et
    unfold wp_Fu_perform
    refine fun x ex => ?_
    have ex : x = 16 := ex.trans hr
    subst ex
    repeat first | refine bq_t (by decide) ?_ | refine bq_f (by decide) ?_
    refine fun y ey => ?_
    rw [hf] at ey
    subst ey
    repeat first | refine bq_t (by decide) ?_ | refine bq_f (by decide) ?_
    refine fu_toWord ha hd ea ed (fun _ L' O' => ?_) (fun q => absurd he q)
    rw [h3]
    exact hP L' O'
  · unfold wp_Md_operate
    rw [ho]
    repeat first | refine bq_t (by decide) ?_ | refine bq_f (by decide) ?_
    unfold wp_Md_fractions
    refine md_field H.e9 (md_field H.e9 (md_field H.e9 ?_))
    rw [hr]
    repeat first | refine bq_t (by decide) ?_ | refine bq_f (by decide) ?_
    refine fun x ex => ?_
    rw [H.e9, hf] at ex
    subst ex
    repeat first | refine bq_t (by decide) ?_ | refine bq_f (by decide) ?_
    try unfold wj_Md_fractions_170
    refine md_field H.e9 ?_
    repeat first | refine bq_t (by decide) ?_ | refine bq_f (by decide) ?_ | refine bq_f na ?_ | refine bq_f nb ?_ | refine bq_f nd ?_ | refine bq_t pa (md_ends H.e5 ?_) | refine bq_t pa (md_ends_n (show ¬ (8 : Int32) = 0 by decide) ?_) | refine bq_t pb (md_ends H.e5 ?_) | refine bq_t pb (md_ends_n (show ¬ (8 : Int32) = 0 by decide) ?_) | refine bq_t pd (md_ends H.e5 ?_) | refine bq_t pd (md_ends_n (show ¬ (8 : Int32) = 0 by decide) ?_)
    refine bq_t (show dd 5 ≤ (0 : Int32) by rw [H.e5]; decide) ?_
    refine md_bits H.rel ha ea he ?_
    refine bq_t (by decide) ?_
    refine bq_t (by decide) ?_
    refine bq_f (by decide) ?_
    refine md_wordOf (fbt_fin _ _ _) (Or.inr (Or.inr (Or.inr (Or.inr ⟨rfl, rfl⟩)))) (fun dd' l1' hl y ey => ?_)
    have e5 : dd' 5 = 0 := by rw [hl 5 (by decide)]; exact H.e5
    subst ey
    refine md_put (wd := 0) e5 hd ed (ev0 _) ?_
    unfold rrR
    rw [if_pos rfl, m32_i]
    exact hQ _ _ _ hl

theorem i_c48_s (H : pre mn g rg hq mf cd fg w dd bm rr kt) (ho : zz_ushr w 26 = 17) (hr : fI w 21 = 16) (hf : w &&& 63 = 48) : pfx ms mn g rg hq mf cd fg w dd bm rr kt := by
  obtain ⟨a, ha, ea⟩ := fI_n w 11
  obtain ⟨b, hb, eb⟩ := fI_n w 16
  obtain ⟨d, hd, ed⟩ := fI_n w 6
  have he : evn 0 a ∧ evn 0 b := ⟨ev0 _, ev0 _⟩
  refine pfx_fr H (rg' := rg) (cd' := cdN cd w (cmpC 0 (fbt fg 0 a) (fbt fg 0 b))) (fg' := fg) (rr' := upd rr 66 (cdN cd w (cmpC 0 (fbt fg 0 a) (fbt fg 0 b)))) (q_cd H.rel) (fun L O P hP => ?_) (fun dd l1 l2 H Q hQ => ?_)
  · unfold wp_Pr_perform
    refine pr_op ?_
    rw [ho]
    repeat first | refine bq_t (by decide) ?_ | refine bq_f (by decide) ?_
    refine pr_rs ?_
    rw [hr]
    repeat first | refine bq_t (by decide) ?_ | refine bq_f (by decide) ?_
    refine pr_rt ⟨fI_in w 16, fun t et => ?_⟩
    subst et
    unfold wp_Fu_perform
    refine fun x ex => ?_
    have ex : x = 16 := ex.trans hr
    subst ex
    repeat first | refine bq_t (by decide) ?_ | refine bq_f (by decide) ?_
    refine fun y ey => ?_
    rw [hf] at ey
    subst ey
    repeat first | refine bq_t (by decide) ?_ | refine bq_f (by decide) ?_
    exact fu_compare ha hb ea eb (fun _ L' O' => hP L' O') (fun q => absurd he q)
  · unfold wp_Md_operate
    rw [ho]
    repeat first | refine bq_t (by decide) ?_ | refine bq_f (by decide) ?_
    unfold wp_Md_fractions
    refine md_field H.e9 (md_field H.e9 (md_field H.e9 ?_))
    rw [hr]
    repeat first | refine bq_t (by decide) ?_ | refine bq_f (by decide) ?_
    refine fun x ex => ?_
    rw [H.e9, hf] at ex
    subst ex
    repeat first | refine bq_t (by decide) ?_ | refine bq_f (by decide) ?_
    try unfold wj_Md_fractions_170
    refine md_field H.e9 ?_
    repeat first | refine bq_t (by decide) ?_ | refine bq_f (by decide) ?_ | refine bq_f na ?_ | refine bq_f nb ?_ | refine bq_f nd ?_ | refine bq_t pa (md_ends H.e5 ?_) | refine bq_t pa (md_ends_n (show ¬ (8 : Int32) = 0 by decide) ?_) | refine bq_t pb (md_ends H.e5 ?_) | refine bq_t pb (md_ends_n (show ¬ (8 : Int32) = 0 by decide) ?_) | refine bq_t pd (md_ends H.e5 ?_) | refine bq_t pd (md_ends_n (show ¬ (8 : Int32) = 0 by decide) ?_)
    refine bq_t (show dd 5 ≤ (0 : Int32) by rw [H.e5]; decide) ?_
    refine md_bits H.rel ha ea he.1 ?_
    refine bq_f (by decide) ?_
    refine md_bits H.rel hb eb he.2 ?_
    exact md_compares H (fbt_fin _ _ _) (fbt_fin _ _ _) (by rw [hf]) hQ

theorem i_c49_s (H : pre mn g rg hq mf cd fg w dd bm rr kt) (ho : zz_ushr w 26 = 17) (hr : fI w 21 = 16) (hf : w &&& 63 = 49) : pfx ms mn g rg hq mf cd fg w dd bm rr kt := by
  obtain ⟨a, ha, ea⟩ := fI_n w 11
  obtain ⟨b, hb, eb⟩ := fI_n w 16
  obtain ⟨d, hd, ed⟩ := fI_n w 6
  have he : evn 0 a ∧ evn 0 b := ⟨ev0 _, ev0 _⟩
  refine pfx_fr H (rg' := rg) (cd' := cdN cd w (cmpC 0 (fbt fg 0 a) (fbt fg 0 b))) (fg' := fg) (rr' := upd rr 66 (cdN cd w (cmpC 0 (fbt fg 0 a) (fbt fg 0 b)))) (q_cd H.rel) (fun L O P hP => ?_) (fun dd l1 l2 H Q hQ => ?_)
  · unfold wp_Pr_perform
    refine pr_op ?_
    rw [ho]
    repeat first | refine bq_t (by decide) ?_ | refine bq_f (by decide) ?_
    refine pr_rs ?_
    rw [hr]
    repeat first | refine bq_t (by decide) ?_ | refine bq_f (by decide) ?_
    refine pr_rt ⟨fI_in w 16, fun t et => ?_⟩
    subst et
    unfold wp_Fu_perform
    refine fun x ex => ?_
    have ex : x = 16 := ex.trans hr
    subst ex
    repeat first | refine bq_t (by decide) ?_ | refine bq_f (by decide) ?_
    refine fun y ey => ?_
    rw [hf] at ey
    subst ey
    repeat first | refine bq_t (by decide) ?_ | refine bq_f (by decide) ?_
    exact fu_compare ha hb ea eb (fun _ L' O' => hP L' O') (fun q => absurd he q)
  · unfold wp_Md_operate
    rw [ho]
    repeat first | refine bq_t (by decide) ?_ | refine bq_f (by decide) ?_
    unfold wp_Md_fractions
    refine md_field H.e9 (md_field H.e9 (md_field H.e9 ?_))
    rw [hr]
    repeat first | refine bq_t (by decide) ?_ | refine bq_f (by decide) ?_
    refine fun x ex => ?_
    rw [H.e9, hf] at ex
    subst ex
    repeat first | refine bq_t (by decide) ?_ | refine bq_f (by decide) ?_
    try unfold wj_Md_fractions_170
    refine md_field H.e9 ?_
    repeat first | refine bq_t (by decide) ?_ | refine bq_f (by decide) ?_ | refine bq_f na ?_ | refine bq_f nb ?_ | refine bq_f nd ?_ | refine bq_t pa (md_ends H.e5 ?_) | refine bq_t pa (md_ends_n (show ¬ (8 : Int32) = 0 by decide) ?_) | refine bq_t pb (md_ends H.e5 ?_) | refine bq_t pb (md_ends_n (show ¬ (8 : Int32) = 0 by decide) ?_) | refine bq_t pd (md_ends H.e5 ?_) | refine bq_t pd (md_ends_n (show ¬ (8 : Int32) = 0 by decide) ?_)
    refine bq_t (show dd 5 ≤ (0 : Int32) by rw [H.e5]; decide) ?_
    refine md_bits H.rel ha ea he.1 ?_
    refine bq_f (by decide) ?_
    refine md_bits H.rel hb eb he.2 ?_
    exact md_compares H (fbt_fin _ _ _) (fbt_fin _ _ _) (by rw [hf]) hQ

theorem i_c50_s (H : pre mn g rg hq mf cd fg w dd bm rr kt) (ho : zz_ushr w 26 = 17) (hr : fI w 21 = 16) (hf : w &&& 63 = 50) : pfx ms mn g rg hq mf cd fg w dd bm rr kt := by
  obtain ⟨a, ha, ea⟩ := fI_n w 11
  obtain ⟨b, hb, eb⟩ := fI_n w 16
  obtain ⟨d, hd, ed⟩ := fI_n w 6
  have he : evn 0 a ∧ evn 0 b := ⟨ev0 _, ev0 _⟩
  refine pfx_fr H (rg' := rg) (cd' := cdN cd w (cmpC 0 (fbt fg 0 a) (fbt fg 0 b))) (fg' := fg) (rr' := upd rr 66 (cdN cd w (cmpC 0 (fbt fg 0 a) (fbt fg 0 b)))) (q_cd H.rel) (fun L O P hP => ?_) (fun dd l1 l2 H Q hQ => ?_)
  · unfold wp_Pr_perform
    refine pr_op ?_
    rw [ho]
    repeat first | refine bq_t (by decide) ?_ | refine bq_f (by decide) ?_
    refine pr_rs ?_
    rw [hr]
    repeat first | refine bq_t (by decide) ?_ | refine bq_f (by decide) ?_
    refine pr_rt ⟨fI_in w 16, fun t et => ?_⟩
    subst et
    unfold wp_Fu_perform
    refine fun x ex => ?_
    have ex : x = 16 := ex.trans hr
    subst ex
    repeat first | refine bq_t (by decide) ?_ | refine bq_f (by decide) ?_
    refine fun y ey => ?_
    rw [hf] at ey
    subst ey
    repeat first | refine bq_t (by decide) ?_ | refine bq_f (by decide) ?_
    exact fu_compare ha hb ea eb (fun _ L' O' => hP L' O') (fun q => absurd he q)
  · unfold wp_Md_operate
    rw [ho]
    repeat first | refine bq_t (by decide) ?_ | refine bq_f (by decide) ?_
    unfold wp_Md_fractions
    refine md_field H.e9 (md_field H.e9 (md_field H.e9 ?_))
    rw [hr]
    repeat first | refine bq_t (by decide) ?_ | refine bq_f (by decide) ?_
    refine fun x ex => ?_
    rw [H.e9, hf] at ex
    subst ex
    repeat first | refine bq_t (by decide) ?_ | refine bq_f (by decide) ?_
    try unfold wj_Md_fractions_170
    refine md_field H.e9 ?_
    repeat first | refine bq_t (by decide) ?_ | refine bq_f (by decide) ?_ | refine bq_f na ?_ | refine bq_f nb ?_ | refine bq_f nd ?_ | refine bq_t pa (md_ends H.e5 ?_) | refine bq_t pa (md_ends_n (show ¬ (8 : Int32) = 0 by decide) ?_) | refine bq_t pb (md_ends H.e5 ?_) | refine bq_t pb (md_ends_n (show ¬ (8 : Int32) = 0 by decide) ?_) | refine bq_t pd (md_ends H.e5 ?_) | refine bq_t pd (md_ends_n (show ¬ (8 : Int32) = 0 by decide) ?_)
    refine bq_t (show dd 5 ≤ (0 : Int32) by rw [H.e5]; decide) ?_
    refine md_bits H.rel ha ea he.1 ?_
    refine bq_f (by decide) ?_
    refine md_bits H.rel hb eb he.2 ?_
    exact md_compares H (fbt_fin _ _ _) (fbt_fin _ _ _) (by rw [hf]) hQ

theorem i_c51_s (H : pre mn g rg hq mf cd fg w dd bm rr kt) (ho : zz_ushr w 26 = 17) (hr : fI w 21 = 16) (hf : w &&& 63 = 51) : pfx ms mn g rg hq mf cd fg w dd bm rr kt := by
  obtain ⟨a, ha, ea⟩ := fI_n w 11
  obtain ⟨b, hb, eb⟩ := fI_n w 16
  obtain ⟨d, hd, ed⟩ := fI_n w 6
  have he : evn 0 a ∧ evn 0 b := ⟨ev0 _, ev0 _⟩
  refine pfx_fr H (rg' := rg) (cd' := cdN cd w (cmpC 0 (fbt fg 0 a) (fbt fg 0 b))) (fg' := fg) (rr' := upd rr 66 (cdN cd w (cmpC 0 (fbt fg 0 a) (fbt fg 0 b)))) (q_cd H.rel) (fun L O P hP => ?_) (fun dd l1 l2 H Q hQ => ?_)
  · unfold wp_Pr_perform
    refine pr_op ?_
    rw [ho]
    repeat first | refine bq_t (by decide) ?_ | refine bq_f (by decide) ?_
    refine pr_rs ?_
    rw [hr]
    repeat first | refine bq_t (by decide) ?_ | refine bq_f (by decide) ?_
    refine pr_rt ⟨fI_in w 16, fun t et => ?_⟩
    subst et
    unfold wp_Fu_perform
    refine fun x ex => ?_
    have ex : x = 16 := ex.trans hr
    subst ex
    repeat first | refine bq_t (by decide) ?_ | refine bq_f (by decide) ?_
    refine fun y ey => ?_
    rw [hf] at ey
    subst ey
    repeat first | refine bq_t (by decide) ?_ | refine bq_f (by decide) ?_
    exact fu_compare ha hb ea eb (fun _ L' O' => hP L' O') (fun q => absurd he q)
  · unfold wp_Md_operate
    rw [ho]
    repeat first | refine bq_t (by decide) ?_ | refine bq_f (by decide) ?_
    unfold wp_Md_fractions
    refine md_field H.e9 (md_field H.e9 (md_field H.e9 ?_))
    rw [hr]
    repeat first | refine bq_t (by decide) ?_ | refine bq_f (by decide) ?_
    refine fun x ex => ?_
    rw [H.e9, hf] at ex
    subst ex
    repeat first | refine bq_t (by decide) ?_ | refine bq_f (by decide) ?_
    try unfold wj_Md_fractions_170
    refine md_field H.e9 ?_
    repeat first | refine bq_t (by decide) ?_ | refine bq_f (by decide) ?_ | refine bq_f na ?_ | refine bq_f nb ?_ | refine bq_f nd ?_ | refine bq_t pa (md_ends H.e5 ?_) | refine bq_t pa (md_ends_n (show ¬ (8 : Int32) = 0 by decide) ?_) | refine bq_t pb (md_ends H.e5 ?_) | refine bq_t pb (md_ends_n (show ¬ (8 : Int32) = 0 by decide) ?_) | refine bq_t pd (md_ends H.e5 ?_) | refine bq_t pd (md_ends_n (show ¬ (8 : Int32) = 0 by decide) ?_)
    refine bq_t (show dd 5 ≤ (0 : Int32) by rw [H.e5]; decide) ?_
    refine md_bits H.rel ha ea he.1 ?_
    refine bq_f (by decide) ?_
    refine md_bits H.rel hb eb he.2 ?_
    exact md_compares H (fbt_fin _ _ _) (fbt_fin _ _ _) (by rw [hf]) hQ

theorem i_c52_s (H : pre mn g rg hq mf cd fg w dd bm rr kt) (ho : zz_ushr w 26 = 17) (hr : fI w 21 = 16) (hf : w &&& 63 = 52) : pfx ms mn g rg hq mf cd fg w dd bm rr kt := by
  obtain ⟨a, ha, ea⟩ := fI_n w 11
  obtain ⟨b, hb, eb⟩ := fI_n w 16
  obtain ⟨d, hd, ed⟩ := fI_n w 6
  have he : evn 0 a ∧ evn 0 b := ⟨ev0 _, ev0 _⟩
  refine pfx_fr H (rg' := rg) (cd' := cdN cd w (cmpC 0 (fbt fg 0 a) (fbt fg 0 b))) (fg' := fg) (rr' := upd rr 66 (cdN cd w (cmpC 0 (fbt fg 0 a) (fbt fg 0 b)))) (q_cd H.rel) (fun L O P hP => ?_) (fun dd l1 l2 H Q hQ => ?_)
  · unfold wp_Pr_perform
    refine pr_op ?_
    rw [ho]
    repeat first | refine bq_t (by decide) ?_ | refine bq_f (by decide) ?_
    refine pr_rs ?_
    rw [hr]
    repeat first | refine bq_t (by decide) ?_ | refine bq_f (by decide) ?_
    refine pr_rt ⟨fI_in w 16, fun t et => ?_⟩
    subst et
    unfold wp_Fu_perform
    refine fun x ex => ?_
    have ex : x = 16 := ex.trans hr
    subst ex
    repeat first | refine bq_t (by decide) ?_ | refine bq_f (by decide) ?_
    refine fun y ey => ?_
    rw [hf] at ey
    subst ey
    repeat first | refine bq_t (by decide) ?_ | refine bq_f (by decide) ?_
    exact fu_compare ha hb ea eb (fun _ L' O' => hP L' O') (fun q => absurd he q)
  · unfold wp_Md_operate
    rw [ho]
    repeat first | refine bq_t (by decide) ?_ | refine bq_f (by decide) ?_
    unfold wp_Md_fractions
    refine md_field H.e9 (md_field H.e9 (md_field H.e9 ?_))
    rw [hr]
    repeat first | refine bq_t (by decide) ?_ | refine bq_f (by decide) ?_
    refine fun x ex => ?_
    rw [H.e9, hf] at ex
    subst ex
    repeat first | refine bq_t (by decide) ?_ | refine bq_f (by decide) ?_
    try unfold wj_Md_fractions_170
    refine md_field H.e9 ?_
    repeat first | refine bq_t (by decide) ?_ | refine bq_f (by decide) ?_ | refine bq_f na ?_ | refine bq_f nb ?_ | refine bq_f nd ?_ | refine bq_t pa (md_ends H.e5 ?_) | refine bq_t pa (md_ends_n (show ¬ (8 : Int32) = 0 by decide) ?_) | refine bq_t pb (md_ends H.e5 ?_) | refine bq_t pb (md_ends_n (show ¬ (8 : Int32) = 0 by decide) ?_) | refine bq_t pd (md_ends H.e5 ?_) | refine bq_t pd (md_ends_n (show ¬ (8 : Int32) = 0 by decide) ?_)
    refine bq_t (show dd 5 ≤ (0 : Int32) by rw [H.e5]; decide) ?_
    refine md_bits H.rel ha ea he.1 ?_
    refine bq_f (by decide) ?_
    refine md_bits H.rel hb eb he.2 ?_
    exact md_compares H (fbt_fin _ _ _) (fbt_fin _ _ _) (by rw [hf]) hQ

theorem i_c53_s (H : pre mn g rg hq mf cd fg w dd bm rr kt) (ho : zz_ushr w 26 = 17) (hr : fI w 21 = 16) (hf : w &&& 63 = 53) : pfx ms mn g rg hq mf cd fg w dd bm rr kt := by
  obtain ⟨a, ha, ea⟩ := fI_n w 11
  obtain ⟨b, hb, eb⟩ := fI_n w 16
  obtain ⟨d, hd, ed⟩ := fI_n w 6
  have he : evn 0 a ∧ evn 0 b := ⟨ev0 _, ev0 _⟩
  refine pfx_fr H (rg' := rg) (cd' := cdN cd w (cmpC 0 (fbt fg 0 a) (fbt fg 0 b))) (fg' := fg) (rr' := upd rr 66 (cdN cd w (cmpC 0 (fbt fg 0 a) (fbt fg 0 b)))) (q_cd H.rel) (fun L O P hP => ?_) (fun dd l1 l2 H Q hQ => ?_)
  · unfold wp_Pr_perform
    refine pr_op ?_
    rw [ho]
    repeat first | refine bq_t (by decide) ?_ | refine bq_f (by decide) ?_
    refine pr_rs ?_
    rw [hr]
    repeat first | refine bq_t (by decide) ?_ | refine bq_f (by decide) ?_
    refine pr_rt ⟨fI_in w 16, fun t et => ?_⟩
    subst et
    unfold wp_Fu_perform
    refine fun x ex => ?_
    have ex : x = 16 := ex.trans hr
    subst ex
    repeat first | refine bq_t (by decide) ?_ | refine bq_f (by decide) ?_
    refine fun y ey => ?_
    rw [hf] at ey
    subst ey
    repeat first | refine bq_t (by decide) ?_ | refine bq_f (by decide) ?_
    exact fu_compare ha hb ea eb (fun _ L' O' => hP L' O') (fun q => absurd he q)
  · unfold wp_Md_operate
    rw [ho]
    repeat first | refine bq_t (by decide) ?_ | refine bq_f (by decide) ?_
    unfold wp_Md_fractions
    refine md_field H.e9 (md_field H.e9 (md_field H.e9 ?_))
    rw [hr]
    repeat first | refine bq_t (by decide) ?_ | refine bq_f (by decide) ?_
    refine fun x ex => ?_
    rw [H.e9, hf] at ex
    subst ex
    repeat first | refine bq_t (by decide) ?_ | refine bq_f (by decide) ?_
    try unfold wj_Md_fractions_170
    refine md_field H.e9 ?_
    repeat first | refine bq_t (by decide) ?_ | refine bq_f (by decide) ?_ | refine bq_f na ?_ | refine bq_f nb ?_ | refine bq_f nd ?_ | refine bq_t pa (md_ends H.e5 ?_) | refine bq_t pa (md_ends_n (show ¬ (8 : Int32) = 0 by decide) ?_) | refine bq_t pb (md_ends H.e5 ?_) | refine bq_t pb (md_ends_n (show ¬ (8 : Int32) = 0 by decide) ?_) | refine bq_t pd (md_ends H.e5 ?_) | refine bq_t pd (md_ends_n (show ¬ (8 : Int32) = 0 by decide) ?_)
    refine bq_t (show dd 5 ≤ (0 : Int32) by rw [H.e5]; decide) ?_
    refine md_bits H.rel ha ea he.1 ?_
    refine bq_f (by decide) ?_
    refine md_bits H.rel hb eb he.2 ?_
    exact md_compares H (fbt_fin _ _ _) (fbt_fin _ _ _) (by rw [hf]) hQ

theorem i_c54_s (H : pre mn g rg hq mf cd fg w dd bm rr kt) (ho : zz_ushr w 26 = 17) (hr : fI w 21 = 16) (hf : w &&& 63 = 54) : pfx ms mn g rg hq mf cd fg w dd bm rr kt := by
  obtain ⟨a, ha, ea⟩ := fI_n w 11
  obtain ⟨b, hb, eb⟩ := fI_n w 16
  obtain ⟨d, hd, ed⟩ := fI_n w 6
  have he : evn 0 a ∧ evn 0 b := ⟨ev0 _, ev0 _⟩
  refine pfx_fr H (rg' := rg) (cd' := cdN cd w (cmpC 0 (fbt fg 0 a) (fbt fg 0 b))) (fg' := fg) (rr' := upd rr 66 (cdN cd w (cmpC 0 (fbt fg 0 a) (fbt fg 0 b)))) (q_cd H.rel) (fun L O P hP => ?_) (fun dd l1 l2 H Q hQ => ?_)
  · unfold wp_Pr_perform
    refine pr_op ?_
    rw [ho]
    repeat first | refine bq_t (by decide) ?_ | refine bq_f (by decide) ?_
    refine pr_rs ?_
    rw [hr]
    repeat first | refine bq_t (by decide) ?_ | refine bq_f (by decide) ?_
    refine pr_rt ⟨fI_in w 16, fun t et => ?_⟩
    subst et
    unfold wp_Fu_perform
    refine fun x ex => ?_
    have ex : x = 16 := ex.trans hr
    subst ex
    repeat first | refine bq_t (by decide) ?_ | refine bq_f (by decide) ?_
    refine fun y ey => ?_
    rw [hf] at ey
    subst ey
    repeat first | refine bq_t (by decide) ?_ | refine bq_f (by decide) ?_
    exact fu_compare ha hb ea eb (fun _ L' O' => hP L' O') (fun q => absurd he q)
  · unfold wp_Md_operate
    rw [ho]
    repeat first | refine bq_t (by decide) ?_ | refine bq_f (by decide) ?_
    unfold wp_Md_fractions
    refine md_field H.e9 (md_field H.e9 (md_field H.e9 ?_))
    rw [hr]
    repeat first | refine bq_t (by decide) ?_ | refine bq_f (by decide) ?_
    refine fun x ex => ?_
    rw [H.e9, hf] at ex
    subst ex
    repeat first | refine bq_t (by decide) ?_ | refine bq_f (by decide) ?_
    try unfold wj_Md_fractions_170
    refine md_field H.e9 ?_
    repeat first | refine bq_t (by decide) ?_ | refine bq_f (by decide) ?_ | refine bq_f na ?_ | refine bq_f nb ?_ | refine bq_f nd ?_ | refine bq_t pa (md_ends H.e5 ?_) | refine bq_t pa (md_ends_n (show ¬ (8 : Int32) = 0 by decide) ?_) | refine bq_t pb (md_ends H.e5 ?_) | refine bq_t pb (md_ends_n (show ¬ (8 : Int32) = 0 by decide) ?_) | refine bq_t pd (md_ends H.e5 ?_) | refine bq_t pd (md_ends_n (show ¬ (8 : Int32) = 0 by decide) ?_)
    refine bq_t (show dd 5 ≤ (0 : Int32) by rw [H.e5]; decide) ?_
    refine md_bits H.rel ha ea he.1 ?_
    refine bq_f (by decide) ?_
    refine md_bits H.rel hb eb he.2 ?_
    exact md_compares H (fbt_fin _ _ _) (fbt_fin _ _ _) (by rw [hf]) hQ

theorem i_c55_s (H : pre mn g rg hq mf cd fg w dd bm rr kt) (ho : zz_ushr w 26 = 17) (hr : fI w 21 = 16) (hf : w &&& 63 = 55) : pfx ms mn g rg hq mf cd fg w dd bm rr kt := by
  obtain ⟨a, ha, ea⟩ := fI_n w 11
  obtain ⟨b, hb, eb⟩ := fI_n w 16
  obtain ⟨d, hd, ed⟩ := fI_n w 6
  have he : evn 0 a ∧ evn 0 b := ⟨ev0 _, ev0 _⟩
  refine pfx_fr H (rg' := rg) (cd' := cdN cd w (cmpC 0 (fbt fg 0 a) (fbt fg 0 b))) (fg' := fg) (rr' := upd rr 66 (cdN cd w (cmpC 0 (fbt fg 0 a) (fbt fg 0 b)))) (q_cd H.rel) (fun L O P hP => ?_) (fun dd l1 l2 H Q hQ => ?_)
  · unfold wp_Pr_perform
    refine pr_op ?_
    rw [ho]
    repeat first | refine bq_t (by decide) ?_ | refine bq_f (by decide) ?_
    refine pr_rs ?_
    rw [hr]
    repeat first | refine bq_t (by decide) ?_ | refine bq_f (by decide) ?_
    refine pr_rt ⟨fI_in w 16, fun t et => ?_⟩
    subst et
    unfold wp_Fu_perform
    refine fun x ex => ?_
    have ex : x = 16 := ex.trans hr
    subst ex
    repeat first | refine bq_t (by decide) ?_ | refine bq_f (by decide) ?_
    refine fun y ey => ?_
    rw [hf] at ey
    subst ey
    repeat first | refine bq_t (by decide) ?_ | refine bq_f (by decide) ?_
    exact fu_compare ha hb ea eb (fun _ L' O' => hP L' O') (fun q => absurd he q)
  · unfold wp_Md_operate
    rw [ho]
    repeat first | refine bq_t (by decide) ?_ | refine bq_f (by decide) ?_
    unfold wp_Md_fractions
    refine md_field H.e9 (md_field H.e9 (md_field H.e9 ?_))
    rw [hr]
    repeat first | refine bq_t (by decide) ?_ | refine bq_f (by decide) ?_
    refine fun x ex => ?_
    rw [H.e9, hf] at ex
    subst ex
    repeat first | refine bq_t (by decide) ?_ | refine bq_f (by decide) ?_
    try unfold wj_Md_fractions_170
    refine md_field H.e9 ?_
    repeat first | refine bq_t (by decide) ?_ | refine bq_f (by decide) ?_ | refine bq_f na ?_ | refine bq_f nb ?_ | refine bq_f nd ?_ | refine bq_t pa (md_ends H.e5 ?_) | refine bq_t pa (md_ends_n (show ¬ (8 : Int32) = 0 by decide) ?_) | refine bq_t pb (md_ends H.e5 ?_) | refine bq_t pb (md_ends_n (show ¬ (8 : Int32) = 0 by decide) ?_) | refine bq_t pd (md_ends H.e5 ?_) | refine bq_t pd (md_ends_n (show ¬ (8 : Int32) = 0 by decide) ?_)
    refine bq_t (show dd 5 ≤ (0 : Int32) by rw [H.e5]; decide) ?_
    refine md_bits H.rel ha ea he.1 ?_
    refine bq_f (by decide) ?_
    refine md_bits H.rel hb eb he.2 ?_
    exact md_compares H (fbt_fin _ _ _) (fbt_fin _ _ _) (by rw [hf]) hQ

theorem i_c56_s (H : pre mn g rg hq mf cd fg w dd bm rr kt) (ho : zz_ushr w 26 = 17) (hr : fI w 21 = 16) (hf : w &&& 63 = 56) : pfx ms mn g rg hq mf cd fg w dd bm rr kt := by
  obtain ⟨a, ha, ea⟩ := fI_n w 11
  obtain ⟨b, hb, eb⟩ := fI_n w 16
  obtain ⟨d, hd, ed⟩ := fI_n w 6
  have he : evn 0 a ∧ evn 0 b := ⟨ev0 _, ev0 _⟩
  refine pfx_fr H (rg' := rg) (cd' := cdN cd w (cmpC 0 (fbt fg 0 a) (fbt fg 0 b))) (fg' := fg) (rr' := upd rr 66 (cdN cd w (cmpC 0 (fbt fg 0 a) (fbt fg 0 b)))) (q_cd H.rel) (fun L O P hP => ?_) (fun dd l1 l2 H Q hQ => ?_)
  · unfold wp_Pr_perform
    refine pr_op ?_
    rw [ho]
    repeat first | refine bq_t (by decide) ?_ | refine bq_f (by decide) ?_
    refine pr_rs ?_
    rw [hr]
    repeat first | refine bq_t (by decide) ?_ | refine bq_f (by decide) ?_
    refine pr_rt ⟨fI_in w 16, fun t et => ?_⟩
    subst et
    unfold wp_Fu_perform
    refine fun x ex => ?_
    have ex : x = 16 := ex.trans hr
    subst ex
    repeat first | refine bq_t (by decide) ?_ | refine bq_f (by decide) ?_
    refine fun y ey => ?_
    rw [hf] at ey
    subst ey
    repeat first | refine bq_t (by decide) ?_ | refine bq_f (by decide) ?_
    exact fu_compare ha hb ea eb (fun _ L' O' => hP L' O') (fun q => absurd he q)
  · unfold wp_Md_operate
    rw [ho]
    repeat first | refine bq_t (by decide) ?_ | refine bq_f (by decide) ?_
    unfold wp_Md_fractions
    refine md_field H.e9 (md_field H.e9 (md_field H.e9 ?_))
    rw [hr]
    repeat first | refine bq_t (by decide) ?_ | refine bq_f (by decide) ?_
    refine fun x ex => ?_
    rw [H.e9, hf] at ex
    subst ex
    repeat first | refine bq_t (by decide) ?_ | refine bq_f (by decide) ?_
    try unfold wj_Md_fractions_170
    refine md_field H.e9 ?_
    repeat first | refine bq_t (by decide) ?_ | refine bq_f (by decide) ?_ | refine bq_f na ?_ | refine bq_f nb ?_ | refine bq_f nd ?_ | refine bq_t pa (md_ends H.e5 ?_) | refine bq_t pa (md_ends_n (show ¬ (8 : Int32) = 0 by decide) ?_) | refine bq_t pb (md_ends H.e5 ?_) | refine bq_t pb (md_ends_n (show ¬ (8 : Int32) = 0 by decide) ?_) | refine bq_t pd (md_ends H.e5 ?_) | refine bq_t pd (md_ends_n (show ¬ (8 : Int32) = 0 by decide) ?_)
    refine bq_t (show dd 5 ≤ (0 : Int32) by rw [H.e5]; decide) ?_
    refine md_bits H.rel ha ea he.1 ?_
    refine bq_f (by decide) ?_
    refine md_bits H.rel hb eb he.2 ?_
    exact md_compares H (fbt_fin _ _ _) (fbt_fin _ _ _) (by rw [hf]) hQ

theorem i_c57_s (H : pre mn g rg hq mf cd fg w dd bm rr kt) (ho : zz_ushr w 26 = 17) (hr : fI w 21 = 16) (hf : w &&& 63 = 57) : pfx ms mn g rg hq mf cd fg w dd bm rr kt := by
  obtain ⟨a, ha, ea⟩ := fI_n w 11
  obtain ⟨b, hb, eb⟩ := fI_n w 16
  obtain ⟨d, hd, ed⟩ := fI_n w 6
  have he : evn 0 a ∧ evn 0 b := ⟨ev0 _, ev0 _⟩
  refine pfx_fr H (rg' := rg) (cd' := cdN cd w (cmpC 0 (fbt fg 0 a) (fbt fg 0 b))) (fg' := fg) (rr' := upd rr 66 (cdN cd w (cmpC 0 (fbt fg 0 a) (fbt fg 0 b)))) (q_cd H.rel) (fun L O P hP => ?_) (fun dd l1 l2 H Q hQ => ?_)
  · unfold wp_Pr_perform
    refine pr_op ?_
    rw [ho]
    repeat first | refine bq_t (by decide) ?_ | refine bq_f (by decide) ?_
    refine pr_rs ?_
    rw [hr]
    repeat first | refine bq_t (by decide) ?_ | refine bq_f (by decide) ?_
    refine pr_rt ⟨fI_in w 16, fun t et => ?_⟩
    subst et
    unfold wp_Fu_perform
    refine fun x ex => ?_
    have ex : x = 16 := ex.trans hr
    subst ex
    repeat first | refine bq_t (by decide) ?_ | refine bq_f (by decide) ?_
    refine fun y ey => ?_
    rw [hf] at ey
    subst ey
    repeat first | refine bq_t (by decide) ?_ | refine bq_f (by decide) ?_
    exact fu_compare ha hb ea eb (fun _ L' O' => hP L' O') (fun q => absurd he q)
  · unfold wp_Md_operate
    rw [ho]
    repeat first | refine bq_t (by decide) ?_ | refine bq_f (by decide) ?_
    unfold wp_Md_fractions
    refine md_field H.e9 (md_field H.e9 (md_field H.e9 ?_))
    rw [hr]
    repeat first | refine bq_t (by decide) ?_ | refine bq_f (by decide) ?_
    refine fun x ex => ?_
    rw [H.e9, hf] at ex
    subst ex
    repeat first | refine bq_t (by decide) ?_ | refine bq_f (by decide) ?_
    try unfold wj_Md_fractions_170
    refine md_field H.e9 ?_
    repeat first | refine bq_t (by decide) ?_ | refine bq_f (by decide) ?_ | refine bq_f na ?_ | refine bq_f nb ?_ | refine bq_f nd ?_ | refine bq_t pa (md_ends H.e5 ?_) | refine bq_t pa (md_ends_n (show ¬ (8 : Int32) = 0 by decide) ?_) | refine bq_t pb (md_ends H.e5 ?_) | refine bq_t pb (md_ends_n (show ¬ (8 : Int32) = 0 by decide) ?_) | refine bq_t pd (md_ends H.e5 ?_) | refine bq_t pd (md_ends_n (show ¬ (8 : Int32) = 0 by decide) ?_)
    refine bq_t (show dd 5 ≤ (0 : Int32) by rw [H.e5]; decide) ?_
    refine md_bits H.rel ha ea he.1 ?_
    refine bq_f (by decide) ?_
    refine md_bits H.rel hb eb he.2 ?_
    exact md_compares H (fbt_fin _ _ _) (fbt_fin _ _ _) (by rw [hf]) hQ

theorem i_c58_s (H : pre mn g rg hq mf cd fg w dd bm rr kt) (ho : zz_ushr w 26 = 17) (hr : fI w 21 = 16) (hf : w &&& 63 = 58) : pfx ms mn g rg hq mf cd fg w dd bm rr kt := by
  obtain ⟨a, ha, ea⟩ := fI_n w 11
  obtain ⟨b, hb, eb⟩ := fI_n w 16
  obtain ⟨d, hd, ed⟩ := fI_n w 6
  have he : evn 0 a ∧ evn 0 b := ⟨ev0 _, ev0 _⟩
  refine pfx_fr H (rg' := rg) (cd' := cdN cd w (cmpC 0 (fbt fg 0 a) (fbt fg 0 b))) (fg' := fg) (rr' := upd rr 66 (cdN cd w (cmpC 0 (fbt fg 0 a) (fbt fg 0 b)))) (q_cd H.rel) (fun L O P hP => ?_) (fun dd l1 l2 H Q hQ => ?_)
  · unfold wp_Pr_perform
    refine pr_op ?_
    rw [ho]
    repeat first | refine bq_t (by decide) ?_ | refine bq_f (by decide) ?_
    refine pr_rs ?_
    rw [hr]
    repeat first | refine bq_t (by decide) ?_ | refine bq_f (by decide) ?_
    refine pr_rt ⟨fI_in w 16, fun t et => ?_⟩
    subst et
    unfold wp_Fu_perform
    refine fun x ex => ?_
    have ex : x = 16 := ex.trans hr
    subst ex
    repeat first | refine bq_t (by decide) ?_ | refine bq_f (by decide) ?_
    refine fun y ey => ?_
    rw [hf] at ey
    subst ey
    repeat first | refine bq_t (by decide) ?_ | refine bq_f (by decide) ?_
    exact fu_compare ha hb ea eb (fun _ L' O' => hP L' O') (fun q => absurd he q)
  · unfold wp_Md_operate
    rw [ho]
    repeat first | refine bq_t (by decide) ?_ | refine bq_f (by decide) ?_
    unfold wp_Md_fractions
    refine md_field H.e9 (md_field H.e9 (md_field H.e9 ?_))
    rw [hr]
    repeat first | refine bq_t (by decide) ?_ | refine bq_f (by decide) ?_
    refine fun x ex => ?_
    rw [H.e9, hf] at ex
    subst ex
    repeat first | refine bq_t (by decide) ?_ | refine bq_f (by decide) ?_
    try unfold wj_Md_fractions_170
    refine md_field H.e9 ?_
    repeat first | refine bq_t (by decide) ?_ | refine bq_f (by decide) ?_ | refine bq_f na ?_ | refine bq_f nb ?_ | refine bq_f nd ?_ | refine bq_t pa (md_ends H.e5 ?_) | refine bq_t pa (md_ends_n (show ¬ (8 : Int32) = 0 by decide) ?_) | refine bq_t pb (md_ends H.e5 ?_) | refine bq_t pb (md_ends_n (show ¬ (8 : Int32) = 0 by decide) ?_) | refine bq_t pd (md_ends H.e5 ?_) | refine bq_t pd (md_ends_n (show ¬ (8 : Int32) = 0 by decide) ?_)
    refine bq_t (show dd 5 ≤ (0 : Int32) by rw [H.e5]; decide) ?_
    refine md_bits H.rel ha ea he.1 ?_
    refine bq_f (by decide) ?_
    refine md_bits H.rel hb eb he.2 ?_
    exact md_compares H (fbt_fin _ _ _) (fbt_fin _ _ _) (by rw [hf]) hQ

theorem i_c59_s (H : pre mn g rg hq mf cd fg w dd bm rr kt) (ho : zz_ushr w 26 = 17) (hr : fI w 21 = 16) (hf : w &&& 63 = 59) : pfx ms mn g rg hq mf cd fg w dd bm rr kt := by
  obtain ⟨a, ha, ea⟩ := fI_n w 11
  obtain ⟨b, hb, eb⟩ := fI_n w 16
  obtain ⟨d, hd, ed⟩ := fI_n w 6
  have he : evn 0 a ∧ evn 0 b := ⟨ev0 _, ev0 _⟩
  refine pfx_fr H (rg' := rg) (cd' := cdN cd w (cmpC 0 (fbt fg 0 a) (fbt fg 0 b))) (fg' := fg) (rr' := upd rr 66 (cdN cd w (cmpC 0 (fbt fg 0 a) (fbt fg 0 b)))) (q_cd H.rel) (fun L O P hP => ?_) (fun dd l1 l2 H Q hQ => ?_)
  · unfold wp_Pr_perform
    refine pr_op ?_
    rw [ho]
    repeat first | refine bq_t (by decide) ?_ | refine bq_f (by decide) ?_
    refine pr_rs ?_
    rw [hr]
    repeat first | refine bq_t (by decide) ?_ | refine bq_f (by decide) ?_
    refine pr_rt ⟨fI_in w 16, fun t et => ?_⟩
    subst et
    unfold wp_Fu_perform
    refine fun x ex => ?_
    have ex : x = 16 := ex.trans hr
    subst ex
    repeat first | refine bq_t (by decide) ?_ | refine bq_f (by decide) ?_
    refine fun y ey => ?_
    rw [hf] at ey
    subst ey
    repeat first | refine bq_t (by decide) ?_ | refine bq_f (by decide) ?_
    exact fu_compare ha hb ea eb (fun _ L' O' => hP L' O') (fun q => absurd he q)
  · unfold wp_Md_operate
    rw [ho]
    repeat first | refine bq_t (by decide) ?_ | refine bq_f (by decide) ?_
    unfold wp_Md_fractions
    refine md_field H.e9 (md_field H.e9 (md_field H.e9 ?_))
    rw [hr]
    repeat first | refine bq_t (by decide) ?_ | refine bq_f (by decide) ?_
    refine fun x ex => ?_
    rw [H.e9, hf] at ex
    subst ex
    repeat first | refine bq_t (by decide) ?_ | refine bq_f (by decide) ?_
    try unfold wj_Md_fractions_170
    refine md_field H.e9 ?_
    repeat first | refine bq_t (by decide) ?_ | refine bq_f (by decide) ?_ | refine bq_f na ?_ | refine bq_f nb ?_ | refine bq_f nd ?_ | refine bq_t pa (md_ends H.e5 ?_) | refine bq_t pa (md_ends_n (show ¬ (8 : Int32) = 0 by decide) ?_) | refine bq_t pb (md_ends H.e5 ?_) | refine bq_t pb (md_ends_n (show ¬ (8 : Int32) = 0 by decide) ?_) | refine bq_t pd (md_ends H.e5 ?_) | refine bq_t pd (md_ends_n (show ¬ (8 : Int32) = 0 by decide) ?_)
    refine bq_t (show dd 5 ≤ (0 : Int32) by rw [H.e5]; decide) ?_
    refine md_bits H.rel ha ea he.1 ?_
    refine bq_f (by decide) ?_
    refine md_bits H.rel hb eb he.2 ?_
    exact md_compares H (fbt_fin _ _ _) (fbt_fin _ _ _) (by rw [hf]) hQ

theorem i_c60_s (H : pre mn g rg hq mf cd fg w dd bm rr kt) (ho : zz_ushr w 26 = 17) (hr : fI w 21 = 16) (hf : w &&& 63 = 60) : pfx ms mn g rg hq mf cd fg w dd bm rr kt := by
  obtain ⟨a, ha, ea⟩ := fI_n w 11
  obtain ⟨b, hb, eb⟩ := fI_n w 16
  obtain ⟨d, hd, ed⟩ := fI_n w 6
  have he : evn 0 a ∧ evn 0 b := ⟨ev0 _, ev0 _⟩
  refine pfx_fr H (rg' := rg) (cd' := cdN cd w (cmpC 0 (fbt fg 0 a) (fbt fg 0 b))) (fg' := fg) (rr' := upd rr 66 (cdN cd w (cmpC 0 (fbt fg 0 a) (fbt fg 0 b)))) (q_cd H.rel) (fun L O P hP => ?_) (fun dd l1 l2 H Q hQ => ?_)
  · unfold wp_Pr_perform
    refine pr_op ?_
    rw [ho]
    repeat first | refine bq_t (by decide) ?_ | refine bq_f (by decide) ?_
    refine pr_rs ?_
    rw [hr]
    repeat first | refine bq_t (by decide) ?_ | refine bq_f (by decide) ?_
    refine pr_rt ⟨fI_in w 16, fun t et => ?_⟩
    subst et
    unfold wp_Fu_perform
    refine fun x ex => ?_
    have ex : x = 16 := ex.trans hr
    subst ex
    repeat first | refine bq_t (by decide) ?_ | refine bq_f (by decide) ?_
    refine fun y ey => ?_
    rw [hf] at ey
    subst ey
    repeat first | refine bq_t (by decide) ?_ | refine bq_f (by decide) ?_
    exact fu_compare ha hb ea eb (fun _ L' O' => hP L' O') (fun q => absurd he q)
  · unfold wp_Md_operate
    rw [ho]
    repeat first | refine bq_t (by decide) ?_ | refine bq_f (by decide) ?_
    unfold wp_Md_fractions
    refine md_field H.e9 (md_field H.e9 (md_field H.e9 ?_))
    rw [hr]
    repeat first | refine bq_t (by decide) ?_ | refine bq_f (by decide) ?_
    refine fun x ex => ?_
    rw [H.e9, hf] at ex
    subst ex
    repeat first | refine bq_t (by decide) ?_ | refine bq_f (by decide) ?_
    try unfold wj_Md_fractions_170
    refine md_field H.e9 ?_
    repeat first | refine bq_t (by decide) ?_ | refine bq_f (by decide) ?_ | refine bq_f na ?_ | refine bq_f nb ?_ | refine bq_f nd ?_ | refine bq_t pa (md_ends H.e5 ?_) | refine bq_t pa (md_ends_n (show ¬ (8 : Int32) = 0 by decide) ?_) | refine bq_t pb (md_ends H.e5 ?_) | refine bq_t pb (md_ends_n (show ¬ (8 : Int32) = 0 by decide) ?_) | refine bq_t pd (md_ends H.e5 ?_) | refine bq_t pd (md_ends_n (show ¬ (8 : Int32) = 0 by decide) ?_)
    refine bq_t (show dd 5 ≤ (0 : Int32) by rw [H.e5]; decide) ?_
    refine md_bits H.rel ha ea he.1 ?_
    refine bq_f (by decide) ?_
    refine md_bits H.rel hb eb he.2 ?_
    exact md_compares H (fbt_fin _ _ _) (fbt_fin _ _ _) (by rw [hf]) hQ

theorem i_c61_s (H : pre mn g rg hq mf cd fg w dd bm rr kt) (ho : zz_ushr w 26 = 17) (hr : fI w 21 = 16) (hf : w &&& 63 = 61) : pfx ms mn g rg hq mf cd fg w dd bm rr kt := by
  obtain ⟨a, ha, ea⟩ := fI_n w 11
  obtain ⟨b, hb, eb⟩ := fI_n w 16
  obtain ⟨d, hd, ed⟩ := fI_n w 6
  have he : evn 0 a ∧ evn 0 b := ⟨ev0 _, ev0 _⟩
  refine pfx_fr H (rg' := rg) (cd' := cdN cd w (cmpC 0 (fbt fg 0 a) (fbt fg 0 b))) (fg' := fg) (rr' := upd rr 66 (cdN cd w (cmpC 0 (fbt fg 0 a) (fbt fg 0 b)))) (q_cd H.rel) (fun L O P hP => ?_) (fun dd l1 l2 H Q hQ => ?_)
  · unfold wp_Pr_perform
    refine pr_op ?_
    rw [ho]
    repeat first | refine bq_t (by decide) ?_ | refine bq_f (by decide) ?_
    refine pr_rs ?_
    rw [hr]
    repeat first | refine bq_t (by decide) ?_ | refine bq_f (by decide) ?_
    refine pr_rt ⟨fI_in w 16, fun t et => ?_⟩
    subst et
    unfold wp_Fu_perform
    refine fun x ex => ?_
    have ex : x = 16 := ex.trans hr
    subst ex
    repeat first | refine bq_t (by decide) ?_ | refine bq_f (by decide) ?_
    refine fun y ey => ?_
    rw [hf] at ey
    subst ey
    repeat first | refine bq_t (by decide) ?_ | refine bq_f (by decide) ?_
    exact fu_compare ha hb ea eb (fun _ L' O' => hP L' O') (fun q => absurd he q)
  · unfold wp_Md_operate
    rw [ho]
    repeat first | refine bq_t (by decide) ?_ | refine bq_f (by decide) ?_
    unfold wp_Md_fractions
    refine md_field H.e9 (md_field H.e9 (md_field H.e9 ?_))
    rw [hr]
    repeat first | refine bq_t (by decide) ?_ | refine bq_f (by decide) ?_
    refine fun x ex => ?_
    rw [H.e9, hf] at ex
    subst ex
    repeat first | refine bq_t (by decide) ?_ | refine bq_f (by decide) ?_
    try unfold wj_Md_fractions_170
    refine md_field H.e9 ?_
    repeat first | refine bq_t (by decide) ?_ | refine bq_f (by decide) ?_ | refine bq_f na ?_ | refine bq_f nb ?_ | refine bq_f nd ?_ | refine bq_t pa (md_ends H.e5 ?_) | refine bq_t pa (md_ends_n (show ¬ (8 : Int32) = 0 by decide) ?_) | refine bq_t pb (md_ends H.e5 ?_) | refine bq_t pb (md_ends_n (show ¬ (8 : Int32) = 0 by decide) ?_) | refine bq_t pd (md_ends H.e5 ?_) | refine bq_t pd (md_ends_n (show ¬ (8 : Int32) = 0 by decide) ?_)
    refine bq_t (show dd 5 ≤ (0 : Int32) by rw [H.e5]; decide) ?_
    refine md_bits H.rel ha ea he.1 ?_
    refine bq_f (by decide) ?_
    refine md_bits H.rel hb eb he.2 ?_
    exact md_compares H (fbt_fin _ _ _) (fbt_fin _ _ _) (by rw [hf]) hQ

theorem i_c62_s (H : pre mn g rg hq mf cd fg w dd bm rr kt) (ho : zz_ushr w 26 = 17) (hr : fI w 21 = 16) (hf : w &&& 63 = 62) : pfx ms mn g rg hq mf cd fg w dd bm rr kt := by
  obtain ⟨a, ha, ea⟩ := fI_n w 11
  obtain ⟨b, hb, eb⟩ := fI_n w 16
  obtain ⟨d, hd, ed⟩ := fI_n w 6
  have he : evn 0 a ∧ evn 0 b := ⟨ev0 _, ev0 _⟩
  refine pfx_fr H (rg' := rg) (cd' := cdN cd w (cmpC 0 (fbt fg 0 a) (fbt fg 0 b))) (fg' := fg) (rr' := upd rr 66 (cdN cd w (cmpC 0 (fbt fg 0 a) (fbt fg 0 b)))) (q_cd H.rel) (fun L O P hP => ?_) (fun dd l1 l2 H Q hQ => ?_)
  · unfold wp_Pr_perform
    refine pr_op ?_
    rw [ho]
    repeat first | refine bq_t (by decide) ?_ | refine bq_f (by decide) ?_
    refine pr_rs ?_
    rw [hr]
    repeat first | refine bq_t (by decide) ?_ | refine bq_f (by decide) ?_
    refine pr_rt ⟨fI_in w 16, fun t et => ?_⟩
    subst et
    unfold wp_Fu_perform
    refine fun x ex => ?_
    have ex : x = 16 := ex.trans hr
    subst ex
    repeat first | refine bq_t (by decide) ?_ | refine bq_f (by decide) ?_
    refine fun y ey => ?_
    rw [hf] at ey
    subst ey
    repeat first | refine bq_t (by decide) ?_ | refine bq_f (by decide) ?_
    exact fu_compare ha hb ea eb (fun _ L' O' => hP L' O') (fun q => absurd he q)
  · unfold wp_Md_operate
    rw [ho]
    repeat first | refine bq_t (by decide) ?_ | refine bq_f (by decide) ?_
    unfold wp_Md_fractions
    refine md_field H.e9 (md_field H.e9 (md_field H.e9 ?_))
    rw [hr]
    repeat first | refine bq_t (by decide) ?_ | refine bq_f (by decide) ?_
    refine fun x ex => ?_
    rw [H.e9, hf] at ex
    subst ex
    repeat first | refine bq_t (by decide) ?_ | refine bq_f (by decide) ?_
    try unfold wj_Md_fractions_170
    refine md_field H.e9 ?_
    repeat first | refine bq_t (by decide) ?_ | refine bq_f (by decide) ?_ | refine bq_f na ?_ | refine bq_f nb ?_ | refine bq_f nd ?_ | refine bq_t pa (md_ends H.e5 ?_) | refine bq_t pa (md_ends_n (show ¬ (8 : Int32) = 0 by decide) ?_) | refine bq_t pb (md_ends H.e5 ?_) | refine bq_t pb (md_ends_n (show ¬ (8 : Int32) = 0 by decide) ?_) | refine bq_t pd (md_ends H.e5 ?_) | refine bq_t pd (md_ends_n (show ¬ (8 : Int32) = 0 by decide) ?_)
    refine bq_t (show dd 5 ≤ (0 : Int32) by rw [H.e5]; decide) ?_
    refine md_bits H.rel ha ea he.1 ?_
    refine bq_f (by decide) ?_
    refine md_bits H.rel hb eb he.2 ?_
    exact md_compares H (fbt_fin _ _ _) (fbt_fin _ _ _) (by rw [hf]) hQ

theorem i_c63_s (H : pre mn g rg hq mf cd fg w dd bm rr kt) (ho : zz_ushr w 26 = 17) (hr : fI w 21 = 16) (hf : w &&& 63 = 63) : pfx ms mn g rg hq mf cd fg w dd bm rr kt := by
  obtain ⟨a, ha, ea⟩ := fI_n w 11
  obtain ⟨b, hb, eb⟩ := fI_n w 16
  obtain ⟨d, hd, ed⟩ := fI_n w 6
  have he : evn 0 a ∧ evn 0 b := ⟨ev0 _, ev0 _⟩
  refine pfx_fr H (rg' := rg) (cd' := cdN cd w (cmpC 0 (fbt fg 0 a) (fbt fg 0 b))) (fg' := fg) (rr' := upd rr 66 (cdN cd w (cmpC 0 (fbt fg 0 a) (fbt fg 0 b)))) (q_cd H.rel) (fun L O P hP => ?_) (fun dd l1 l2 H Q hQ => ?_)
  · unfold wp_Pr_perform
    refine pr_op ?_
    rw [ho]
    repeat first | refine bq_t (by decide) ?_ | refine bq_f (by decide) ?_
    refine pr_rs ?_
    rw [hr]
    repeat first | refine bq_t (by decide) ?_ | refine bq_f (by decide) ?_
    refine pr_rt ⟨fI_in w 16, fun t et => ?_⟩
    subst et
    unfold wp_Fu_perform
    refine fun x ex => ?_
    have ex : x = 16 := ex.trans hr
    subst ex
    repeat first | refine bq_t (by decide) ?_ | refine bq_f (by decide) ?_
    refine fun y ey => ?_
    rw [hf] at ey
    subst ey
    repeat first | refine bq_t (by decide) ?_ | refine bq_f (by decide) ?_
    exact fu_compare ha hb ea eb (fun _ L' O' => hP L' O') (fun q => absurd he q)
  · unfold wp_Md_operate
    rw [ho]
    repeat first | refine bq_t (by decide) ?_ | refine bq_f (by decide) ?_
    unfold wp_Md_fractions
    refine md_field H.e9 (md_field H.e9 (md_field H.e9 ?_))
    rw [hr]
    repeat first | refine bq_t (by decide) ?_ | refine bq_f (by decide) ?_
    refine fun x ex => ?_
    rw [H.e9, hf] at ex
    subst ex
    repeat first | refine bq_t (by decide) ?_ | refine bq_f (by decide) ?_
    try unfold wj_Md_fractions_170
    refine md_field H.e9 ?_
    repeat first | refine bq_t (by decide) ?_ | refine bq_f (by decide) ?_ | refine bq_f na ?_ | refine bq_f nb ?_ | refine bq_f nd ?_ | refine bq_t pa (md_ends H.e5 ?_) | refine bq_t pa (md_ends_n (show ¬ (8 : Int32) = 0 by decide) ?_) | refine bq_t pb (md_ends H.e5 ?_) | refine bq_t pb (md_ends_n (show ¬ (8 : Int32) = 0 by decide) ?_) | refine bq_t pd (md_ends H.e5 ?_) | refine bq_t pd (md_ends_n (show ¬ (8 : Int32) = 0 by decide) ?_)
    refine bq_t (show dd 5 ≤ (0 : Int32) by rw [H.e5]; decide) ?_
    refine md_bits H.rel ha ea he.1 ?_
    refine bq_f (by decide) ?_
    refine md_bits H.rel hb eb he.2 ?_
    exact md_compares H (fbt_fin _ _ _) (fbt_fin _ _ _) (by rw [hf]) hQ

theorem i_x8_s (H : pre mn g rg hq mf cd fg w dd bm rr kt) (ho : zz_ushr w 26 = 17) (hr : fI w 21 = 16) (hf : w &&& 63 = 8) : pfx ms mn g rg hq mf cd fg w dd bm rr kt := by
  refine pfx_mk H 3 (fun L O => (g, rg, hq, mf, cd, fg, L, O)) (fun dd l1 l2 => (upd dd 5 3, l1, l2, bm, rr, kt)) (fun L O P hP => ?_) (fun dd l1 l2 H L O => ⟨oc_end (by unfold q_e; simp) H.rel H.nxt rfl (fun j _ h => pk_un h), fun Q hQ => ?_⟩) (fun _ _ _ _ => rfl) (fun _ _ _ _ _ hs => ⟨by repeat first | exact hs | apply lo_upd, rfl, rfl, rfl⟩) (by first | exact Or.inr (fun _ _ => rfl) | exact Or.inl (by unfold q_e; decide)) (fun _ _ _ => rfl)
  · unfold wp_Pr_perform
    refine pr_op ?_
    rw [ho]
    repeat first | refine bq_t (by decide) ?_ | refine bq_f (by decide) ?_
    refine pr_rs ?_
    rw [hr]
    repeat first | refine bq_t (by decide) ?_ | refine bq_f (by decide) ?_
    refine pr_rt ⟨fI_in w 16, fun t et => ?_⟩
    subst et
    unfold wp_Fu_perform
    refine fun x ex => ?_
    have ex : x = 16 := ex.trans hr
    subst ex
    repeat first | refine bq_t (by decide) ?_ | refine bq_f (by decide) ?_
    refine fun y ey => ?_
    rw [hf] at ey
    subst ey
    repeat first | refine bq_t (by decide) ?_ | refine bq_f (by decide) ?_
    exact hP
  · unfold wp_Md_operate
    rw [ho]
    repeat first | refine bq_t (by decide) ?_ | refine bq_f (by decide) ?_
    unfold wp_Md_fractions
    refine md_field H.e9 (md_field H.e9 (md_field H.e9 ?_))
    rw [hr]
    repeat first | refine bq_t (by decide) ?_ | refine bq_f (by decide) ?_
    refine fun x ex => ?_
    rw [H.e9, hf] at ex
    subst ex
    repeat first | refine bq_t (by decide) ?_ | refine bq_f (by decide) ?_
    try unfold wj_Md_fractions_170
    refine md_field H.e9 ?_
    repeat first | refine bq_t (by decide) ?_ | refine bq_f (by decide) ?_ | refine bq_f na ?_ | refine bq_f nb ?_ | refine bq_f nd ?_ | refine bq_t pa (md_ends H.e5 ?_) | refine bq_t pa (md_ends_n (show ¬ (8 : Int32) = 0 by decide) ?_) | refine bq_t pb (md_ends H.e5 ?_) | refine bq_t pb (md_ends_n (show ¬ (8 : Int32) = 0 by decide) ?_) | refine bq_t pd (md_ends H.e5 ?_) | refine bq_t pd (md_ends_n (show ¬ (8 : Int32) = 0 by decide) ?_)
    exact md_ends H.e5 hQ

theorem i_x9_s (H : pre mn g rg hq mf cd fg w dd bm rr kt) (ho : zz_ushr w 26 = 17) (hr : fI w 21 = 16) (hf : w &&& 63 = 9) : pfx ms mn g rg hq mf cd fg w dd bm rr kt := by
  refine pfx_mk H 3 (fun L O => (g, rg, hq, mf, cd, fg, L, O)) (fun dd l1 l2 => (upd dd 5 3, l1, l2, bm, rr, kt)) (fun L O P hP => ?_) (fun dd l1 l2 H L O => ⟨oc_end (by unfold q_e; simp) H.rel H.nxt rfl (fun j _ h => pk_un h), fun Q hQ => ?_⟩) (fun _ _ _ _ => rfl) (fun _ _ _ _ _ hs => ⟨by repeat first | exact hs | apply lo_upd, rfl, rfl, rfl⟩) (by first | exact Or.inr (fun _ _ => rfl) | exact Or.inl (by unfold q_e; decide)) (fun _ _ _ => rfl)
  · unfold wp_Pr_perform
    refine pr_op ?_
    rw [ho]
    repeat first | refine bq_t (by decide) ?_ | refine bq_f (by decide) ?_
    refine pr_rs ?_
    rw [hr]
    repeat first | refine bq_t (by decide) ?_ | refine bq_f (by decide) ?_
    refine pr_rt ⟨fI_in w 16, fun t et => ?_⟩
    subst et
    unfold wp_Fu_perform
    refine fun x ex => ?_
    have ex : x = 16 := ex.trans hr
    subst ex
    repeat first | refine bq_t (by decide) ?_ | refine bq_f (by decide) ?_
    refine fun y ey => ?_
    rw [hf] at ey
    subst ey
    repeat first | refine bq_t (by decide) ?_ | refine bq_f (by decide) ?_
    exact hP
  · unfold wp_Md_operate
    rw [ho]
    repeat first | refine bq_t (by decide) ?_ | refine bq_f (by decide) ?_
    unfold wp_Md_fractions
    refine md_field H.e9 (md_field H.e9 (md_field H.e9 ?_))
    rw [hr]
    repeat first | refine bq_t (by decide) ?_ | refine bq_f (by decide) ?_
    refine fun x ex => ?_
    rw [H.e9, hf] at ex
    subst ex
    repeat first | refine bq_t (by decide) ?_ | refine bq_f (by decide) ?_
    try unfold wj_Md_fractions_170
    refine md_field H.e9 ?_
    repeat first | refine bq_t (by decide) ?_ | refine bq_f (by decide) ?_ | refine bq_f na ?_ | refine bq_f nb ?_ | refine bq_f nd ?_ | refine bq_t pa (md_ends H.e5 ?_) | refine bq_t pa (md_ends_n (show ¬ (8 : Int32) = 0 by decide) ?_) | refine bq_t pb (md_ends H.e5 ?_) | refine bq_t pb (md_ends_n (show ¬ (8 : Int32) = 0 by decide) ?_) | refine bq_t pd (md_ends H.e5 ?_) | refine bq_t pd (md_ends_n (show ¬ (8 : Int32) = 0 by decide) ?_)
    exact md_ends H.e5 hQ

theorem i_x10_s (H : pre mn g rg hq mf cd fg w dd bm rr kt) (ho : zz_ushr w 26 = 17) (hr : fI w 21 = 16) (hf : w &&& 63 = 10) : pfx ms mn g rg hq mf cd fg w dd bm rr kt := by
  refine pfx_mk H 3 (fun L O => (g, rg, hq, mf, cd, fg, L, O)) (fun dd l1 l2 => (upd dd 5 3, l1, l2, bm, rr, kt)) (fun L O P hP => ?_) (fun dd l1 l2 H L O => ⟨oc_end (by unfold q_e; simp) H.rel H.nxt rfl (fun j _ h => pk_un h), fun Q hQ => ?_⟩) (fun _ _ _ _ => rfl) (fun _ _ _ _ _ hs => ⟨by repeat first | exact hs | apply lo_upd, rfl, rfl, rfl⟩) (by first | exact Or.inr (fun _ _ => rfl) | exact Or.inl (by unfold q_e; decide)) (fun _ _ _ => rfl)
  · unfold wp_Pr_perform
    refine pr_op ?_
    rw [ho]
    repeat first | refine bq_t (by decide) ?_ | refine bq_f (by decide) ?_
    refine pr_rs ?_
    rw [hr]
    repeat first | refine bq_t (by decide) ?_ | refine bq_f (by decide) ?_
    refine pr_rt ⟨fI_in w 16, fun t et => ?_⟩
    subst et
    unfold wp_Fu_perform
    refine fun x ex => ?_
    have ex : x = 16 := ex.trans hr
    subst ex
    repeat first | refine bq_t (by decide) ?_ | refine bq_f (by decide) ?_
    refine fun y ey => ?_
    rw [hf] at ey
    subst ey
    repeat first | refine bq_t (by decide) ?_ | refine bq_f (by decide) ?_
    exact hP
  · unfold wp_Md_operate
    rw [ho]
    repeat first | refine bq_t (by decide) ?_ | refine bq_f (by decide) ?_
    unfold wp_Md_fractions
    refine md_field H.e9 (md_field H.e9 (md_field H.e9 ?_))
    rw [hr]
    repeat first | refine bq_t (by decide) ?_ | refine bq_f (by decide) ?_
    refine fun x ex => ?_
    rw [H.e9, hf] at ex
    subst ex
    repeat first | refine bq_t (by decide) ?_ | refine bq_f (by decide) ?_
    try unfold wj_Md_fractions_170
    refine md_field H.e9 ?_
    repeat first | refine bq_t (by decide) ?_ | refine bq_f (by decide) ?_ | refine bq_f na ?_ | refine bq_f nb ?_ | refine bq_f nd ?_ | refine bq_t pa (md_ends H.e5 ?_) | refine bq_t pa (md_ends_n (show ¬ (8 : Int32) = 0 by decide) ?_) | refine bq_t pb (md_ends H.e5 ?_) | refine bq_t pb (md_ends_n (show ¬ (8 : Int32) = 0 by decide) ?_) | refine bq_t pd (md_ends H.e5 ?_) | refine bq_t pd (md_ends_n (show ¬ (8 : Int32) = 0 by decide) ?_)
    exact md_ends H.e5 hQ

theorem i_x11_s (H : pre mn g rg hq mf cd fg w dd bm rr kt) (ho : zz_ushr w 26 = 17) (hr : fI w 21 = 16) (hf : w &&& 63 = 11) : pfx ms mn g rg hq mf cd fg w dd bm rr kt := by
  refine pfx_mk H 3 (fun L O => (g, rg, hq, mf, cd, fg, L, O)) (fun dd l1 l2 => (upd dd 5 3, l1, l2, bm, rr, kt)) (fun L O P hP => ?_) (fun dd l1 l2 H L O => ⟨oc_end (by unfold q_e; simp) H.rel H.nxt rfl (fun j _ h => pk_un h), fun Q hQ => ?_⟩) (fun _ _ _ _ => rfl) (fun _ _ _ _ _ hs => ⟨by repeat first | exact hs | apply lo_upd, rfl, rfl, rfl⟩) (by first | exact Or.inr (fun _ _ => rfl) | exact Or.inl (by unfold q_e; decide)) (fun _ _ _ => rfl)
  · unfold wp_Pr_perform
    refine pr_op ?_
    rw [ho]
    repeat first | refine bq_t (by decide) ?_ | refine bq_f (by decide) ?_
    refine pr_rs ?_
    rw [hr]
    repeat first | refine bq_t (by decide) ?_ | refine bq_f (by decide) ?_
    refine pr_rt ⟨fI_in w 16, fun t et => ?_⟩
    subst et
    unfold wp_Fu_perform
    refine fun x ex => ?_
    have ex : x = 16 := ex.trans hr
    subst ex
    repeat first | refine bq_t (by decide) ?_ | refine bq_f (by decide) ?_
    refine fun y ey => ?_
    rw [hf] at ey
    subst ey
    repeat first | refine bq_t (by decide) ?_ | refine bq_f (by decide) ?_
    exact hP
  · unfold wp_Md_operate
    rw [ho]
    repeat first | refine bq_t (by decide) ?_ | refine bq_f (by decide) ?_
    unfold wp_Md_fractions
    refine md_field H.e9 (md_field H.e9 (md_field H.e9 ?_))
    rw [hr]
    repeat first | refine bq_t (by decide) ?_ | refine bq_f (by decide) ?_
    refine fun x ex => ?_
    rw [H.e9, hf] at ex
    subst ex
    repeat first | refine bq_t (by decide) ?_ | refine bq_f (by decide) ?_
    try unfold wj_Md_fractions_170
    refine md_field H.e9 ?_
    repeat first | refine bq_t (by decide) ?_ | refine bq_f (by decide) ?_ | refine bq_f na ?_ | refine bq_f nb ?_ | refine bq_f nd ?_ | refine bq_t pa (md_ends H.e5 ?_) | refine bq_t pa (md_ends_n (show ¬ (8 : Int32) = 0 by decide) ?_) | refine bq_t pb (md_ends H.e5 ?_) | refine bq_t pb (md_ends_n (show ¬ (8 : Int32) = 0 by decide) ?_) | refine bq_t pd (md_ends H.e5 ?_) | refine bq_t pd (md_ends_n (show ¬ (8 : Int32) = 0 by decide) ?_)
    exact md_ends H.e5 hQ

theorem i_x16_s (H : pre mn g rg hq mf cd fg w dd bm rr kt) (ho : zz_ushr w 26 = 17) (hr : fI w 21 = 16) (hf : w &&& 63 = 16) : pfx ms mn g rg hq mf cd fg w dd bm rr kt := by
  refine pfx_mk H 3 (fun L O => (g, rg, hq, mf, cd, fg, L, O)) (fun dd l1 l2 => (upd dd 5 3, l1, l2, bm, rr, kt)) (fun L O P hP => ?_) (fun dd l1 l2 H L O => ⟨oc_end (by unfold q_e; simp) H.rel H.nxt rfl (fun j _ h => pk_un h), fun Q hQ => ?_⟩) (fun _ _ _ _ => rfl) (fun _ _ _ _ _ hs => ⟨by repeat first | exact hs | apply lo_upd, rfl, rfl, rfl⟩) (by first | exact Or.inr (fun _ _ => rfl) | exact Or.inl (by unfold q_e; decide)) (fun _ _ _ => rfl)
  · unfold wp_Pr_perform
    refine pr_op ?_
    rw [ho]
    repeat first | refine bq_t (by decide) ?_ | refine bq_f (by decide) ?_
    refine pr_rs ?_
    rw [hr]
    repeat first | refine bq_t (by decide) ?_ | refine bq_f (by decide) ?_
    refine pr_rt ⟨fI_in w 16, fun t et => ?_⟩
    subst et
    unfold wp_Fu_perform
    refine fun x ex => ?_
    have ex : x = 16 := ex.trans hr
    subst ex
    repeat first | refine bq_t (by decide) ?_ | refine bq_f (by decide) ?_
    refine fun y ey => ?_
    rw [hf] at ey
    subst ey
    repeat first | refine bq_t (by decide) ?_ | refine bq_f (by decide) ?_
    exact hP
  · unfold wp_Md_operate
    rw [ho]
    repeat first | refine bq_t (by decide) ?_ | refine bq_f (by decide) ?_
    unfold wp_Md_fractions
    refine md_field H.e9 (md_field H.e9 (md_field H.e9 ?_))
    rw [hr]
    repeat first | refine bq_t (by decide) ?_ | refine bq_f (by decide) ?_
    refine fun x ex => ?_
    rw [H.e9, hf] at ex
    subst ex
    repeat first | refine bq_t (by decide) ?_ | refine bq_f (by decide) ?_
    try unfold wj_Md_fractions_170
    refine md_field H.e9 ?_
    repeat first | refine bq_t (by decide) ?_ | refine bq_f (by decide) ?_ | refine bq_f na ?_ | refine bq_f nb ?_ | refine bq_f nd ?_ | refine bq_t pa (md_ends H.e5 ?_) | refine bq_t pa (md_ends_n (show ¬ (8 : Int32) = 0 by decide) ?_) | refine bq_t pb (md_ends H.e5 ?_) | refine bq_t pb (md_ends_n (show ¬ (8 : Int32) = 0 by decide) ?_) | refine bq_t pd (md_ends H.e5 ?_) | refine bq_t pd (md_ends_n (show ¬ (8 : Int32) = 0 by decide) ?_)
    exact md_ends H.e5 hQ

theorem i_x20_s (H : pre mn g rg hq mf cd fg w dd bm rr kt) (ho : zz_ushr w 26 = 17) (hr : fI w 21 = 16) (hf : w &&& 63 = 20) : pfx ms mn g rg hq mf cd fg w dd bm rr kt := by
  refine pfx_mk H 3 (fun L O => (g, rg, hq, mf, cd, fg, L, O)) (fun dd l1 l2 => (upd dd 5 3, l1, l2, bm, rr, kt)) (fun L O P hP => ?_) (fun dd l1 l2 H L O => ⟨oc_end (by unfold q_e; simp) H.rel H.nxt rfl (fun j _ h => pk_un h), fun Q hQ => ?_⟩) (fun _ _ _ _ => rfl) (fun _ _ _ _ _ hs => ⟨by repeat first | exact hs | apply lo_upd, rfl, rfl, rfl⟩) (by first | exact Or.inr (fun _ _ => rfl) | exact Or.inl (by unfold q_e; decide)) (fun _ _ _ => rfl)
  · unfold wp_Pr_perform
    refine pr_op ?_
    rw [ho]
    repeat first | refine bq_t (by decide) ?_ | refine bq_f (by decide) ?_
    refine pr_rs ?_
    rw [hr]
    repeat first | refine bq_t (by decide) ?_ | refine bq_f (by decide) ?_
    refine pr_rt ⟨fI_in w 16, fun t et => ?_⟩
    subst et
    unfold wp_Fu_perform
    refine fun x ex => ?_
    have ex : x = 16 := ex.trans hr
    subst ex
    repeat first | refine bq_t (by decide) ?_ | refine bq_f (by decide) ?_
    refine fun y ey => ?_
    rw [hf] at ey
    subst ey
    repeat first | refine bq_t (by decide) ?_ | refine bq_f (by decide) ?_
    exact hP
  · unfold wp_Md_operate
    rw [ho]
    repeat first | refine bq_t (by decide) ?_ | refine bq_f (by decide) ?_
    unfold wp_Md_fractions
    refine md_field H.e9 (md_field H.e9 (md_field H.e9 ?_))
    rw [hr]
    repeat first | refine bq_t (by decide) ?_ | refine bq_f (by decide) ?_
    refine fun x ex => ?_
    rw [H.e9, hf] at ex
    subst ex
    repeat first | refine bq_t (by decide) ?_ | refine bq_f (by decide) ?_
    try unfold wj_Md_fractions_170
    refine md_field H.e9 ?_
    repeat first | refine bq_t (by decide) ?_ | refine bq_f (by decide) ?_ | refine bq_f na ?_ | refine bq_f nb ?_ | refine bq_f nd ?_ | refine bq_t pa (md_ends H.e5 ?_) | refine bq_t pa (md_ends_n (show ¬ (8 : Int32) = 0 by decide) ?_) | refine bq_t pb (md_ends H.e5 ?_) | refine bq_t pb (md_ends_n (show ¬ (8 : Int32) = 0 by decide) ?_) | refine bq_t pd (md_ends H.e5 ?_) | refine bq_t pd (md_ends_n (show ¬ (8 : Int32) = 0 by decide) ?_)
    exact md_ends H.e5 hQ

theorem i_x21_s (H : pre mn g rg hq mf cd fg w dd bm rr kt) (ho : zz_ushr w 26 = 17) (hr : fI w 21 = 16) (hf : w &&& 63 = 21) : pfx ms mn g rg hq mf cd fg w dd bm rr kt := by
  refine pfx_mk H 3 (fun L O => (g, rg, hq, mf, cd, fg, L, O)) (fun dd l1 l2 => (upd dd 5 3, l1, l2, bm, rr, kt)) (fun L O P hP => ?_) (fun dd l1 l2 H L O => ⟨oc_end (by unfold q_e; simp) H.rel H.nxt rfl (fun j _ h => pk_un h), fun Q hQ => ?_⟩) (fun _ _ _ _ => rfl) (fun _ _ _ _ _ hs => ⟨by repeat first | exact hs | apply lo_upd, rfl, rfl, rfl⟩) (by first | exact Or.inr (fun _ _ => rfl) | exact Or.inl (by unfold q_e; decide)) (fun _ _ _ => rfl)
  · unfold wp_Pr_perform
    refine pr_op ?_
    rw [ho]
    repeat first | refine bq_t (by decide) ?_ | refine bq_f (by decide) ?_
    refine pr_rs ?_
    rw [hr]
    repeat first | refine bq_t (by decide) ?_ | refine bq_f (by decide) ?_
    refine pr_rt ⟨fI_in w 16, fun t et => ?_⟩
    subst et
    unfold wp_Fu_perform
    refine fun x ex => ?_
    have ex : x = 16 := ex.trans hr
    subst ex
    repeat first | refine bq_t (by decide) ?_ | refine bq_f (by decide) ?_
    refine fun y ey => ?_
    rw [hf] at ey
    subst ey
    repeat first | refine bq_t (by decide) ?_ | refine bq_f (by decide) ?_
    exact hP
  · unfold wp_Md_operate
    rw [ho]
    repeat first | refine bq_t (by decide) ?_ | refine bq_f (by decide) ?_
    unfold wp_Md_fractions
    refine md_field H.e9 (md_field H.e9 (md_field H.e9 ?_))
    rw [hr]
    repeat first | refine bq_t (by decide) ?_ | refine bq_f (by decide) ?_
    refine fun x ex => ?_
    rw [H.e9, hf] at ex
    subst ex
    repeat first | refine bq_t (by decide) ?_ | refine bq_f (by decide) ?_
    try unfold wj_Md_fractions_170
    refine md_field H.e9 ?_
    repeat first | refine bq_t (by decide) ?_ | refine bq_f (by decide) ?_ | refine bq_f na ?_ | refine bq_f nb ?_ | refine bq_f nd ?_ | refine bq_t pa (md_ends H.e5 ?_) | refine bq_t pa (md_ends_n (show ¬ (8 : Int32) = 0 by decide) ?_) | refine bq_t pb (md_ends H.e5 ?_) | refine bq_t pb (md_ends_n (show ¬ (8 : Int32) = 0 by decide) ?_) | refine bq_t pd (md_ends H.e5 ?_) | refine bq_t pd (md_ends_n (show ¬ (8 : Int32) = 0 by decide) ?_)
    exact md_ends H.e5 hQ

theorem i_x22_s (H : pre mn g rg hq mf cd fg w dd bm rr kt) (ho : zz_ushr w 26 = 17) (hr : fI w 21 = 16) (hf : w &&& 63 = 22) : pfx ms mn g rg hq mf cd fg w dd bm rr kt := by
  refine pfx_mk H 3 (fun L O => (g, rg, hq, mf, cd, fg, L, O)) (fun dd l1 l2 => (upd dd 5 3, l1, l2, bm, rr, kt)) (fun L O P hP => ?_) (fun dd l1 l2 H L O => ⟨oc_end (by unfold q_e; simp) H.rel H.nxt rfl (fun j _ h => pk_un h), fun Q hQ => ?_⟩) (fun _ _ _ _ => rfl) (fun _ _ _ _ _ hs => ⟨by repeat first | exact hs | apply lo_upd, rfl, rfl, rfl⟩) (by first | exact Or.inr (fun _ _ => rfl) | exact Or.inl (by unfold q_e; decide)) (fun _ _ _ => rfl)
  · unfold wp_Pr_perform
    refine pr_op ?_
    rw [ho]
    repeat first | refine bq_t (by decide) ?_ | refine bq_f (by decide) ?_
    refine pr_rs ?_
    rw [hr]
    repeat first | refine bq_t (by decide) ?_ | refine bq_f (by decide) ?_
    refine pr_rt ⟨fI_in w 16, fun t et => ?_⟩
    subst et
    unfold wp_Fu_perform
    refine fun x ex => ?_
    have ex : x = 16 := ex.trans hr
    subst ex
    repeat first | refine bq_t (by decide) ?_ | refine bq_f (by decide) ?_
    refine fun y ey => ?_
    rw [hf] at ey
    subst ey
    repeat first | refine bq_t (by decide) ?_ | refine bq_f (by decide) ?_
    exact hP
  · unfold wp_Md_operate
    rw [ho]
    repeat first | refine bq_t (by decide) ?_ | refine bq_f (by decide) ?_
    unfold wp_Md_fractions
    refine md_field H.e9 (md_field H.e9 (md_field H.e9 ?_))
    rw [hr]
    repeat first | refine bq_t (by decide) ?_ | refine bq_f (by decide) ?_
    refine fun x ex => ?_
    rw [H.e9, hf] at ex
    subst ex
    repeat first | refine bq_t (by decide) ?_ | refine bq_f (by decide) ?_
    try unfold wj_Md_fractions_170
    refine md_field H.e9 ?_
    repeat first | refine bq_t (by decide) ?_ | refine bq_f (by decide) ?_ | refine bq_f na ?_ | refine bq_f nb ?_ | refine bq_f nd ?_ | refine bq_t pa (md_ends H.e5 ?_) | refine bq_t pa (md_ends_n (show ¬ (8 : Int32) = 0 by decide) ?_) | refine bq_t pb (md_ends H.e5 ?_) | refine bq_t pb (md_ends_n (show ¬ (8 : Int32) = 0 by decide) ?_) | refine bq_t pd (md_ends H.e5 ?_) | refine bq_t pd (md_ends_n (show ¬ (8 : Int32) = 0 by decide) ?_)
    exact md_ends H.e5 hQ

theorem i_x23_s (H : pre mn g rg hq mf cd fg w dd bm rr kt) (ho : zz_ushr w 26 = 17) (hr : fI w 21 = 16) (hf : w &&& 63 = 23) : pfx ms mn g rg hq mf cd fg w dd bm rr kt := by
  refine pfx_mk H 3 (fun L O => (g, rg, hq, mf, cd, fg, L, O)) (fun dd l1 l2 => (upd dd 5 3, l1, l2, bm, rr, kt)) (fun L O P hP => ?_) (fun dd l1 l2 H L O => ⟨oc_end (by unfold q_e; simp) H.rel H.nxt rfl (fun j _ h => pk_un h), fun Q hQ => ?_⟩) (fun _ _ _ _ => rfl) (fun _ _ _ _ _ hs => ⟨by repeat first | exact hs | apply lo_upd, rfl, rfl, rfl⟩) (by first | exact Or.inr (fun _ _ => rfl) | exact Or.inl (by unfold q_e; decide)) (fun _ _ _ => rfl)
  · unfold wp_Pr_perform
    refine pr_op ?_
    rw [ho]
    repeat first | refine bq_t (by decide) ?_ | refine bq_f (by decide) ?_
    refine pr_rs ?_
    rw [hr]
    repeat first | refine bq_t (by decide) ?_ | refine bq_f (by decide) ?_
    refine pr_rt ⟨fI_in w 16, fun t et => ?_⟩
    subst et
    unfold wp_Fu_perform
    refine fun x ex => ?_
    have ex : x = 16 := ex.trans hr
    subst ex
    repeat first | refine bq_t (by decide) ?_ | refine bq_f (by decide) ?_
    refine fun y ey => ?_
    rw [hf] at ey
    subst ey
    repeat first | refine bq_t (by decide) ?_ | refine bq_f (by decide) ?_
    exact hP
  · unfold wp_Md_operate
    rw [ho]
    repeat first | refine bq_t (by decide) ?_ | refine bq_f (by decide) ?_
    unfold wp_Md_fractions
    refine md_field H.e9 (md_field H.e9 (md_field H.e9 ?_))
    rw [hr]
    repeat first | refine bq_t (by decide) ?_ | refine bq_f (by decide) ?_
    refine fun x ex => ?_
    rw [H.e9, hf] at ex
    subst ex
    repeat first | refine bq_t (by decide) ?_ | refine bq_f (by decide) ?_
    try unfold wj_Md_fractions_170
    refine md_field H.e9 ?_
    repeat first | refine bq_t (by decide) ?_ | refine bq_f (by decide) ?_ | refine bq_f na ?_ | refine bq_f nb ?_ | refine bq_f nd ?_ | refine bq_t pa (md_ends H.e5 ?_) | refine bq_t pa (md_ends_n (show ¬ (8 : Int32) = 0 by decide) ?_) | refine bq_t pb (md_ends H.e5 ?_) | refine bq_t pb (md_ends_n (show ¬ (8 : Int32) = 0 by decide) ?_) | refine bq_t pd (md_ends H.e5 ?_) | refine bq_t pd (md_ends_n (show ¬ (8 : Int32) = 0 by decide) ?_)
    exact md_ends H.e5 hQ

theorem i_x24_s (H : pre mn g rg hq mf cd fg w dd bm rr kt) (ho : zz_ushr w 26 = 17) (hr : fI w 21 = 16) (hf : w &&& 63 = 24) : pfx ms mn g rg hq mf cd fg w dd bm rr kt := by
  refine pfx_mk H 3 (fun L O => (g, rg, hq, mf, cd, fg, L, O)) (fun dd l1 l2 => (upd dd 5 3, l1, l2, bm, rr, kt)) (fun L O P hP => ?_) (fun dd l1 l2 H L O => ⟨oc_end (by unfold q_e; simp) H.rel H.nxt rfl (fun j _ h => pk_un h), fun Q hQ => ?_⟩) (fun _ _ _ _ => rfl) (fun _ _ _ _ _ hs => ⟨by repeat first | exact hs | apply lo_upd, rfl, rfl, rfl⟩) (by first | exact Or.inr (fun _ _ => rfl) | exact Or.inl (by unfold q_e; decide)) (fun _ _ _ => rfl)
  · unfold wp_Pr_perform
    refine pr_op ?_
    rw [ho]
    repeat first | refine bq_t (by decide) ?_ | refine bq_f (by decide) ?_
    refine pr_rs ?_
    rw [hr]
    repeat first | refine bq_t (by decide) ?_ | refine bq_f (by decide) ?_
    refine pr_rt ⟨fI_in w 16, fun t et => ?_⟩
    subst et
    unfold wp_Fu_perform
    refine fun x ex => ?_
    have ex : x = 16 := ex.trans hr
    subst ex
    repeat first | refine bq_t (by decide) ?_ | refine bq_f (by decide) ?_
    refine fun y ey => ?_
    rw [hf] at ey
    subst ey
    repeat first | refine bq_t (by decide) ?_ | refine bq_f (by decide) ?_
    exact hP
  · unfold wp_Md_operate
    rw [ho]
    repeat first | refine bq_t (by decide) ?_ | refine bq_f (by decide) ?_
    unfold wp_Md_fractions
    refine md_field H.e9 (md_field H.e9 (md_field H.e9 ?_))
    rw [hr]
    repeat first | refine bq_t (by decide) ?_ | refine bq_f (by decide) ?_
    refine fun x ex => ?_
    rw [H.e9, hf] at ex
    subst ex
    repeat first | refine bq_t (by decide) ?_ | refine bq_f (by decide) ?_
    try unfold wj_Md_fractions_170
    refine md_field H.e9 ?_
    repeat first | refine bq_t (by decide) ?_ | refine bq_f (by decide) ?_ | refine bq_f na ?_ | refine bq_f nb ?_ | refine bq_f nd ?_ | refine bq_t pa (md_ends H.e5 ?_) | refine bq_t pa (md_ends_n (show ¬ (8 : Int32) = 0 by decide) ?_) | refine bq_t pb (md_ends H.e5 ?_) | refine bq_t pb (md_ends_n (show ¬ (8 : Int32) = 0 by decide) ?_) | refine bq_t pd (md_ends H.e5 ?_) | refine bq_t pd (md_ends_n (show ¬ (8 : Int32) = 0 by decide) ?_)
    exact md_ends H.e5 hQ

theorem i_x25_s (H : pre mn g rg hq mf cd fg w dd bm rr kt) (ho : zz_ushr w 26 = 17) (hr : fI w 21 = 16) (hf : w &&& 63 = 25) : pfx ms mn g rg hq mf cd fg w dd bm rr kt := by
  refine pfx_mk H 3 (fun L O => (g, rg, hq, mf, cd, fg, L, O)) (fun dd l1 l2 => (upd dd 5 3, l1, l2, bm, rr, kt)) (fun L O P hP => ?_) (fun dd l1 l2 H L O => ⟨oc_end (by unfold q_e; simp) H.rel H.nxt rfl (fun j _ h => pk_un h), fun Q hQ => ?_⟩) (fun _ _ _ _ => rfl) (fun _ _ _ _ _ hs => ⟨by repeat first | exact hs | apply lo_upd, rfl, rfl, rfl⟩) (by first | exact Or.inr (fun _ _ => rfl) | exact Or.inl (by unfold q_e; decide)) (fun _ _ _ => rfl)
  · unfold wp_Pr_perform
    refine pr_op ?_
    rw [ho]
    repeat first | refine bq_t (by decide) ?_ | refine bq_f (by decide) ?_
    refine pr_rs ?_
    rw [hr]
    repeat first | refine bq_t (by decide) ?_ | refine bq_f (by decide) ?_
    refine pr_rt ⟨fI_in w 16, fun t et => ?_⟩
    subst et
    unfold wp_Fu_perform
    refine fun x ex => ?_
    have ex : x = 16 := ex.trans hr
    subst ex
    repeat first | refine bq_t (by decide) ?_ | refine bq_f (by decide) ?_
    refine fun y ey => ?_
    rw [hf] at ey
    subst ey
    repeat first | refine bq_t (by decide) ?_ | refine bq_f (by decide) ?_
    exact hP
  · unfold wp_Md_operate
    rw [ho]
    repeat first | refine bq_t (by decide) ?_ | refine bq_f (by decide) ?_
    unfold wp_Md_fractions
    refine md_field H.e9 (md_field H.e9 (md_field H.e9 ?_))
    rw [hr]
    repeat first | refine bq_t (by decide) ?_ | refine bq_f (by decide) ?_
    refine fun x ex => ?_
    rw [H.e9, hf] at ex
    subst ex
    repeat first | refine bq_t (by decide) ?_ | refine bq_f (by decide) ?_
    try unfold wj_Md_fractions_170
    refine md_field H.e9 ?_
    repeat first | refine bq_t (by decide) ?_ | refine bq_f (by decide) ?_ | refine bq_f na ?_ | refine bq_f nb ?_ | refine bq_f nd ?_ | refine bq_t pa (md_ends H.e5 ?_) | refine bq_t pa (md_ends_n (show ¬ (8 : Int32) = 0 by decide) ?_) | refine bq_t pb (md_ends H.e5 ?_) | refine bq_t pb (md_ends_n (show ¬ (8 : Int32) = 0 by decide) ?_) | refine bq_t pd (md_ends H.e5 ?_) | refine bq_t pd (md_ends_n (show ¬ (8 : Int32) = 0 by decide) ?_)
    exact md_ends H.e5 hQ

theorem i_x26_s (H : pre mn g rg hq mf cd fg w dd bm rr kt) (ho : zz_ushr w 26 = 17) (hr : fI w 21 = 16) (hf : w &&& 63 = 26) : pfx ms mn g rg hq mf cd fg w dd bm rr kt := by
  refine pfx_mk H 3 (fun L O => (g, rg, hq, mf, cd, fg, L, O)) (fun dd l1 l2 => (upd dd 5 3, l1, l2, bm, rr, kt)) (fun L O P hP => ?_) (fun dd l1 l2 H L O => ⟨oc_end (by unfold q_e; simp) H.rel H.nxt rfl (fun j _ h => pk_un h), fun Q hQ => ?_⟩) (fun _ _ _ _ => rfl) (fun _ _ _ _ _ hs => ⟨by repeat first | exact hs | apply lo_upd, rfl, rfl, rfl⟩) (by first | exact Or.inr (fun _ _ => rfl) | exact Or.inl (by unfold q_e; decide)) (fun _ _ _ => rfl)
  · unfold wp_Pr_perform
    refine pr_op ?_
    rw [ho]
    repeat first | refine bq_t (by decide) ?_ | refine bq_f (by decide) ?_
    refine pr_rs ?_
    rw [hr]
    repeat first | refine bq_t (by decide) ?_ | refine bq_f (by decide) ?_
    refine pr_rt ⟨fI_in w 16, fun t et => ?_⟩
    subst et
    unfold wp_Fu_perform
    refine fun x ex => ?_
    have ex : x = 16 := ex.trans hr
    subst ex
    repeat first | refine bq_t (by decide) ?_ | refine bq_f (by decide) ?_
    refine fun y ey => ?_
    rw [hf] at ey
    subst ey
    repeat first | refine bq_t (by decide) ?_ | refine bq_f (by decide) ?_
    exact hP
  · unfold wp_Md_operate
    rw [ho]
    repeat first | refine bq_t (by decide) ?_ | refine bq_f (by decide) ?_
    unfold wp_Md_fractions
    refine md_field H.e9 (md_field H.e9 (md_field H.e9 ?_))
    rw [hr]
    repeat first | refine bq_t (by decide) ?_ | refine bq_f (by decide) ?_
    refine fun x ex => ?_
    rw [H.e9, hf] at ex
    subst ex
    repeat first | refine bq_t (by decide) ?_ | refine bq_f (by decide) ?_
    try unfold wj_Md_fractions_170
    refine md_field H.e9 ?_
    repeat first | refine bq_t (by decide) ?_ | refine bq_f (by decide) ?_ | refine bq_f na ?_ | refine bq_f nb ?_ | refine bq_f nd ?_ | refine bq_t pa (md_ends H.e5 ?_) | refine bq_t pa (md_ends_n (show ¬ (8 : Int32) = 0 by decide) ?_) | refine bq_t pb (md_ends H.e5 ?_) | refine bq_t pb (md_ends_n (show ¬ (8 : Int32) = 0 by decide) ?_) | refine bq_t pd (md_ends H.e5 ?_) | refine bq_t pd (md_ends_n (show ¬ (8 : Int32) = 0 by decide) ?_)
    exact md_ends H.e5 hQ

theorem i_x27_s (H : pre mn g rg hq mf cd fg w dd bm rr kt) (ho : zz_ushr w 26 = 17) (hr : fI w 21 = 16) (hf : w &&& 63 = 27) : pfx ms mn g rg hq mf cd fg w dd bm rr kt := by
  refine pfx_mk H 3 (fun L O => (g, rg, hq, mf, cd, fg, L, O)) (fun dd l1 l2 => (upd dd 5 3, l1, l2, bm, rr, kt)) (fun L O P hP => ?_) (fun dd l1 l2 H L O => ⟨oc_end (by unfold q_e; simp) H.rel H.nxt rfl (fun j _ h => pk_un h), fun Q hQ => ?_⟩) (fun _ _ _ _ => rfl) (fun _ _ _ _ _ hs => ⟨by repeat first | exact hs | apply lo_upd, rfl, rfl, rfl⟩) (by first | exact Or.inr (fun _ _ => rfl) | exact Or.inl (by unfold q_e; decide)) (fun _ _ _ => rfl)
  · unfold wp_Pr_perform
    refine pr_op ?_
    rw [ho]
    repeat first | refine bq_t (by decide) ?_ | refine bq_f (by decide) ?_
    refine pr_rs ?_
    rw [hr]
    repeat first | refine bq_t (by decide) ?_ | refine bq_f (by decide) ?_
    refine pr_rt ⟨fI_in w 16, fun t et => ?_⟩
    subst et
    unfold wp_Fu_perform
    refine fun x ex => ?_
    have ex : x = 16 := ex.trans hr
    subst ex
    repeat first | refine bq_t (by decide) ?_ | refine bq_f (by decide) ?_
    refine fun y ey => ?_
    rw [hf] at ey
    subst ey
    repeat first | refine bq_t (by decide) ?_ | refine bq_f (by decide) ?_
    exact hP
  · unfold wp_Md_operate
    rw [ho]
    repeat first | refine bq_t (by decide) ?_ | refine bq_f (by decide) ?_
    unfold wp_Md_fractions
    refine md_field H.e9 (md_field H.e9 (md_field H.e9 ?_))
    rw [hr]
    repeat first | refine bq_t (by decide) ?_ | refine bq_f (by decide) ?_
    refine fun x ex => ?_
    rw [H.e9, hf] at ex
    subst ex
    repeat first | refine bq_t (by decide) ?_ | refine bq_f (by decide) ?_
    try unfold wj_Md_fractions_170
    refine md_field H.e9 ?_
    repeat first | refine bq_t (by decide) ?_ | refine bq_f (by decide) ?_ | refine bq_f na ?_ | refine bq_f nb ?_ | refine bq_f nd ?_ | refine bq_t pa (md_ends H.e5 ?_) | refine bq_t pa (md_ends_n (show ¬ (8 : Int32) = 0 by decide) ?_) | refine bq_t pb (md_ends H.e5 ?_) | refine bq_t pb (md_ends_n (show ¬ (8 : Int32) = 0 by decide) ?_) | refine bq_t pd (md_ends H.e5 ?_) | refine bq_t pd (md_ends_n (show ¬ (8 : Int32) = 0 by decide) ?_)
    exact md_ends H.e5 hQ

theorem i_x28_s (H : pre mn g rg hq mf cd fg w dd bm rr kt) (ho : zz_ushr w 26 = 17) (hr : fI w 21 = 16) (hf : w &&& 63 = 28) : pfx ms mn g rg hq mf cd fg w dd bm rr kt := by
  refine pfx_mk H 3 (fun L O => (g, rg, hq, mf, cd, fg, L, O)) (fun dd l1 l2 => (upd dd 5 3, l1, l2, bm, rr, kt)) (fun L O P hP => ?_) (fun dd l1 l2 H L O => ⟨oc_end (by unfold q_e; simp) H.rel H.nxt rfl (fun j _ h => pk_un h), fun Q hQ => ?_⟩) (fun _ _ _ _ => rfl) (fun _ _ _ _ _ hs => ⟨by repeat first | exact hs | apply lo_upd, rfl, rfl, rfl⟩) (by first | exact Or.inr (fun _ _ => rfl) | exact Or.inl (by unfold q_e; decide)) (fun _ _ _ => rfl)
  · unfold wp_Pr_perform
    refine pr_op ?_
    rw [ho]
    repeat first | refine bq_t (by decide) ?_ | refine bq_f (by decide) ?_
    refine pr_rs ?_
    rw [hr]
    repeat first | refine bq_t (by decide) ?_ | refine bq_f (by decide) ?_
    refine pr_rt ⟨fI_in w 16, fun t et => ?_⟩
    subst et
    unfold wp_Fu_perform
    refine fun x ex => ?_
    have ex : x = 16 := ex.trans hr
    subst ex
    repeat first | refine bq_t (by decide) ?_ | refine bq_f (by decide) ?_
    refine fun y ey => ?_
    rw [hf] at ey
    subst ey
    repeat first | refine bq_t (by decide) ?_ | refine bq_f (by decide) ?_
    exact hP
  · unfold wp_Md_operate
    rw [ho]
    repeat first | refine bq_t (by decide) ?_ | refine bq_f (by decide) ?_
    unfold wp_Md_fractions
    refine md_field H.e9 (md_field H.e9 (md_field H.e9 ?_))
    rw [hr]
    repeat first | refine bq_t (by decide) ?_ | refine bq_f (by decide) ?_
    refine fun x ex => ?_
    rw [H.e9, hf] at ex
    subst ex
    repeat first | refine bq_t (by decide) ?_ | refine bq_f (by decide) ?_
    try unfold wj_Md_fractions_170
    refine md_field H.e9 ?_
    repeat first | refine bq_t (by decide) ?_ | refine bq_f (by decide) ?_ | refine bq_f na ?_ | refine bq_f nb ?_ | refine bq_f nd ?_ | refine bq_t pa (md_ends H.e5 ?_) | refine bq_t pa (md_ends_n (show ¬ (8 : Int32) = 0 by decide) ?_) | refine bq_t pb (md_ends H.e5 ?_) | refine bq_t pb (md_ends_n (show ¬ (8 : Int32) = 0 by decide) ?_) | refine bq_t pd (md_ends H.e5 ?_) | refine bq_t pd (md_ends_n (show ¬ (8 : Int32) = 0 by decide) ?_)
    exact md_ends H.e5 hQ

theorem i_x29_s (H : pre mn g rg hq mf cd fg w dd bm rr kt) (ho : zz_ushr w 26 = 17) (hr : fI w 21 = 16) (hf : w &&& 63 = 29) : pfx ms mn g rg hq mf cd fg w dd bm rr kt := by
  refine pfx_mk H 3 (fun L O => (g, rg, hq, mf, cd, fg, L, O)) (fun dd l1 l2 => (upd dd 5 3, l1, l2, bm, rr, kt)) (fun L O P hP => ?_) (fun dd l1 l2 H L O => ⟨oc_end (by unfold q_e; simp) H.rel H.nxt rfl (fun j _ h => pk_un h), fun Q hQ => ?_⟩) (fun _ _ _ _ => rfl) (fun _ _ _ _ _ hs => ⟨by repeat first | exact hs | apply lo_upd, rfl, rfl, rfl⟩) (by first | exact Or.inr (fun _ _ => rfl) | exact Or.inl (by unfold q_e; decide)) (fun _ _ _ => rfl)
  · unfold wp_Pr_perform
    refine pr_op ?_
    rw [ho]
    repeat first | refine bq_t (by decide) ?_ | refine bq_f (by decide) ?_
    refine pr_rs ?_
    rw [hr]
    repeat first | refine bq_t (by decide) ?_ | refine bq_f (by decide) ?_
    refine pr_rt ⟨fI_in w 16, fun t et => ?_⟩
    subst et
    unfold wp_Fu_perform
    refine fun x ex => ?_
    have ex : x = 16 := ex.trans hr
    subst ex
    repeat first | refine bq_t (by decide) ?_ | refine bq_f (by decide) ?_
    refine fun y ey => ?_
    rw [hf] at ey
    subst ey
    repeat first | refine bq_t (by decide) ?_ | refine bq_f (by decide) ?_
    exact hP
  · unfold wp_Md_operate
    rw [ho]
    repeat first | refine bq_t (by decide) ?_ | refine bq_f (by decide) ?_
    unfold wp_Md_fractions
    refine md_field H.e9 (md_field H.e9 (md_field H.e9 ?_))
    rw [hr]
    repeat first | refine bq_t (by decide) ?_ | refine bq_f (by decide) ?_
    refine fun x ex => ?_
    rw [H.e9, hf] at ex
    subst ex
    repeat first | refine bq_t (by decide) ?_ | refine bq_f (by decide) ?_
    try unfold wj_Md_fractions_170
    refine md_field H.e9 ?_
    repeat first | refine bq_t (by decide) ?_ | refine bq_f (by decide) ?_ | refine bq_f na ?_ | refine bq_f nb ?_ | refine bq_f nd ?_ | refine bq_t pa (md_ends H.e5 ?_) | refine bq_t pa (md_ends_n (show ¬ (8 : Int32) = 0 by decide) ?_) | refine bq_t pb (md_ends H.e5 ?_) | refine bq_t pb (md_ends_n (show ¬ (8 : Int32) = 0 by decide) ?_) | refine bq_t pd (md_ends H.e5 ?_) | refine bq_t pd (md_ends_n (show ¬ (8 : Int32) = 0 by decide) ?_)
    exact md_ends H.e5 hQ

theorem i_x30_s (H : pre mn g rg hq mf cd fg w dd bm rr kt) (ho : zz_ushr w 26 = 17) (hr : fI w 21 = 16) (hf : w &&& 63 = 30) : pfx ms mn g rg hq mf cd fg w dd bm rr kt := by
  refine pfx_mk H 3 (fun L O => (g, rg, hq, mf, cd, fg, L, O)) (fun dd l1 l2 => (upd dd 5 3, l1, l2, bm, rr, kt)) (fun L O P hP => ?_) (fun dd l1 l2 H L O => ⟨oc_end (by unfold q_e; simp) H.rel H.nxt rfl (fun j _ h => pk_un h), fun Q hQ => ?_⟩) (fun _ _ _ _ => rfl) (fun _ _ _ _ _ hs => ⟨by repeat first | exact hs | apply lo_upd, rfl, rfl, rfl⟩) (by first | exact Or.inr (fun _ _ => rfl) | exact Or.inl (by unfold q_e; decide)) (fun _ _ _ => rfl)
  · unfold wp_Pr_perform
    refine pr_op ?_
    rw [ho]
    repeat first | refine bq_t (by decide) ?_ | refine bq_f (by decide) ?_
    refine pr_rs ?_
    rw [hr]
    repeat first | refine bq_t (by decide) ?_ | refine bq_f (by decide) ?_
    refine pr_rt ⟨fI_in w 16, fun t et => ?_⟩
    subst et
    unfold wp_Fu_perform
    refine fun x ex => ?_
    have ex : x = 16 := ex.trans hr
    subst ex
    repeat first | refine bq_t (by decide) ?_ | refine bq_f (by decide) ?_
    refine fun y ey => ?_
    rw [hf] at ey
    subst ey
    repeat first | refine bq_t (by decide) ?_ | refine bq_f (by decide) ?_
    exact hP
  · unfold wp_Md_operate
    rw [ho]
    repeat first | refine bq_t (by decide) ?_ | refine bq_f (by decide) ?_
    unfold wp_Md_fractions
    refine md_field H.e9 (md_field H.e9 (md_field H.e9 ?_))
    rw [hr]
    repeat first | refine bq_t (by decide) ?_ | refine bq_f (by decide) ?_
    refine fun x ex => ?_
    rw [H.e9, hf] at ex
    subst ex
    repeat first | refine bq_t (by decide) ?_ | refine bq_f (by decide) ?_
    try unfold wj_Md_fractions_170
    refine md_field H.e9 ?_
    repeat first | refine bq_t (by decide) ?_ | refine bq_f (by decide) ?_ | refine bq_f na ?_ | refine bq_f nb ?_ | refine bq_f nd ?_ | refine bq_t pa (md_ends H.e5 ?_) | refine bq_t pa (md_ends_n (show ¬ (8 : Int32) = 0 by decide) ?_) | refine bq_t pb (md_ends H.e5 ?_) | refine bq_t pb (md_ends_n (show ¬ (8 : Int32) = 0 by decide) ?_) | refine bq_t pd (md_ends H.e5 ?_) | refine bq_t pd (md_ends_n (show ¬ (8 : Int32) = 0 by decide) ?_)
    exact md_ends H.e5 hQ

theorem i_x31_s (H : pre mn g rg hq mf cd fg w dd bm rr kt) (ho : zz_ushr w 26 = 17) (hr : fI w 21 = 16) (hf : w &&& 63 = 31) : pfx ms mn g rg hq mf cd fg w dd bm rr kt := by
  refine pfx_mk H 3 (fun L O => (g, rg, hq, mf, cd, fg, L, O)) (fun dd l1 l2 => (upd dd 5 3, l1, l2, bm, rr, kt)) (fun L O P hP => ?_) (fun dd l1 l2 H L O => ⟨oc_end (by unfold q_e; simp) H.rel H.nxt rfl (fun j _ h => pk_un h), fun Q hQ => ?_⟩) (fun _ _ _ _ => rfl) (fun _ _ _ _ _ hs => ⟨by repeat first | exact hs | apply lo_upd, rfl, rfl, rfl⟩) (by first | exact Or.inr (fun _ _ => rfl) | exact Or.inl (by unfold q_e; decide)) (fun _ _ _ => rfl)
  · unfold wp_Pr_perform
    refine pr_op ?_
    rw [ho]
    repeat first | refine bq_t (by decide) ?_ | refine bq_f (by decide) ?_
    refine pr_rs ?_
    rw [hr]
    repeat first | refine bq_t (by decide) ?_ | refine bq_f (by decide) ?_
    refine pr_rt ⟨fI_in w 16, fun t et => ?_⟩
    subst et
    unfold wp_Fu_perform
    refine fun x ex => ?_
    have ex : x = 16 := ex.trans hr
    subst ex
    repeat first | refine bq_t (by decide) ?_ | refine bq_f (by decide) ?_
    refine fun y ey => ?_
    rw [hf] at ey
    subst ey
    repeat first | refine bq_t (by decide) ?_ | refine bq_f (by decide) ?_
    exact hP
  · unfold wp_Md_operate
    rw [ho]
    repeat first | refine bq_t (by decide) ?_ | refine bq_f (by decide) ?_
    unfold wp_Md_fractions
    refine md_field H.e9 (md_field H.e9 (md_field H.e9 ?_))
    rw [hr]
    repeat first | refine bq_t (by decide) ?_ | refine bq_f (by decide) ?_
    refine fun x ex => ?_
    rw [H.e9, hf] at ex
    subst ex
    repeat first | refine bq_t (by decide) ?_ | refine bq_f (by decide) ?_
    try unfold wj_Md_fractions_170
    refine md_field H.e9 ?_
    repeat first | refine bq_t (by decide) ?_ | refine bq_f (by decide) ?_ | refine bq_f na ?_ | refine bq_f nb ?_ | refine bq_f nd ?_ | refine bq_t pa (md_ends H.e5 ?_) | refine bq_t pa (md_ends_n (show ¬ (8 : Int32) = 0 by decide) ?_) | refine bq_t pb (md_ends H.e5 ?_) | refine bq_t pb (md_ends_n (show ¬ (8 : Int32) = 0 by decide) ?_) | refine bq_t pd (md_ends H.e5 ?_) | refine bq_t pd (md_ends_n (show ¬ (8 : Int32) = 0 by decide) ?_)
    exact md_ends H.e5 hQ

theorem i_x32_s (H : pre mn g rg hq mf cd fg w dd bm rr kt) (ho : zz_ushr w 26 = 17) (hr : fI w 21 = 16) (hf : w &&& 63 = 32) : pfx ms mn g rg hq mf cd fg w dd bm rr kt := by
  refine pfx_mk H 3 (fun L O => (g, rg, hq, mf, cd, fg, L, O)) (fun dd l1 l2 => (upd dd 5 3, l1, l2, bm, rr, kt)) (fun L O P hP => ?_) (fun dd l1 l2 H L O => ⟨oc_end (by unfold q_e; simp) H.rel H.nxt rfl (fun j _ h => pk_un h), fun Q hQ => ?_⟩) (fun _ _ _ _ => rfl) (fun _ _ _ _ _ hs => ⟨by repeat first | exact hs | apply lo_upd, rfl, rfl, rfl⟩) (by first | exact Or.inr (fun _ _ => rfl) | exact Or.inl (by unfold q_e; decide)) (fun _ _ _ => rfl)
  · unfold wp_Pr_perform
    refine pr_op ?_
    rw [ho]
    repeat first | refine bq_t (by decide) ?_ | refine bq_f (by decide) ?_
    refine pr_rs ?_
    rw [hr]
    repeat first | refine bq_t (by decide) ?_ | refine bq_f (by decide) ?_
    refine pr_rt ⟨fI_in w 16, fun t et => ?_⟩
    subst et
    unfold wp_Fu_perform
    refine fun x ex => ?_
    have ex : x = 16 := ex.trans hr
    subst ex
    repeat first | refine bq_t (by decide) ?_ | refine bq_f (by decide) ?_
    refine fun y ey => ?_
    rw [hf] at ey
    subst ey
    repeat first | refine bq_t (by decide) ?_ | refine bq_f (by decide) ?_
    exact hP
  · unfold wp_Md_operate
    rw [ho]
    repeat first | refine bq_t (by decide) ?_ | refine bq_f (by decide) ?_
    unfold wp_Md_fractions
    refine md_field H.e9 (md_field H.e9 (md_field H.e9 ?_))
    rw [hr]
    repeat first | refine bq_t (by decide) ?_ | refine bq_f (by decide) ?_
    refine fun x ex => ?_
    rw [H.e9, hf] at ex
    subst ex
    repeat first | refine bq_t (by decide) ?_ | refine bq_f (by decide) ?_
    try unfold wj_Md_fractions_170
    refine md_field H.e9 ?_
    repeat first | refine bq_t (by decide) ?_ | refine bq_f (by decide) ?_ | refine bq_f na ?_ | refine bq_f nb ?_ | refine bq_f nd ?_ | refine bq_t pa (md_ends H.e5 ?_) | refine bq_t pa (md_ends_n (show ¬ (8 : Int32) = 0 by decide) ?_) | refine bq_t pb (md_ends H.e5 ?_) | refine bq_t pb (md_ends_n (show ¬ (8 : Int32) = 0 by decide) ?_) | refine bq_t pd (md_ends H.e5 ?_) | refine bq_t pd (md_ends_n (show ¬ (8 : Int32) = 0 by decide) ?_)
    exact md_ends H.e5 hQ

theorem i_x34_s (H : pre mn g rg hq mf cd fg w dd bm rr kt) (ho : zz_ushr w 26 = 17) (hr : fI w 21 = 16) (hf : w &&& 63 = 34) : pfx ms mn g rg hq mf cd fg w dd bm rr kt := by
  refine pfx_mk H 3 (fun L O => (g, rg, hq, mf, cd, fg, L, O)) (fun dd l1 l2 => (upd dd 5 3, l1, l2, bm, rr, kt)) (fun L O P hP => ?_) (fun dd l1 l2 H L O => ⟨oc_end (by unfold q_e; simp) H.rel H.nxt rfl (fun j _ h => pk_un h), fun Q hQ => ?_⟩) (fun _ _ _ _ => rfl) (fun _ _ _ _ _ hs => ⟨by repeat first | exact hs | apply lo_upd, rfl, rfl, rfl⟩) (by first | exact Or.inr (fun _ _ => rfl) | exact Or.inl (by unfold q_e; decide)) (fun _ _ _ => rfl)
  · unfold wp_Pr_perform
    refine pr_op ?_
    rw [ho]
    repeat first | refine bq_t (by decide) ?_ | refine bq_f (by decide) ?_
    refine pr_rs ?_
    rw [hr]
    repeat first | refine bq_t (by decide) ?_ | refine bq_f (by decide) ?_
    refine pr_rt ⟨fI_in w 16, fun t et => ?_⟩
    subst et
    unfold wp_Fu_perform
    refine fun x ex => ?_
    have ex : x = 16 := ex.trans hr
    subst ex
    repeat first | refine bq_t (by decide) ?_ | refine bq_f (by decide) ?_
    refine fun y ey => ?_
    rw [hf] at ey
    subst ey
    repeat first | refine bq_t (by decide) ?_ | refine bq_f (by decide) ?_
    exact hP
  · unfold wp_Md_operate
    rw [ho]
    repeat first | refine bq_t (by decide) ?_ | refine bq_f (by decide) ?_
    unfold wp_Md_fractions
    refine md_field H.e9 (md_field H.e9 (md_field H.e9 ?_))
    rw [hr]
    repeat first | refine bq_t (by decide) ?_ | refine bq_f (by decide) ?_
    refine fun x ex => ?_
    rw [H.e9, hf] at ex
    subst ex
    repeat first | refine bq_t (by decide) ?_ | refine bq_f (by decide) ?_
    try unfold wj_Md_fractions_170
    refine md_field H.e9 ?_
    repeat first | refine bq_t (by decide) ?_ | refine bq_f (by decide) ?_ | refine bq_f na ?_ | refine bq_f nb ?_ | refine bq_f nd ?_ | refine bq_t pa (md_ends H.e5 ?_) | refine bq_t pa (md_ends_n (show ¬ (8 : Int32) = 0 by decide) ?_) | refine bq_t pb (md_ends H.e5 ?_) | refine bq_t pb (md_ends_n (show ¬ (8 : Int32) = 0 by decide) ?_) | refine bq_t pd (md_ends H.e5 ?_) | refine bq_t pd (md_ends_n (show ¬ (8 : Int32) = 0 by decide) ?_)
    exact md_ends H.e5 hQ

theorem i_x35_s (H : pre mn g rg hq mf cd fg w dd bm rr kt) (ho : zz_ushr w 26 = 17) (hr : fI w 21 = 16) (hf : w &&& 63 = 35) : pfx ms mn g rg hq mf cd fg w dd bm rr kt := by
  refine pfx_mk H 3 (fun L O => (g, rg, hq, mf, cd, fg, L, O)) (fun dd l1 l2 => (upd dd 5 3, l1, l2, bm, rr, kt)) (fun L O P hP => ?_) (fun dd l1 l2 H L O => ⟨oc_end (by unfold q_e; simp) H.rel H.nxt rfl (fun j _ h => pk_un h), fun Q hQ => ?_⟩) (fun _ _ _ _ => rfl) (fun _ _ _ _ _ hs => ⟨by repeat first | exact hs | apply lo_upd, rfl, rfl, rfl⟩) (by first | exact Or.inr (fun _ _ => rfl) | exact Or.inl (by unfold q_e; decide)) (fun _ _ _ => rfl)
  · unfold wp_Pr_perform
    refine pr_op ?_
    rw [ho]
    repeat first | refine bq_t (by decide) ?_ | refine bq_f (by decide) ?_
    refine pr_rs ?_
    rw [hr]
    repeat first | refine bq_t (by decide) ?_ | refine bq_f (by decide) ?_
    refine pr_rt ⟨fI_in w 16, fun t et => ?_⟩
    subst et
    unfold wp_Fu_perform
    refine fun x ex => ?_
    have ex : x = 16 := ex.trans hr
    subst ex
    repeat first | refine bq_t (by decide) ?_ | refine bq_f (by decide) ?_
    refine fun y ey => ?_
    rw [hf] at ey
    subst ey
    repeat first | refine bq_t (by decide) ?_ | refine bq_f (by decide) ?_
    exact hP
  · unfold wp_Md_operate
    rw [ho]
    repeat first | refine bq_t (by decide) ?_ | refine bq_f (by decide) ?_
    unfold wp_Md_fractions
    refine md_field H.e9 (md_field H.e9 (md_field H.e9 ?_))
    rw [hr]
    repeat first | refine bq_t (by decide) ?_ | refine bq_f (by decide) ?_
    refine fun x ex => ?_
    rw [H.e9, hf] at ex
    subst ex
    repeat first | refine bq_t (by decide) ?_ | refine bq_f (by decide) ?_
    try unfold wj_Md_fractions_170
    refine md_field H.e9 ?_
    repeat first | refine bq_t (by decide) ?_ | refine bq_f (by decide) ?_ | refine bq_f na ?_ | refine bq_f nb ?_ | refine bq_f nd ?_ | refine bq_t pa (md_ends H.e5 ?_) | refine bq_t pa (md_ends_n (show ¬ (8 : Int32) = 0 by decide) ?_) | refine bq_t pb (md_ends H.e5 ?_) | refine bq_t pb (md_ends_n (show ¬ (8 : Int32) = 0 by decide) ?_) | refine bq_t pd (md_ends H.e5 ?_) | refine bq_t pd (md_ends_n (show ¬ (8 : Int32) = 0 by decide) ?_)
    exact md_ends H.e5 hQ

theorem i_x37_s (H : pre mn g rg hq mf cd fg w dd bm rr kt) (ho : zz_ushr w 26 = 17) (hr : fI w 21 = 16) (hf : w &&& 63 = 37) : pfx ms mn g rg hq mf cd fg w dd bm rr kt := by
  refine pfx_mk H 3 (fun L O => (g, rg, hq, mf, cd, fg, L, O)) (fun dd l1 l2 => (upd dd 5 3, l1, l2, bm, rr, kt)) (fun L O P hP => ?_) (fun dd l1 l2 H L O => ⟨oc_end (by unfold q_e; simp) H.rel H.nxt rfl (fun j _ h => pk_un h), fun Q hQ => ?_⟩) (fun _ _ _ _ => rfl) (fun _ _ _ _ _ hs => ⟨by repeat first | exact hs | apply lo_upd, rfl, rfl, rfl⟩) (by first | exact Or.inr (fun _ _ => rfl) | exact Or.inl (by unfold q_e; decide)) (fun _ _ _ => rfl)
  · unfold wp_Pr_perform
    refine pr_op ?_
    rw [ho]
    repeat first | refine bq_t (by decide) ?_ | refine bq_f (by decide) ?_
    refine pr_rs ?_
    rw [hr]
    repeat first | refine bq_t (by decide) ?_ | refine bq_f (by decide) ?_
    refine pr_rt ⟨fI_in w 16, fun t et => ?_⟩
    subst et
    unfold wp_Fu_perform
    refine fun x ex => ?_
    have ex : x = 16 := ex.trans hr
    subst ex
    repeat first | refine bq_t (by decide) ?_ | refine bq_f (by decide) ?_
    refine fun y ey => ?_
    rw [hf] at ey
    subst ey
    repeat first | refine bq_t (by decide) ?_ | refine bq_f (by decide) ?_
    exact hP
  · unfold wp_Md_operate
    rw [ho]
    repeat first | refine bq_t (by decide) ?_ | refine bq_f (by decide) ?_
    unfold wp_Md_fractions
    refine md_field H.e9 (md_field H.e9 (md_field H.e9 ?_))
    rw [hr]
    repeat first | refine bq_t (by decide) ?_ | refine bq_f (by decide) ?_
    refine fun x ex => ?_
    rw [H.e9, hf] at ex
    subst ex
    repeat first | refine bq_t (by decide) ?_ | refine bq_f (by decide) ?_
    try unfold wj_Md_fractions_170
    refine md_field H.e9 ?_
    repeat first | refine bq_t (by decide) ?_ | refine bq_f (by decide) ?_ | refine bq_f na ?_ | refine bq_f nb ?_ | refine bq_f nd ?_ | refine bq_t pa (md_ends H.e5 ?_) | refine bq_t pa (md_ends_n (show ¬ (8 : Int32) = 0 by decide) ?_) | refine bq_t pb (md_ends H.e5 ?_) | refine bq_t pb (md_ends_n (show ¬ (8 : Int32) = 0 by decide) ?_) | refine bq_t pd (md_ends H.e5 ?_) | refine bq_t pd (md_ends_n (show ¬ (8 : Int32) = 0 by decide) ?_)
    exact md_ends H.e5 hQ

theorem i_x38_s (H : pre mn g rg hq mf cd fg w dd bm rr kt) (ho : zz_ushr w 26 = 17) (hr : fI w 21 = 16) (hf : w &&& 63 = 38) : pfx ms mn g rg hq mf cd fg w dd bm rr kt := by
  refine pfx_mk H 3 (fun L O => (g, rg, hq, mf, cd, fg, L, O)) (fun dd l1 l2 => (upd dd 5 3, l1, l2, bm, rr, kt)) (fun L O P hP => ?_) (fun dd l1 l2 H L O => ⟨oc_end (by unfold q_e; simp) H.rel H.nxt rfl (fun j _ h => pk_un h), fun Q hQ => ?_⟩) (fun _ _ _ _ => rfl) (fun _ _ _ _ _ hs => ⟨by repeat first | exact hs | apply lo_upd, rfl, rfl, rfl⟩) (by first | exact Or.inr (fun _ _ => rfl) | exact Or.inl (by unfold q_e; decide)) (fun _ _ _ => rfl)
  · unfold wp_Pr_perform
    refine pr_op ?_
    rw [ho]
    repeat first | refine bq_t (by decide) ?_ | refine bq_f (by decide) ?_
    refine pr_rs ?_
    rw [hr]
    repeat first | refine bq_t (by decide) ?_ | refine bq_f (by decide) ?_
    refine pr_rt ⟨fI_in w 16, fun t et => ?_⟩
    subst et
    unfold wp_Fu_perform
    refine fun x ex => ?_
    have ex : x = 16 := ex.trans hr
    subst ex
    repeat first | refine bq_t (by decide) ?_ | refine bq_f (by decide) ?_
    refine fun y ey => ?_
    rw [hf] at ey
    subst ey
    repeat first | refine bq_t (by decide) ?_ | refine bq_f (by decide) ?_
    exact hP
  · unfold wp_Md_operate
    rw [ho]
    repeat first | refine bq_t (by decide) ?_ | refine bq_f (by decide) ?_
    unfold wp_Md_fractions
    refine md_field H.e9 (md_field H.e9 (md_field H.e9 ?_))
    rw [hr]
    repeat first | refine bq_t (by decide) ?_ | refine bq_f (by decide) ?_
    refine fun x ex => ?_
    rw [H.e9, hf] at ex
    subst ex
    repeat first | refine bq_t (by decide) ?_ | refine bq_f (by decide) ?_
    try unfold wj_Md_fractions_170
    refine md_field H.e9 ?_
    repeat first | refine bq_t (by decide) ?_ | refine bq_f (by decide) ?_ | refine bq_f na ?_ | refine bq_f nb ?_ | refine bq_f nd ?_ | refine bq_t pa (md_ends H.e5 ?_) | refine bq_t pa (md_ends_n (show ¬ (8 : Int32) = 0 by decide) ?_) | refine bq_t pb (md_ends H.e5 ?_) | refine bq_t pb (md_ends_n (show ¬ (8 : Int32) = 0 by decide) ?_) | refine bq_t pd (md_ends H.e5 ?_) | refine bq_t pd (md_ends_n (show ¬ (8 : Int32) = 0 by decide) ?_)
    exact md_ends H.e5 hQ

theorem i_x39_s (H : pre mn g rg hq mf cd fg w dd bm rr kt) (ho : zz_ushr w 26 = 17) (hr : fI w 21 = 16) (hf : w &&& 63 = 39) : pfx ms mn g rg hq mf cd fg w dd bm rr kt := by
  refine pfx_mk H 3 (fun L O => (g, rg, hq, mf, cd, fg, L, O)) (fun dd l1 l2 => (upd dd 5 3, l1, l2, bm, rr, kt)) (fun L O P hP => ?_) (fun dd l1 l2 H L O => ⟨oc_end (by unfold q_e; simp) H.rel H.nxt rfl (fun j _ h => pk_un h), fun Q hQ => ?_⟩) (fun _ _ _ _ => rfl) (fun _ _ _ _ _ hs => ⟨by repeat first | exact hs | apply lo_upd, rfl, rfl, rfl⟩) (by first | exact Or.inr (fun _ _ => rfl) | exact Or.inl (by unfold q_e; decide)) (fun _ _ _ => rfl)
  · unfold wp_Pr_perform
    refine pr_op ?_
    rw [ho]
    repeat first | refine bq_t (by decide) ?_ | refine bq_f (by decide) ?_
    refine pr_rs ?_
    rw [hr]
    repeat first | refine bq_t (by decide) ?_ | refine bq_f (by decide) ?_
    refine pr_rt ⟨fI_in w 16, fun t et => ?_⟩
    subst et
    unfold wp_Fu_perform
    refine fun x ex => ?_
    have ex : x = 16 := ex.trans hr
    subst ex
    repeat first | refine bq_t (by decide) ?_ | refine bq_f (by decide) ?_
    refine fun y ey => ?_
    rw [hf] at ey
    subst ey
    repeat first | refine bq_t (by decide) ?_ | refine bq_f (by decide) ?_
    exact hP
  · unfold wp_Md_operate
    rw [ho]
    repeat first | refine bq_t (by decide) ?_ | refine bq_f (by decide) ?_
    unfold wp_Md_fractions
    refine md_field H.e9 (md_field H.e9 (md_field H.e9 ?_))
    rw [hr]
    repeat first | refine bq_t (by decide) ?_ | refine bq_f (by decide) ?_
    refine fun x ex => ?_
    rw [H.e9, hf] at ex
    subst ex
    repeat first | refine bq_t (by decide) ?_ | refine bq_f (by decide) ?_
    try unfold wj_Md_fractions_170
    refine md_field H.e9 ?_
    repeat first | refine bq_t (by decide) ?_ | refine bq_f (by decide) ?_ | refine bq_f na ?_ | refine bq_f nb ?_ | refine bq_f nd ?_ | refine bq_t pa (md_ends H.e5 ?_) | refine bq_t pa (md_ends_n (show ¬ (8 : Int32) = 0 by decide) ?_) | refine bq_t pb (md_ends H.e5 ?_) | refine bq_t pb (md_ends_n (show ¬ (8 : Int32) = 0 by decide) ?_) | refine bq_t pd (md_ends H.e5 ?_) | refine bq_t pd (md_ends_n (show ¬ (8 : Int32) = 0 by decide) ?_)
    exact md_ends H.e5 hQ

theorem i_x40_s (H : pre mn g rg hq mf cd fg w dd bm rr kt) (ho : zz_ushr w 26 = 17) (hr : fI w 21 = 16) (hf : w &&& 63 = 40) : pfx ms mn g rg hq mf cd fg w dd bm rr kt := by
  refine pfx_mk H 3 (fun L O => (g, rg, hq, mf, cd, fg, L, O)) (fun dd l1 l2 => (upd dd 5 3, l1, l2, bm, rr, kt)) (fun L O P hP => ?_) (fun dd l1 l2 H L O => ⟨oc_end (by unfold q_e; simp) H.rel H.nxt rfl (fun j _ h => pk_un h), fun Q hQ => ?_⟩) (fun _ _ _ _ => rfl) (fun _ _ _ _ _ hs => ⟨by repeat first | exact hs | apply lo_upd, rfl, rfl, rfl⟩) (by first | exact Or.inr (fun _ _ => rfl) | exact Or.inl (by unfold q_e; decide)) (fun _ _ _ => rfl)
  · unfold wp_Pr_perform
    refine pr_op ?_
    rw [ho]
    repeat first | refine bq_t (by decide) ?_ | refine bq_f (by decide) ?_
    refine pr_rs ?_
    rw [hr]
    repeat first | refine bq_t (by decide) ?_ | refine bq_f (by decide) ?_
    refine pr_rt ⟨fI_in w 16, fun t et => ?_⟩
    subst et
    unfold wp_Fu_perform
    refine fun x ex => ?_
    have ex : x = 16 := ex.trans hr
    subst ex
    repeat first | refine bq_t (by decide) ?_ | refine bq_f (by decide) ?_
    refine fun y ey => ?_
    rw [hf] at ey
    subst ey
    repeat first | refine bq_t (by decide) ?_ | refine bq_f (by decide) ?_
    exact hP
  · unfold wp_Md_operate
    rw [ho]
    repeat first | refine bq_t (by decide) ?_ | refine bq_f (by decide) ?_
    unfold wp_Md_fractions
    refine md_field H.e9 (md_field H.e9 (md_field H.e9 ?_))
    rw [hr]
    repeat first | refine bq_t (by decide) ?_ | refine bq_f (by decide) ?_
    refine fun x ex => ?_
    rw [H.e9, hf] at ex
    subst ex
    repeat first | refine bq_t (by decide) ?_ | refine bq_f (by decide) ?_
    try unfold wj_Md_fractions_170
    refine md_field H.e9 ?_
    repeat first | refine bq_t (by decide) ?_ | refine bq_f (by decide) ?_ | refine bq_f na ?_ | refine bq_f nb ?_ | refine bq_f nd ?_ | refine bq_t pa (md_ends H.e5 ?_) | refine bq_t pa (md_ends_n (show ¬ (8 : Int32) = 0 by decide) ?_) | refine bq_t pb (md_ends H.e5 ?_) | refine bq_t pb (md_ends_n (show ¬ (8 : Int32) = 0 by decide) ?_) | refine bq_t pd (md_ends H.e5 ?_) | refine bq_t pd (md_ends_n (show ¬ (8 : Int32) = 0 by decide) ?_)
    exact md_ends H.e5 hQ

theorem i_x41_s (H : pre mn g rg hq mf cd fg w dd bm rr kt) (ho : zz_ushr w 26 = 17) (hr : fI w 21 = 16) (hf : w &&& 63 = 41) : pfx ms mn g rg hq mf cd fg w dd bm rr kt := by
  refine pfx_mk H 3 (fun L O => (g, rg, hq, mf, cd, fg, L, O)) (fun dd l1 l2 => (upd dd 5 3, l1, l2, bm, rr, kt)) (fun L O P hP => ?_) (fun dd l1 l2 H L O => ⟨oc_end (by unfold q_e; simp) H.rel H.nxt rfl (fun j _ h => pk_un h), fun Q hQ => ?_⟩) (fun _ _ _ _ => rfl) (fun _ _ _ _ _ hs => ⟨by repeat first | exact hs | apply lo_upd, rfl, rfl, rfl⟩) (by first | exact Or.inr (fun _ _ => rfl) | exact Or.inl (by unfold q_e; decide)) (fun _ _ _ => rfl)
  · unfold wp_Pr_perform
    refine pr_op ?_
    rw [ho]
    repeat first | refine bq_t (by decide) ?_ | refine bq_f (by decide) ?_
    refine pr_rs ?_
    rw [hr]
    repeat first | refine bq_t (by decide) ?_ | refine bq_f (by decide) ?_
    refine pr_rt ⟨fI_in w 16, fun t et => ?_⟩
    subst et
    unfold wp_Fu_perform
    refine fun x ex => ?_
    have ex : x = 16 := ex.trans hr
    subst ex
    repeat first | refine bq_t (by decide) ?_ | refine bq_f (by decide) ?_
    refine fun y ey => ?_
    rw [hf] at ey
    subst ey
    repeat first | refine bq_t (by decide) ?_ | refine bq_f (by decide) ?_
    exact hP
  · unfold wp_Md_operate
    rw [ho]
    repeat first | refine bq_t (by decide) ?_ | refine bq_f (by decide) ?_
    unfold wp_Md_fractions
    refine md_field H.e9 (md_field H.e9 (md_field H.e9 ?_))
    rw [hr]
    repeat first | refine bq_t (by decide) ?_ | refine bq_f (by decide) ?_
    refine fun x ex => ?_
    rw [H.e9, hf] at ex
    subst ex
    repeat first | refine bq_t (by decide) ?_ | refine bq_f (by decide) ?_
    try unfold wj_Md_fractions_170
    refine md_field H.e9 ?_
    repeat first | refine bq_t (by decide) ?_ | refine bq_f (by decide) ?_ | refine bq_f na ?_ | refine bq_f nb ?_ | refine bq_f nd ?_ | refine bq_t pa (md_ends H.e5 ?_) | refine bq_t pa (md_ends_n (show ¬ (8 : Int32) = 0 by decide) ?_) | refine bq_t pb (md_ends H.e5 ?_) | refine bq_t pb (md_ends_n (show ¬ (8 : Int32) = 0 by decide) ?_) | refine bq_t pd (md_ends H.e5 ?_) | refine bq_t pd (md_ends_n (show ¬ (8 : Int32) = 0 by decide) ?_)
    exact md_ends H.e5 hQ

theorem i_x42_s (H : pre mn g rg hq mf cd fg w dd bm rr kt) (ho : zz_ushr w 26 = 17) (hr : fI w 21 = 16) (hf : w &&& 63 = 42) : pfx ms mn g rg hq mf cd fg w dd bm rr kt := by
  refine pfx_mk H 3 (fun L O => (g, rg, hq, mf, cd, fg, L, O)) (fun dd l1 l2 => (upd dd 5 3, l1, l2, bm, rr, kt)) (fun L O P hP => ?_) (fun dd l1 l2 H L O => ⟨oc_end (by unfold q_e; simp) H.rel H.nxt rfl (fun j _ h => pk_un h), fun Q hQ => ?_⟩) (fun _ _ _ _ => rfl) (fun _ _ _ _ _ hs => ⟨by repeat first | exact hs | apply lo_upd, rfl, rfl, rfl⟩) (by first | exact Or.inr (fun _ _ => rfl) | exact Or.inl (by unfold q_e; decide)) (fun _ _ _ => rfl)
  · unfold wp_Pr_perform
    refine pr_op ?_
    rw [ho]
    repeat first | refine bq_t (by decide) ?_ | refine bq_f (by decide) ?_
    refine pr_rs ?_
    rw [hr]
    repeat first | refine bq_t (by decide) ?_ | refine bq_f (by decide) ?_
    refine pr_rt ⟨fI_in w 16, fun t et => ?_⟩
    subst et
    unfold wp_Fu_perform
    refine fun x ex => ?_
    have ex : x = 16 := ex.trans hr
    subst ex
    repeat first | refine bq_t (by decide) ?_ | refine bq_f (by decide) ?_
    refine fun y ey => ?_
    rw [hf] at ey
    subst ey
    repeat first | refine bq_t (by decide) ?_ | refine bq_f (by decide) ?_
    exact hP
  · unfold wp_Md_operate
    rw [ho]
    repeat first | refine bq_t (by decide) ?_ | refine bq_f (by decide) ?_
    unfold wp_Md_fractions
    refine md_field H.e9 (md_field H.e9 (md_field H.e9 ?_))
    rw [hr]
    repeat first | refine bq_t (by decide) ?_ | refine bq_f (by decide) ?_
    refine fun x ex => ?_
    rw [H.e9, hf] at ex
    subst ex
    repeat first | refine bq_t (by decide) ?_ | refine bq_f (by decide) ?_
    try unfold wj_Md_fractions_170
    refine md_field H.e9 ?_
    repeat first | refine bq_t (by decide) ?_ | refine bq_f (by decide) ?_ | refine bq_f na ?_ | refine bq_f nb ?_ | refine bq_f nd ?_ | refine bq_t pa (md_ends H.e5 ?_) | refine bq_t pa (md_ends_n (show ¬ (8 : Int32) = 0 by decide) ?_) | refine bq_t pb (md_ends H.e5 ?_) | refine bq_t pb (md_ends_n (show ¬ (8 : Int32) = 0 by decide) ?_) | refine bq_t pd (md_ends H.e5 ?_) | refine bq_t pd (md_ends_n (show ¬ (8 : Int32) = 0 by decide) ?_)
    exact md_ends H.e5 hQ

theorem i_x43_s (H : pre mn g rg hq mf cd fg w dd bm rr kt) (ho : zz_ushr w 26 = 17) (hr : fI w 21 = 16) (hf : w &&& 63 = 43) : pfx ms mn g rg hq mf cd fg w dd bm rr kt := by
  refine pfx_mk H 3 (fun L O => (g, rg, hq, mf, cd, fg, L, O)) (fun dd l1 l2 => (upd dd 5 3, l1, l2, bm, rr, kt)) (fun L O P hP => ?_) (fun dd l1 l2 H L O => ⟨oc_end (by unfold q_e; simp) H.rel H.nxt rfl (fun j _ h => pk_un h), fun Q hQ => ?_⟩) (fun _ _ _ _ => rfl) (fun _ _ _ _ _ hs => ⟨by repeat first | exact hs | apply lo_upd, rfl, rfl, rfl⟩) (by first | exact Or.inr (fun _ _ => rfl) | exact Or.inl (by unfold q_e; decide)) (fun _ _ _ => rfl)
  · unfold wp_Pr_perform
    refine pr_op ?_
    rw [ho]
    repeat first | refine bq_t (by decide) ?_ | refine bq_f (by decide) ?_
    refine pr_rs ?_
    rw [hr]
    repeat first | refine bq_t (by decide) ?_ | refine bq_f (by decide) ?_
    refine pr_rt ⟨fI_in w 16, fun t et => ?_⟩
    subst et
    unfold wp_Fu_perform
    refine fun x ex => ?_
    have ex : x = 16 := ex.trans hr
    subst ex
    repeat first | refine bq_t (by decide) ?_ | refine bq_f (by decide) ?_
    refine fun y ey => ?_
    rw [hf] at ey
    subst ey
    repeat first | refine bq_t (by decide) ?_ | refine bq_f (by decide) ?_
    exact hP
  · unfold wp_Md_operate
    rw [ho]
    repeat first | refine bq_t (by decide) ?_ | refine bq_f (by decide) ?_
    unfold wp_Md_fractions
    refine md_field H.e9 (md_field H.e9 (md_field H.e9 ?_))
    rw [hr]
    repeat first | refine bq_t (by decide) ?_ | refine bq_f (by decide) ?_
    refine fun x ex => ?_
    rw [H.e9, hf] at ex
    subst ex
    repeat first | refine bq_t (by decide) ?_ | refine bq_f (by decide) ?_
    try unfold wj_Md_fractions_170
    refine md_field H.e9 ?_
    repeat first | refine bq_t (by decide) ?_ | refine bq_f (by decide) ?_ | refine bq_f na ?_ | refine bq_f nb ?_ | refine bq_f nd ?_ | refine bq_t pa (md_ends H.e5 ?_) | refine bq_t pa (md_ends_n (show ¬ (8 : Int32) = 0 by decide) ?_) | refine bq_t pb (md_ends H.e5 ?_) | refine bq_t pb (md_ends_n (show ¬ (8 : Int32) = 0 by decide) ?_) | refine bq_t pd (md_ends H.e5 ?_) | refine bq_t pd (md_ends_n (show ¬ (8 : Int32) = 0 by decide) ?_)
    exact md_ends H.e5 hQ

theorem i_x44_s (H : pre mn g rg hq mf cd fg w dd bm rr kt) (ho : zz_ushr w 26 = 17) (hr : fI w 21 = 16) (hf : w &&& 63 = 44) : pfx ms mn g rg hq mf cd fg w dd bm rr kt := by
  refine pfx_mk H 3 (fun L O => (g, rg, hq, mf, cd, fg, L, O)) (fun dd l1 l2 => (upd dd 5 3, l1, l2, bm, rr, kt)) (fun L O P hP => ?_) (fun dd l1 l2 H L O => ⟨oc_end (by unfold q_e; simp) H.rel H.nxt rfl (fun j _ h => pk_un h), fun Q hQ => ?_⟩) (fun _ _ _ _ => rfl) (fun _ _ _ _ _ hs => ⟨by repeat first | exact hs | apply lo_upd, rfl, rfl, rfl⟩) (by first | exact Or.inr (fun _ _ => rfl) | exact Or.inl (by unfold q_e; decide)) (fun _ _ _ => rfl)
  · unfold wp_Pr_perform
    refine pr_op ?_
    rw [ho]
    repeat first | refine bq_t (by decide) ?_ | refine bq_f (by decide) ?_
    refine pr_rs ?_
    rw [hr]
    repeat first | refine bq_t (by decide) ?_ | refine bq_f (by decide) ?_
    refine pr_rt ⟨fI_in w 16, fun t et => ?_⟩
    subst et
    unfold wp_Fu_perform
    refine fun x ex => ?_
    have ex : x = 16 := ex.trans hr
    subst ex
    repeat first | refine bq_t (by decide) ?_ | refine bq_f (by decide) ?_
    refine fun y ey => ?_
    rw [hf] at ey
    subst ey
    repeat first | refine bq_t (by decide) ?_ | refine bq_f (by decide) ?_
    exact hP
  · unfold wp_Md_operate
    rw [ho]
    repeat first | refine bq_t (by decide) ?_ | refine bq_f (by decide) ?_
    unfold wp_Md_fractions
    refine md_field H.e9 (md_field H.e9 (md_field H.e9 ?_))
    rw [hr]
    repeat first | refine bq_t (by decide) ?_ | refine bq_f (by decide) ?_
    refine fun x ex => ?_
    rw [H.e9, hf] at ex
    subst ex
    repeat first | refine bq_t (by decide) ?_ | refine bq_f (by decide) ?_
    try unfold wj_Md_fractions_170
    refine md_field H.e9 ?_
    repeat first | refine bq_t (by decide) ?_ | refine bq_f (by decide) ?_ | refine bq_f na ?_ | refine bq_f nb ?_ | refine bq_f nd ?_ | refine bq_t pa (md_ends H.e5 ?_) | refine bq_t pa (md_ends_n (show ¬ (8 : Int32) = 0 by decide) ?_) | refine bq_t pb (md_ends H.e5 ?_) | refine bq_t pb (md_ends_n (show ¬ (8 : Int32) = 0 by decide) ?_) | refine bq_t pd (md_ends H.e5 ?_) | refine bq_t pd (md_ends_n (show ¬ (8 : Int32) = 0 by decide) ?_)
    exact md_ends H.e5 hQ

theorem i_x45_s (H : pre mn g rg hq mf cd fg w dd bm rr kt) (ho : zz_ushr w 26 = 17) (hr : fI w 21 = 16) (hf : w &&& 63 = 45) : pfx ms mn g rg hq mf cd fg w dd bm rr kt := by
  refine pfx_mk H 3 (fun L O => (g, rg, hq, mf, cd, fg, L, O)) (fun dd l1 l2 => (upd dd 5 3, l1, l2, bm, rr, kt)) (fun L O P hP => ?_) (fun dd l1 l2 H L O => ⟨oc_end (by unfold q_e; simp) H.rel H.nxt rfl (fun j _ h => pk_un h), fun Q hQ => ?_⟩) (fun _ _ _ _ => rfl) (fun _ _ _ _ _ hs => ⟨by repeat first | exact hs | apply lo_upd, rfl, rfl, rfl⟩) (by first | exact Or.inr (fun _ _ => rfl) | exact Or.inl (by unfold q_e; decide)) (fun _ _ _ => rfl)
  · unfold wp_Pr_perform
    refine pr_op ?_
    rw [ho]
    repeat first | refine bq_t (by decide) ?_ | refine bq_f (by decide) ?_
    refine pr_rs ?_
    rw [hr]
    repeat first | refine bq_t (by decide) ?_ | refine bq_f (by decide) ?_
    refine pr_rt ⟨fI_in w 16, fun t et => ?_⟩
    subst et
    unfold wp_Fu_perform
    refine fun x ex => ?_
    have ex : x = 16 := ex.trans hr
    subst ex
    repeat first | refine bq_t (by decide) ?_ | refine bq_f (by decide) ?_
    refine fun y ey => ?_
    rw [hf] at ey
    subst ey
    repeat first | refine bq_t (by decide) ?_ | refine bq_f (by decide) ?_
    exact hP
  · unfold wp_Md_operate
    rw [ho]
    repeat first | refine bq_t (by decide) ?_ | refine bq_f (by decide) ?_
    unfold wp_Md_fractions
    refine md_field H.e9 (md_field H.e9 (md_field H.e9 ?_))
    rw [hr]
    repeat first | refine bq_t (by decide) ?_ | refine bq_f (by decide) ?_
    refine fun x ex => ?_
    rw [H.e9, hf] at ex
    subst ex
    repeat first | refine bq_t (by decide) ?_ | refine bq_f (by decide) ?_
    try unfold wj_Md_fractions_170
    refine md_field H.e9 ?_
    repeat first | refine bq_t (by decide) ?_ | refine bq_f (by decide) ?_ | refine bq_f na ?_ | refine bq_f nb ?_ | refine bq_f nd ?_ | refine bq_t pa (md_ends H.e5 ?_) | refine bq_t pa (md_ends_n (show ¬ (8 : Int32) = 0 by decide) ?_) | refine bq_t pb (md_ends H.e5 ?_) | refine bq_t pb (md_ends_n (show ¬ (8 : Int32) = 0 by decide) ?_) | refine bq_t pd (md_ends H.e5 ?_) | refine bq_t pd (md_ends_n (show ¬ (8 : Int32) = 0 by decide) ?_)
    exact md_ends H.e5 hQ

theorem i_x46_s (H : pre mn g rg hq mf cd fg w dd bm rr kt) (ho : zz_ushr w 26 = 17) (hr : fI w 21 = 16) (hf : w &&& 63 = 46) : pfx ms mn g rg hq mf cd fg w dd bm rr kt := by
  refine pfx_mk H 3 (fun L O => (g, rg, hq, mf, cd, fg, L, O)) (fun dd l1 l2 => (upd dd 5 3, l1, l2, bm, rr, kt)) (fun L O P hP => ?_) (fun dd l1 l2 H L O => ⟨oc_end (by unfold q_e; simp) H.rel H.nxt rfl (fun j _ h => pk_un h), fun Q hQ => ?_⟩) (fun _ _ _ _ => rfl) (fun _ _ _ _ _ hs => ⟨by repeat first | exact hs | apply lo_upd, rfl, rfl, rfl⟩) (by first | exact Or.inr (fun _ _ => rfl) | exact Or.inl (by unfold q_e; decide)) (fun _ _ _ => rfl)
  · unfold wp_Pr_perform
    refine pr_op ?_
    rw [ho]
    repeat first | refine bq_t (by decide) ?_ | refine bq_f (by decide) ?_
    refine pr_rs ?_
    rw [hr]
    repeat first | refine bq_t (by decide) ?_ | refine bq_f (by decide) ?_
    refine pr_rt ⟨fI_in w 16, fun t et => ?_⟩
    subst et
    unfold wp_Fu_perform
    refine fun x ex => ?_
    have ex : x = 16 := ex.trans hr
    subst ex
    repeat first | refine bq_t (by decide) ?_ | refine bq_f (by decide) ?_
    refine fun y ey => ?_
    rw [hf] at ey
    subst ey
    repeat first | refine bq_t (by decide) ?_ | refine bq_f (by decide) ?_
    exact hP
  · unfold wp_Md_operate
    rw [ho]
    repeat first | refine bq_t (by decide) ?_ | refine bq_f (by decide) ?_
    unfold wp_Md_fractions
    refine md_field H.e9 (md_field H.e9 (md_field H.e9 ?_))
    rw [hr]
    repeat first | refine bq_t (by decide) ?_ | refine bq_f (by decide) ?_
    refine fun x ex => ?_
    rw [H.e9, hf] at ex
    subst ex
    repeat first | refine bq_t (by decide) ?_ | refine bq_f (by decide) ?_
    try unfold wj_Md_fractions_170
    refine md_field H.e9 ?_
    repeat first | refine bq_t (by decide) ?_ | refine bq_f (by decide) ?_ | refine bq_f na ?_ | refine bq_f nb ?_ | refine bq_f nd ?_ | refine bq_t pa (md_ends H.e5 ?_) | refine bq_t pa (md_ends_n (show ¬ (8 : Int32) = 0 by decide) ?_) | refine bq_t pb (md_ends H.e5 ?_) | refine bq_t pb (md_ends_n (show ¬ (8 : Int32) = 0 by decide) ?_) | refine bq_t pd (md_ends H.e5 ?_) | refine bq_t pd (md_ends_n (show ¬ (8 : Int32) = 0 by decide) ?_)
    exact md_ends H.e5 hQ

theorem i_x47_s (H : pre mn g rg hq mf cd fg w dd bm rr kt) (ho : zz_ushr w 26 = 17) (hr : fI w 21 = 16) (hf : w &&& 63 = 47) : pfx ms mn g rg hq mf cd fg w dd bm rr kt := by
  refine pfx_mk H 3 (fun L O => (g, rg, hq, mf, cd, fg, L, O)) (fun dd l1 l2 => (upd dd 5 3, l1, l2, bm, rr, kt)) (fun L O P hP => ?_) (fun dd l1 l2 H L O => ⟨oc_end (by unfold q_e; simp) H.rel H.nxt rfl (fun j _ h => pk_un h), fun Q hQ => ?_⟩) (fun _ _ _ _ => rfl) (fun _ _ _ _ _ hs => ⟨by repeat first | exact hs | apply lo_upd, rfl, rfl, rfl⟩) (by first | exact Or.inr (fun _ _ => rfl) | exact Or.inl (by unfold q_e; decide)) (fun _ _ _ => rfl)
  · unfold wp_Pr_perform
    refine pr_op ?_
    rw [ho]
    repeat first | refine bq_t (by decide) ?_ | refine bq_f (by decide) ?_
    refine pr_rs ?_
    rw [hr]
    repeat first | refine bq_t (by decide) ?_ | refine bq_f (by decide) ?_
    refine pr_rt ⟨fI_in w 16, fun t et => ?_⟩
    subst et
    unfold wp_Fu_perform
    refine fun x ex => ?_
    have ex : x = 16 := ex.trans hr
    subst ex
    repeat first | refine bq_t (by decide) ?_ | refine bq_f (by decide) ?_
    refine fun y ey => ?_
    rw [hf] at ey
    subst ey
    repeat first | refine bq_t (by decide) ?_ | refine bq_f (by decide) ?_
    exact hP
  · unfold wp_Md_operate
    rw [ho]
    repeat first | refine bq_t (by decide) ?_ | refine bq_f (by decide) ?_
    unfold wp_Md_fractions
    refine md_field H.e9 (md_field H.e9 (md_field H.e9 ?_))
    rw [hr]
    repeat first | refine bq_t (by decide) ?_ | refine bq_f (by decide) ?_
    refine fun x ex => ?_
    rw [H.e9, hf] at ex
    subst ex
    repeat first | refine bq_t (by decide) ?_ | refine bq_f (by decide) ?_
    try unfold wj_Md_fractions_170
    refine md_field H.e9 ?_
    repeat first | refine bq_t (by decide) ?_ | refine bq_f (by decide) ?_ | refine bq_f na ?_ | refine bq_f nb ?_ | refine bq_f nd ?_ | refine bq_t pa (md_ends H.e5 ?_) | refine bq_t pa (md_ends_n (show ¬ (8 : Int32) = 0 by decide) ?_) | refine bq_t pb (md_ends H.e5 ?_) | refine bq_t pb (md_ends_n (show ¬ (8 : Int32) = 0 by decide) ?_) | refine bq_t pd (md_ends H.e5 ?_) | refine bq_t pd (md_ends_n (show ¬ (8 : Int32) = 0 by decide) ?_)
    exact md_ends H.e5 hQ

theorem i_addf_d (H : pre mn g rg hq mf cd fg w dd bm rr kt) (ho : zz_ushr w 26 = 17) (hr : fI w 21 = 17) (hf : w &&& 63 = 0) : pfx ms mn g rg hq mf cd fg w dd bm rr kt := by
  obtain ⟨a, ha, ea⟩ := fI_n w 11
  obtain ⟨b, hb, eb⟩ := fI_n w 16
  obtain ⟨d, hd, ed⟩ := fI_n w 6
  by_cases he : evn 1 a ∧ evn 1 b ∧ evn 1 d
  · refine pfx_fr H (rg' := rg) (cd' := cd) (fg' := fgR fg 1 d (twoB 0 1 (fbt fg 1 a) (fbt fg 1 b))) (rr' := rrR rr 1 d (twoB 0 1 (fbt fg 1 a) (fbt fg 1 b))) (q_fgR hd he.2.2 H.rel) (fun L O P hP => ?_) (fun dd l1 l2 H Q hQ => ?_)
    · unfold wp_Pr_perform
      refine pr_op ?_
      rw [ho]
      repeat first | refine bq_t (by decide) ?_ | refine bq_f (by decide) ?_
      refine pr_rs ?_
      rw [hr]
      repeat first | refine bq_t (by decide) ?_ | refine bq_f (by decide) ?_
      refine pr_rt ⟨fI_in w 16, fun t et => ?_⟩
      subst et
      unfold wp_Fu_perform
      refine fun x ex => ?_
      have ex : x = 17 := ex.trans hr
      subst ex
      repeat first | refine bq_t (by decide) ?_ | refine bq_f (by decide) ?_
      refine fun y ey => ?_
      rw [hf] at ey
      subst ey
      repeat first | refine bq_t (by decide) ?_ | refine bq_f (by decide) ?_
      exact fu_compute hf (Or.inl rfl) ha hb hd ea eb ed (fun _ L' O' => hP L' O') (fun q => absurd he q)
    · unfold wp_Md_operate
      rw [ho]
      repeat first | refine bq_t (by decide) ?_ | refine bq_f (by decide) ?_
      unfold wp_Md_fractions
      refine md_field H.e9 (md_field H.e9 (md_field H.e9 ?_))
      rw [hr]
      repeat first | refine bq_t (by decide) ?_ | refine bq_f (by decide) ?_
      have na := (evx ha ea).mp he.1
      have nb := (evx hb eb).mp he.2.1
      have nd := (evx hd ed).mp he.2.2
      refine fun x ex => ?_
      rw [H.e9, hf] at ex
      subst ex
      repeat first | refine bq_t (by decide) ?_ | refine bq_f (by decide) ?_
      try unfold wj_Md_fractions_170
      refine md_field H.e9 ?_
      repeat first | refine bq_t (by decide) ?_ | refine bq_f (by decide) ?_ | refine bq_f na ?_ | refine bq_f nb ?_ | refine bq_f nd ?_ | refine bq_t pa (md_ends H.e5 ?_) | refine bq_t pa (md_ends_n (show ¬ (8 : Int32) = 0 by decide) ?_) | refine bq_t pb (md_ends H.e5 ?_) | refine bq_t pb (md_ends_n (show ¬ (8 : Int32) = 0 by decide) ?_) | refine bq_t pd (md_ends H.e5 ?_) | refine bq_t pd (md_ends_n (show ¬ (8 : Int32) = 0 by decide) ?_)
      refine bq_t (show dd 5 ≤ (0 : Int32) by rw [H.e5]; decide) ?_
      refine md_bits H.rel ha ea he.1 ?_
      refine bq_t (by decide) ?_
      refine bq_f (by decide) ?_
      refine md_bits H.rel hb eb he.2.1 ?_
      refine md_two (fbt_fin _ _ _) (fbt_fin _ _ _) (Or.inl rfl) (fun dd' l1' l2' hl => ?_)
      have e5 : dd' 5 = 0 := by rw [hl 5 (by decide)]; exact H.e5
      exact md_put e5 hd ed he.2.2 (hQ _ _ _ hl)
  · refine pfx_mk H 8 (fun L O => (g, rg, hq, mf, cd, fg, L, O)) (fun dd l1 l2 => (upd dd 5 8, l1, l2, bm, rr, kt)) (fun L O P hP => ?_) (fun dd l1 l2 H L O => ⟨oc_end (by unfold q_e; simp) H.rel H.nxt rfl (fun j _ h => pk_un h), fun Q hQ => ?_⟩) (fun _ _ _ _ => rfl) (fun _ _ _ _ _ hs => ⟨by repeat first | exact hs | apply lo_upd, rfl, rfl, rfl⟩) (by first | exact Or.inr (fun _ _ => rfl) | exact Or.inl (by unfold q_e; decide)) (fun _ _ _ => rfl)
    · unfold wp_Pr_perform
      refine pr_op ?_
      rw [ho]
      repeat first | refine bq_t (by decide) ?_ | refine bq_f (by decide) ?_
      refine pr_rs ?_
      rw [hr]
      repeat first | refine bq_t (by decide) ?_ | refine bq_f (by decide) ?_
      refine pr_rt ⟨fI_in w 16, fun t et => ?_⟩
      subst et
      unfold wp_Fu_perform
      refine fun x ex => ?_
      have ex : x = 17 := ex.trans hr
      subst ex
      repeat first | refine bq_t (by decide) ?_ | refine bq_f (by decide) ?_
      refine fun y ey => ?_
      rw [hf] at ey
      subst ey
      repeat first | refine bq_t (by decide) ?_ | refine bq_f (by decide) ?_
      exact fu_compute hf (Or.inl rfl) ha hb hd ea eb ed (fun q => absurd q he) (fun _ => hP)
    · have qa := evx (w := w) ha ea
      have qb := evx (w := w) hb eb
      have qd := evx (w := w) hd ed
      rcases Classical.em (fI w 11 &&& 1 = 1) with pa | na
      · rcases Classical.em (fI w 16 &&& 1 = 1) with pb | nb
        · rcases Classical.em (fI w 6 &&& 1 = 1) with pd | nd
          · unfold wp_Md_operate
            rw [ho]
            repeat first | refine bq_t (by decide) ?_ | refine bq_f (by decide) ?_
            unfold wp_Md_fractions
            refine md_field H.e9 (md_field H.e9 (md_field H.e9 ?_))
            rw [hr]
            repeat first | refine bq_t (by decide) ?_ | refine bq_f (by decide) ?_
            refine fun x ex => ?_
            rw [H.e9, hf] at ex
            subst ex
            repeat first | refine bq_t (by decide) ?_ | refine bq_f (by decide) ?_
            try unfold wj_Md_fractions_170
            refine md_field H.e9 ?_
            repeat first | refine bq_t (by decide) ?_ | refine bq_f (by decide) ?_ | refine bq_f na ?_ | refine bq_f nb ?_ | refine bq_f nd ?_ | refine bq_t pa (md_ends H.e5 ?_) | refine bq_t pa (md_ends_n (show ¬ (8 : Int32) = 0 by decide) ?_) | refine bq_t pb (md_ends H.e5 ?_) | refine bq_t pb (md_ends_n (show ¬ (8 : Int32) = 0 by decide) ?_) | refine bq_t pd (md_ends H.e5 ?_) | refine bq_t pd (md_ends_n (show ¬ (8 : Int32) = 0 by decide) ?_)
            exact bq_f (show ¬ (8 : Int32) ≤ 0 by decide) hQ
          · unfold wp_Md_operate
            rw [ho]
            repeat first | refine bq_t (by decide) ?_ | refine bq_f (by decide) ?_
            unfold wp_Md_fractions
            refine md_field H.e9 (md_field H.e9 (md_field H.e9 ?_))
            rw [hr]
            repeat first | refine bq_t (by decide) ?_ | refine bq_f (by decide) ?_
            refine fun x ex => ?_
            rw [H.e9, hf] at ex
            subst ex
            repeat first | refine bq_t (by decide) ?_ | refine bq_f (by decide) ?_
            try unfold wj_Md_fractions_170
            refine md_field H.e9 ?_
            repeat first | refine bq_t (by decide) ?_ | refine bq_f (by decide) ?_ | refine bq_f na ?_ | refine bq_f nb ?_ | refine bq_f nd ?_ | refine bq_t pa (md_ends H.e5 ?_) | refine bq_t pa (md_ends_n (show ¬ (8 : Int32) = 0 by decide) ?_) | refine bq_t pb (md_ends H.e5 ?_) | refine bq_t pb (md_ends_n (show ¬ (8 : Int32) = 0 by decide) ?_) | refine bq_t pd (md_ends H.e5 ?_) | refine bq_t pd (md_ends_n (show ¬ (8 : Int32) = 0 by decide) ?_)
            exact bq_f (show ¬ (8 : Int32) ≤ 0 by decide) hQ
        · rcases Classical.em (fI w 6 &&& 1 = 1) with pd | nd
          · unfold wp_Md_operate
            rw [ho]
            repeat first | refine bq_t (by decide) ?_ | refine bq_f (by decide) ?_
            unfold wp_Md_fractions
            refine md_field H.e9 (md_field H.e9 (md_field H.e9 ?_))
            rw [hr]
            repeat first | refine bq_t (by decide) ?_ | refine bq_f (by decide) ?_
            refine fun x ex => ?_
            rw [H.e9, hf] at ex
            subst ex
            repeat first | refine bq_t (by decide) ?_ | refine bq_f (by decide) ?_
            try unfold wj_Md_fractions_170
            refine md_field H.e9 ?_
            repeat first | refine bq_t (by decide) ?_ | refine bq_f (by decide) ?_ | refine bq_f na ?_ | refine bq_f nb ?_ | refine bq_f nd ?_ | refine bq_t pa (md_ends H.e5 ?_) | refine bq_t pa (md_ends_n (show ¬ (8 : Int32) = 0 by decide) ?_) | refine bq_t pb (md_ends H.e5 ?_) | refine bq_t pb (md_ends_n (show ¬ (8 : Int32) = 0 by decide) ?_) | refine bq_t pd (md_ends H.e5 ?_) | refine bq_t pd (md_ends_n (show ¬ (8 : Int32) = 0 by decide) ?_)
            exact bq_f (show ¬ (8 : Int32) ≤ 0 by decide) hQ
          · unfold wp_Md_operate
            rw [ho]
            repeat first | refine bq_t (by decide) ?_ | refine bq_f (by decide) ?_
            unfold wp_Md_fractions
            refine md_field H.e9 (md_field H.e9 (md_field H.e9 ?_))
            rw [hr]
            repeat first | refine bq_t (by decide) ?_ | refine bq_f (by decide) ?_
            refine fun x ex => ?_
            rw [H.e9, hf] at ex
            subst ex
            repeat first | refine bq_t (by decide) ?_ | refine bq_f (by decide) ?_
            try unfold wj_Md_fractions_170
            refine md_field H.e9 ?_
            repeat first | refine bq_t (by decide) ?_ | refine bq_f (by decide) ?_ | refine bq_f na ?_ | refine bq_f nb ?_ | refine bq_f nd ?_ | refine bq_t pa (md_ends H.e5 ?_) | refine bq_t pa (md_ends_n (show ¬ (8 : Int32) = 0 by decide) ?_) | refine bq_t pb (md_ends H.e5 ?_) | refine bq_t pb (md_ends_n (show ¬ (8 : Int32) = 0 by decide) ?_) | refine bq_t pd (md_ends H.e5 ?_) | refine bq_t pd (md_ends_n (show ¬ (8 : Int32) = 0 by decide) ?_)
            exact bq_f (show ¬ (8 : Int32) ≤ 0 by decide) hQ
      · rcases Classical.em (fI w 16 &&& 1 = 1) with pb | nb
        · rcases Classical.em (fI w 6 &&& 1 = 1) with pd | nd
          · unfold wp_Md_operate
            rw [ho]
            repeat first | refine bq_t (by decide) ?_ | refine bq_f (by decide) ?_
            unfold wp_Md_fractions
            refine md_field H.e9 (md_field H.e9 (md_field H.e9 ?_))
            rw [hr]
            repeat first | refine bq_t (by decide) ?_ | refine bq_f (by decide) ?_
            refine fun x ex => ?_
            rw [H.e9, hf] at ex
            subst ex
            repeat first | refine bq_t (by decide) ?_ | refine bq_f (by decide) ?_
            try unfold wj_Md_fractions_170
            refine md_field H.e9 ?_
            repeat first | refine bq_t (by decide) ?_ | refine bq_f (by decide) ?_ | refine bq_f na ?_ | refine bq_f nb ?_ | refine bq_f nd ?_ | refine bq_t pa (md_ends H.e5 ?_) | refine bq_t pa (md_ends_n (show ¬ (8 : Int32) = 0 by decide) ?_) | refine bq_t pb (md_ends H.e5 ?_) | refine bq_t pb (md_ends_n (show ¬ (8 : Int32) = 0 by decide) ?_) | refine bq_t pd (md_ends H.e5 ?_) | refine bq_t pd (md_ends_n (show ¬ (8 : Int32) = 0 by decide) ?_)
            exact bq_f (show ¬ (8 : Int32) ≤ 0 by decide) hQ
          · unfold wp_Md_operate
            rw [ho]
            repeat first | refine bq_t (by decide) ?_ | refine bq_f (by decide) ?_
            unfold wp_Md_fractions
            refine md_field H.e9 (md_field H.e9 (md_field H.e9 ?_))
            rw [hr]
            repeat first | refine bq_t (by decide) ?_ | refine bq_f (by decide) ?_
            refine fun x ex => ?_
            rw [H.e9, hf] at ex
            subst ex
            repeat first | refine bq_t (by decide) ?_ | refine bq_f (by decide) ?_
            try unfold wj_Md_fractions_170
            refine md_field H.e9 ?_
            repeat first | refine bq_t (by decide) ?_ | refine bq_f (by decide) ?_ | refine bq_f na ?_ | refine bq_f nb ?_ | refine bq_f nd ?_ | refine bq_t pa (md_ends H.e5 ?_) | refine bq_t pa (md_ends_n (show ¬ (8 : Int32) = 0 by decide) ?_) | refine bq_t pb (md_ends H.e5 ?_) | refine bq_t pb (md_ends_n (show ¬ (8 : Int32) = 0 by decide) ?_) | refine bq_t pd (md_ends H.e5 ?_) | refine bq_t pd (md_ends_n (show ¬ (8 : Int32) = 0 by decide) ?_)
            exact bq_f (show ¬ (8 : Int32) ≤ 0 by decide) hQ
        · rcases Classical.em (fI w 6 &&& 1 = 1) with pd | nd
          · unfold wp_Md_operate
            rw [ho]
            repeat first | refine bq_t (by decide) ?_ | refine bq_f (by decide) ?_
            unfold wp_Md_fractions
            refine md_field H.e9 (md_field H.e9 (md_field H.e9 ?_))
            rw [hr]
            repeat first | refine bq_t (by decide) ?_ | refine bq_f (by decide) ?_
            refine fun x ex => ?_
            rw [H.e9, hf] at ex
            subst ex
            repeat first | refine bq_t (by decide) ?_ | refine bq_f (by decide) ?_
            try unfold wj_Md_fractions_170
            refine md_field H.e9 ?_
            repeat first | refine bq_t (by decide) ?_ | refine bq_f (by decide) ?_ | refine bq_f na ?_ | refine bq_f nb ?_ | refine bq_f nd ?_ | refine bq_t pa (md_ends H.e5 ?_) | refine bq_t pa (md_ends_n (show ¬ (8 : Int32) = 0 by decide) ?_) | refine bq_t pb (md_ends H.e5 ?_) | refine bq_t pb (md_ends_n (show ¬ (8 : Int32) = 0 by decide) ?_) | refine bq_t pd (md_ends H.e5 ?_) | refine bq_t pd (md_ends_n (show ¬ (8 : Int32) = 0 by decide) ?_)
            exact bq_f (show ¬ (8 : Int32) ≤ 0 by decide) hQ
          · exact absurd (⟨qa.mpr na, qb.mpr nb, qd.mpr nd⟩) he

theorem i_subf_d (H : pre mn g rg hq mf cd fg w dd bm rr kt) (ho : zz_ushr w 26 = 17) (hr : fI w 21 = 17) (hf : w &&& 63 = 1) : pfx ms mn g rg hq mf cd fg w dd bm rr kt := by
  obtain ⟨a, ha, ea⟩ := fI_n w 11
  obtain ⟨b, hb, eb⟩ := fI_n w 16
  obtain ⟨d, hd, ed⟩ := fI_n w 6
  by_cases he : evn 1 a ∧ evn 1 b ∧ evn 1 d
  · refine pfx_fr H (rg' := rg) (cd' := cd) (fg' := fgR fg 1 d (twoB 1 1 (fbt fg 1 a) (fbt fg 1 b))) (rr' := rrR rr 1 d (twoB 1 1 (fbt fg 1 a) (fbt fg 1 b))) (q_fgR hd he.2.2 H.rel) (fun L O P hP => ?_) (fun dd l1 l2 H Q hQ => ?_)
    · unfold wp_Pr_perform
      refine pr_op ?_
      rw [ho]
      repeat first | refine bq_t (by decide) ?_ | refine bq_f (by decide) ?_
      refine pr_rs ?_
      rw [hr]
      repeat first | refine bq_t (by decide) ?_ | refine bq_f (by decide) ?_
      refine pr_rt ⟨fI_in w 16, fun t et => ?_⟩
      subst et
      unfold wp_Fu_perform
      refine fun x ex => ?_
      have ex : x = 17 := ex.trans hr
      subst ex
      repeat first | refine bq_t (by decide) ?_ | refine bq_f (by decide) ?_
      refine fun y ey => ?_
      rw [hf] at ey
      subst ey
      repeat first | refine bq_t (by decide) ?_ | refine bq_f (by decide) ?_
      exact fu_compute hf (Or.inr (Or.inl rfl)) ha hb hd ea eb ed (fun _ L' O' => hP L' O') (fun q => absurd he q)
    · unfold wp_Md_operate
      rw [ho]
      repeat first | refine bq_t (by decide) ?_ | refine bq_f (by decide) ?_
      unfold wp_Md_fractions
      refine md_field H.e9 (md_field H.e9 (md_field H.e9 ?_))
      rw [hr]
      repeat first | refine bq_t (by decide) ?_ | refine bq_f (by decide) ?_
      have na := (evx ha ea).mp he.1
      have nb := (evx hb eb).mp he.2.1
      have nd := (evx hd ed).mp he.2.2
      refine fun x ex => ?_
      rw [H.e9, hf] at ex
      subst ex
      repeat first | refine bq_t (by decide) ?_ | refine bq_f (by decide) ?_
      try unfold wj_Md_fractions_170
      refine md_field H.e9 ?_
      repeat first | refine bq_t (by decide) ?_ | refine bq_f (by decide) ?_ | refine bq_f na ?_ | refine bq_f nb ?_ | refine bq_f nd ?_ | refine bq_t pa (md_ends H.e5 ?_) | refine bq_t pa (md_ends_n (show ¬ (8 : Int32) = 0 by decide) ?_) | refine bq_t pb (md_ends H.e5 ?_) | refine bq_t pb (md_ends_n (show ¬ (8 : Int32) = 0 by decide) ?_) | refine bq_t pd (md_ends H.e5 ?_) | refine bq_t pd (md_ends_n (show ¬ (8 : Int32) = 0 by decide) ?_)
      refine bq_t (show dd 5 ≤ (0 : Int32) by rw [H.e5]; decide) ?_
      refine md_bits H.rel ha ea he.1 ?_
      refine bq_t (by decide) ?_
      refine bq_f (by decide) ?_
      refine md_bits H.rel hb eb he.2.1 ?_
      refine md_two (fbt_fin _ _ _) (fbt_fin _ _ _) (Or.inr (Or.inl rfl)) (fun dd' l1' l2' hl => ?_)
      have e5 : dd' 5 = 0 := by rw [hl 5 (by decide)]; exact H.e5
      exact md_put e5 hd ed he.2.2 (hQ _ _ _ hl)
  · refine pfx_mk H 8 (fun L O => (g, rg, hq, mf, cd, fg, L, O)) (fun dd l1 l2 => (upd dd 5 8, l1, l2, bm, rr, kt)) (fun L O P hP => ?_) (fun dd l1 l2 H L O => ⟨oc_end (by unfold q_e; simp) H.rel H.nxt rfl (fun j _ h => pk_un h), fun Q hQ => ?_⟩) (fun _ _ _ _ => rfl) (fun _ _ _ _ _ hs => ⟨by repeat first | exact hs | apply lo_upd, rfl, rfl, rfl⟩) (by first | exact Or.inr (fun _ _ => rfl) | exact Or.inl (by unfold q_e; decide)) (fun _ _ _ => rfl)
    · unfold wp_Pr_perform
      refine pr_op ?_
      rw [ho]
      repeat first | refine bq_t (by decide) ?_ | refine bq_f (by decide) ?_
      refine pr_rs ?_
      rw [hr]
      repeat first | refine bq_t (by decide) ?_ | refine bq_f (by decide) ?_
      refine pr_rt ⟨fI_in w 16, fun t et => ?_⟩
      subst et
      unfold wp_Fu_perform
      refine fun x ex => ?_
      have ex : x = 17 := ex.trans hr
      subst ex
      repeat first | refine bq_t (by decide) ?_ | refine bq_f (by decide) ?_
      refine fun y ey => ?_
      rw [hf] at ey
      subst ey
      repeat first | refine bq_t (by decide) ?_ | refine bq_f (by decide) ?_
      exact fu_compute hf (Or.inr (Or.inl rfl)) ha hb hd ea eb ed (fun q => absurd q he) (fun _ => hP)
    · have qa := evx (w := w) ha ea
      have qb := evx (w := w) hb eb
      have qd := evx (w := w) hd ed
      rcases Classical.em (fI w 11 &&& 1 = 1) with pa | na
      · rcases Classical.em (fI w 16 &&& 1 = 1) with pb | nb
        · rcases Classical.em (fI w 6 &&& 1 = 1) with pd | nd
          · unfold wp_Md_operate
            rw [ho]
            repeat first | refine bq_t (by decide) ?_ | refine bq_f (by decide) ?_
            unfold wp_Md_fractions
            refine md_field H.e9 (md_field H.e9 (md_field H.e9 ?_))
            rw [hr]
            repeat first | refine bq_t (by decide) ?_ | refine bq_f (by decide) ?_
            refine fun x ex => ?_
            rw [H.e9, hf] at ex
            subst ex
            repeat first | refine bq_t (by decide) ?_ | refine bq_f (by decide) ?_
            try unfold wj_Md_fractions_170
            refine md_field H.e9 ?_
            repeat first | refine bq_t (by decide) ?_ | refine bq_f (by decide) ?_ | refine bq_f na ?_ | refine bq_f nb ?_ | refine bq_f nd ?_ | refine bq_t pa (md_ends H.e5 ?_) | refine bq_t pa (md_ends_n (show ¬ (8 : Int32) = 0 by decide) ?_) | refine bq_t pb (md_ends H.e5 ?_) | refine bq_t pb (md_ends_n (show ¬ (8 : Int32) = 0 by decide) ?_) | refine bq_t pd (md_ends H.e5 ?_) | refine bq_t pd (md_ends_n (show ¬ (8 : Int32) = 0 by decide) ?_)
            exact bq_f (show ¬ (8 : Int32) ≤ 0 by decide) hQ
          · unfold wp_Md_operate
            rw [ho]
            repeat first | refine bq_t (by decide) ?_ | refine bq_f (by decide) ?_
            unfold wp_Md_fractions
            refine md_field H.e9 (md_field H.e9 (md_field H.e9 ?_))
            rw [hr]
            repeat first | refine bq_t (by decide) ?_ | refine bq_f (by decide) ?_
            refine fun x ex => ?_
            rw [H.e9, hf] at ex
            subst ex
            repeat first | refine bq_t (by decide) ?_ | refine bq_f (by decide) ?_
            try unfold wj_Md_fractions_170
            refine md_field H.e9 ?_
            repeat first | refine bq_t (by decide) ?_ | refine bq_f (by decide) ?_ | refine bq_f na ?_ | refine bq_f nb ?_ | refine bq_f nd ?_ | refine bq_t pa (md_ends H.e5 ?_) | refine bq_t pa (md_ends_n (show ¬ (8 : Int32) = 0 by decide) ?_) | refine bq_t pb (md_ends H.e5 ?_) | refine bq_t pb (md_ends_n (show ¬ (8 : Int32) = 0 by decide) ?_) | refine bq_t pd (md_ends H.e5 ?_) | refine bq_t pd (md_ends_n (show ¬ (8 : Int32) = 0 by decide) ?_)
            exact bq_f (show ¬ (8 : Int32) ≤ 0 by decide) hQ
        · rcases Classical.em (fI w 6 &&& 1 = 1) with pd | nd
          · unfold wp_Md_operate
            rw [ho]
            repeat first | refine bq_t (by decide) ?_ | refine bq_f (by decide) ?_
            unfold wp_Md_fractions
            refine md_field H.e9 (md_field H.e9 (md_field H.e9 ?_))
            rw [hr]
            repeat first | refine bq_t (by decide) ?_ | refine bq_f (by decide) ?_
            refine fun x ex => ?_
            rw [H.e9, hf] at ex
            subst ex
            repeat first | refine bq_t (by decide) ?_ | refine bq_f (by decide) ?_
            try unfold wj_Md_fractions_170
            refine md_field H.e9 ?_
            repeat first | refine bq_t (by decide) ?_ | refine bq_f (by decide) ?_ | refine bq_f na ?_ | refine bq_f nb ?_ | refine bq_f nd ?_ | refine bq_t pa (md_ends H.e5 ?_) | refine bq_t pa (md_ends_n (show ¬ (8 : Int32) = 0 by decide) ?_) | refine bq_t pb (md_ends H.e5 ?_) | refine bq_t pb (md_ends_n (show ¬ (8 : Int32) = 0 by decide) ?_) | refine bq_t pd (md_ends H.e5 ?_) | refine bq_t pd (md_ends_n (show ¬ (8 : Int32) = 0 by decide) ?_)
            exact bq_f (show ¬ (8 : Int32) ≤ 0 by decide) hQ
          · unfold wp_Md_operate
            rw [ho]
            repeat first | refine bq_t (by decide) ?_ | refine bq_f (by decide) ?_
            unfold wp_Md_fractions
            refine md_field H.e9 (md_field H.e9 (md_field H.e9 ?_))
            rw [hr]
            repeat first | refine bq_t (by decide) ?_ | refine bq_f (by decide) ?_
            refine fun x ex => ?_
            rw [H.e9, hf] at ex
            subst ex
            repeat first | refine bq_t (by decide) ?_ | refine bq_f (by decide) ?_
            try unfold wj_Md_fractions_170
            refine md_field H.e9 ?_
            repeat first | refine bq_t (by decide) ?_ | refine bq_f (by decide) ?_ | refine bq_f na ?_ | refine bq_f nb ?_ | refine bq_f nd ?_ | refine bq_t pa (md_ends H.e5 ?_) | refine bq_t pa (md_ends_n (show ¬ (8 : Int32) = 0 by decide) ?_) | refine bq_t pb (md_ends H.e5 ?_) | refine bq_t pb (md_ends_n (show ¬ (8 : Int32) = 0 by decide) ?_) | refine bq_t pd (md_ends H.e5 ?_) | refine bq_t pd (md_ends_n (show ¬ (8 : Int32) = 0 by decide) ?_)
            exact bq_f (show ¬ (8 : Int32) ≤ 0 by decide) hQ
      · rcases Classical.em (fI w 16 &&& 1 = 1) with pb | nb
        · rcases Classical.em (fI w 6 &&& 1 = 1) with pd | nd
          · unfold wp_Md_operate
            rw [ho]
            repeat first | refine bq_t (by decide) ?_ | refine bq_f (by decide) ?_
            unfold wp_Md_fractions
            refine md_field H.e9 (md_field H.e9 (md_field H.e9 ?_))
            rw [hr]
            repeat first | refine bq_t (by decide) ?_ | refine bq_f (by decide) ?_
            refine fun x ex => ?_
            rw [H.e9, hf] at ex
            subst ex
            repeat first | refine bq_t (by decide) ?_ | refine bq_f (by decide) ?_
            try unfold wj_Md_fractions_170
            refine md_field H.e9 ?_
            repeat first | refine bq_t (by decide) ?_ | refine bq_f (by decide) ?_ | refine bq_f na ?_ | refine bq_f nb ?_ | refine bq_f nd ?_ | refine bq_t pa (md_ends H.e5 ?_) | refine bq_t pa (md_ends_n (show ¬ (8 : Int32) = 0 by decide) ?_) | refine bq_t pb (md_ends H.e5 ?_) | refine bq_t pb (md_ends_n (show ¬ (8 : Int32) = 0 by decide) ?_) | refine bq_t pd (md_ends H.e5 ?_) | refine bq_t pd (md_ends_n (show ¬ (8 : Int32) = 0 by decide) ?_)
            exact bq_f (show ¬ (8 : Int32) ≤ 0 by decide) hQ
          · unfold wp_Md_operate
            rw [ho]
            repeat first | refine bq_t (by decide) ?_ | refine bq_f (by decide) ?_
            unfold wp_Md_fractions
            refine md_field H.e9 (md_field H.e9 (md_field H.e9 ?_))
            rw [hr]
            repeat first | refine bq_t (by decide) ?_ | refine bq_f (by decide) ?_
            refine fun x ex => ?_
            rw [H.e9, hf] at ex
            subst ex
            repeat first | refine bq_t (by decide) ?_ | refine bq_f (by decide) ?_
            try unfold wj_Md_fractions_170
            refine md_field H.e9 ?_
            repeat first | refine bq_t (by decide) ?_ | refine bq_f (by decide) ?_ | refine bq_f na ?_ | refine bq_f nb ?_ | refine bq_f nd ?_ | refine bq_t pa (md_ends H.e5 ?_) | refine bq_t pa (md_ends_n (show ¬ (8 : Int32) = 0 by decide) ?_) | refine bq_t pb (md_ends H.e5 ?_) | refine bq_t pb (md_ends_n (show ¬ (8 : Int32) = 0 by decide) ?_) | refine bq_t pd (md_ends H.e5 ?_) | refine bq_t pd (md_ends_n (show ¬ (8 : Int32) = 0 by decide) ?_)
            exact bq_f (show ¬ (8 : Int32) ≤ 0 by decide) hQ
        · rcases Classical.em (fI w 6 &&& 1 = 1) with pd | nd
          · unfold wp_Md_operate
            rw [ho]
            repeat first | refine bq_t (by decide) ?_ | refine bq_f (by decide) ?_
            unfold wp_Md_fractions
            refine md_field H.e9 (md_field H.e9 (md_field H.e9 ?_))
            rw [hr]
            repeat first | refine bq_t (by decide) ?_ | refine bq_f (by decide) ?_
            refine fun x ex => ?_
            rw [H.e9, hf] at ex
            subst ex
            repeat first | refine bq_t (by decide) ?_ | refine bq_f (by decide) ?_
            try unfold wj_Md_fractions_170
            refine md_field H.e9 ?_
            repeat first | refine bq_t (by decide) ?_ | refine bq_f (by decide) ?_ | refine bq_f na ?_ | refine bq_f nb ?_ | refine bq_f nd ?_ | refine bq_t pa (md_ends H.e5 ?_) | refine bq_t pa (md_ends_n (show ¬ (8 : Int32) = 0 by decide) ?_) | refine bq_t pb (md_ends H.e5 ?_) | refine bq_t pb (md_ends_n (show ¬ (8 : Int32) = 0 by decide) ?_) | refine bq_t pd (md_ends H.e5 ?_) | refine bq_t pd (md_ends_n (show ¬ (8 : Int32) = 0 by decide) ?_)
            exact bq_f (show ¬ (8 : Int32) ≤ 0 by decide) hQ
          · exact absurd (⟨qa.mpr na, qb.mpr nb, qd.mpr nd⟩) he

theorem i_mulf_d (H : pre mn g rg hq mf cd fg w dd bm rr kt) (ho : zz_ushr w 26 = 17) (hr : fI w 21 = 17) (hf : w &&& 63 = 2) : pfx ms mn g rg hq mf cd fg w dd bm rr kt := by
  obtain ⟨a, ha, ea⟩ := fI_n w 11
  obtain ⟨b, hb, eb⟩ := fI_n w 16
  obtain ⟨d, hd, ed⟩ := fI_n w 6
  by_cases he : evn 1 a ∧ evn 1 b ∧ evn 1 d
  · refine pfx_fr H (rg' := rg) (cd' := cd) (fg' := fgR fg 1 d (twoB 2 1 (fbt fg 1 a) (fbt fg 1 b))) (rr' := rrR rr 1 d (twoB 2 1 (fbt fg 1 a) (fbt fg 1 b))) (q_fgR hd he.2.2 H.rel) (fun L O P hP => ?_) (fun dd l1 l2 H Q hQ => ?_)
    · unfold wp_Pr_perform
      refine pr_op ?_
      rw [ho]
      repeat first | refine bq_t (by decide) ?_ | refine bq_f (by decide) ?_
      refine pr_rs ?_
      rw [hr]
      repeat first | refine bq_t (by decide) ?_ | refine bq_f (by decide) ?_
      refine pr_rt ⟨fI_in w 16, fun t et => ?_⟩
      subst et
      unfold wp_Fu_perform
      refine fun x ex => ?_
      have ex : x = 17 := ex.trans hr
      subst ex
      repeat first | refine bq_t (by decide) ?_ | refine bq_f (by decide) ?_
      refine fun y ey => ?_
      rw [hf] at ey
      subst ey
      repeat first | refine bq_t (by decide) ?_ | refine bq_f (by decide) ?_
      exact fu_compute hf (Or.inr (Or.inr (Or.inl rfl))) ha hb hd ea eb ed (fun _ L' O' => hP L' O') (fun q => absurd he q)
    · unfold wp_Md_operate
      rw [ho]
      repeat first | refine bq_t (by decide) ?_ | refine bq_f (by decide) ?_
      unfold wp_Md_fractions
      refine md_field H.e9 (md_field H.e9 (md_field H.e9 ?_))
      rw [hr]
      repeat first | refine bq_t (by decide) ?_ | refine bq_f (by decide) ?_
      have na := (evx ha ea).mp he.1
      have nb := (evx hb eb).mp he.2.1
      have nd := (evx hd ed).mp he.2.2
      refine fun x ex => ?_
      rw [H.e9, hf] at ex
      subst ex
      repeat first | refine bq_t (by decide) ?_ | refine bq_f (by decide) ?_
      try unfold wj_Md_fractions_170
      refine md_field H.e9 ?_
      repeat first | refine bq_t (by decide) ?_ | refine bq_f (by decide) ?_ | refine bq_f na ?_ | refine bq_f nb ?_ | refine bq_f nd ?_ | refine bq_t pa (md_ends H.e5 ?_) | refine bq_t pa (md_ends_n (show ¬ (8 : Int32) = 0 by decide) ?_) | refine bq_t pb (md_ends H.e5 ?_) | refine bq_t pb (md_ends_n (show ¬ (8 : Int32) = 0 by decide) ?_) | refine bq_t pd (md_ends H.e5 ?_) | refine bq_t pd (md_ends_n (show ¬ (8 : Int32) = 0 by decide) ?_)
      refine bq_t (show dd 5 ≤ (0 : Int32) by rw [H.e5]; decide) ?_
      refine md_bits H.rel ha ea he.1 ?_
      refine bq_t (by decide) ?_
      refine bq_f (by decide) ?_
      refine md_bits H.rel hb eb he.2.1 ?_
      refine md_two (fbt_fin _ _ _) (fbt_fin _ _ _) (Or.inr (Or.inr (Or.inl rfl))) (fun dd' l1' l2' hl => ?_)
      have e5 : dd' 5 = 0 := by rw [hl 5 (by decide)]; exact H.e5
      exact md_put e5 hd ed he.2.2 (hQ _ _ _ hl)
  · refine pfx_mk H 8 (fun L O => (g, rg, hq, mf, cd, fg, L, O)) (fun dd l1 l2 => (upd dd 5 8, l1, l2, bm, rr, kt)) (fun L O P hP => ?_) (fun dd l1 l2 H L O => ⟨oc_end (by unfold q_e; simp) H.rel H.nxt rfl (fun j _ h => pk_un h), fun Q hQ => ?_⟩) (fun _ _ _ _ => rfl) (fun _ _ _ _ _ hs => ⟨by repeat first | exact hs | apply lo_upd, rfl, rfl, rfl⟩) (by first | exact Or.inr (fun _ _ => rfl) | exact Or.inl (by unfold q_e; decide)) (fun _ _ _ => rfl)
    · unfold wp_Pr_perform
      refine pr_op ?_
      rw [ho]
      repeat first | refine bq_t (by decide) ?_ | refine bq_f (by decide) ?_
      refine pr_rs ?_
      rw [hr]
      repeat first | refine bq_t (by decide) ?_ | refine bq_f (by decide) ?_
      refine pr_rt ⟨fI_in w 16, fun t et => ?_⟩
      subst et
      unfold wp_Fu_perform
      refine fun x ex => ?_
      have ex : x = 17 := ex.trans hr
      subst ex
      repeat first | refine bq_t (by decide) ?_ | refine bq_f (by decide) ?_
      refine fun y ey => ?_
      rw [hf] at ey
      subst ey
      repeat first | refine bq_t (by decide) ?_ | refine bq_f (by decide) ?_
      exact fu_compute hf (Or.inr (Or.inr (Or.inl rfl))) ha hb hd ea eb ed (fun q => absurd q he) (fun _ => hP)
    · have qa := evx (w := w) ha ea
      have qb := evx (w := w) hb eb
      have qd := evx (w := w) hd ed
      rcases Classical.em (fI w 11 &&& 1 = 1) with pa | na
      · rcases Classical.em (fI w 16 &&& 1 = 1) with pb | nb
        · rcases Classical.em (fI w 6 &&& 1 = 1) with pd | nd
          · unfold wp_Md_operate
            rw [ho]
            repeat first | refine bq_t (by decide) ?_ | refine bq_f (by decide) ?_
            unfold wp_Md_fractions
            refine md_field H.e9 (md_field H.e9 (md_field H.e9 ?_))
            rw [hr]
            repeat first | refine bq_t (by decide) ?_ | refine bq_f (by decide) ?_
            refine fun x ex => ?_
            rw [H.e9, hf] at ex
            subst ex
            repeat first | refine bq_t (by decide) ?_ | refine bq_f (by decide) ?_
            try unfold wj_Md_fractions_170
            refine md_field H.e9 ?_
            repeat first | refine bq_t (by decide) ?_ | refine bq_f (by decide) ?_ | refine bq_f na ?_ | refine bq_f nb ?_ | refine bq_f nd ?_ | refine bq_t pa (md_ends H.e5 ?_) | refine bq_t pa (md_ends_n (show ¬ (8 : Int32) = 0 by decide) ?_) | refine bq_t pb (md_ends H.e5 ?_) | refine bq_t pb (md_ends_n (show ¬ (8 : Int32) = 0 by decide) ?_) | refine bq_t pd (md_ends H.e5 ?_) | refine bq_t pd (md_ends_n (show ¬ (8 : Int32) = 0 by decide) ?_)
            exact bq_f (show ¬ (8 : Int32) ≤ 0 by decide) hQ
          · unfold wp_Md_operate
            rw [ho]
            repeat first | refine bq_t (by decide) ?_ | refine bq_f (by decide) ?_
            unfold wp_Md_fractions
            refine md_field H.e9 (md_field H.e9 (md_field H.e9 ?_))
            rw [hr]
            repeat first | refine bq_t (by decide) ?_ | refine bq_f (by decide) ?_
            refine fun x ex => ?_
            rw [H.e9, hf] at ex
            subst ex
            repeat first | refine bq_t (by decide) ?_ | refine bq_f (by decide) ?_
            try unfold wj_Md_fractions_170
            refine md_field H.e9 ?_
            repeat first | refine bq_t (by decide) ?_ | refine bq_f (by decide) ?_ | refine bq_f na ?_ | refine bq_f nb ?_ | refine bq_f nd ?_ | refine bq_t pa (md_ends H.e5 ?_) | refine bq_t pa (md_ends_n (show ¬ (8 : Int32) = 0 by decide) ?_) | refine bq_t pb (md_ends H.e5 ?_) | refine bq_t pb (md_ends_n (show ¬ (8 : Int32) = 0 by decide) ?_) | refine bq_t pd (md_ends H.e5 ?_) | refine bq_t pd (md_ends_n (show ¬ (8 : Int32) = 0 by decide) ?_)
            exact bq_f (show ¬ (8 : Int32) ≤ 0 by decide) hQ
        · rcases Classical.em (fI w 6 &&& 1 = 1) with pd | nd
          · unfold wp_Md_operate
            rw [ho]
            repeat first | refine bq_t (by decide) ?_ | refine bq_f (by decide) ?_
            unfold wp_Md_fractions
            refine md_field H.e9 (md_field H.e9 (md_field H.e9 ?_))
            rw [hr]
            repeat first | refine bq_t (by decide) ?_ | refine bq_f (by decide) ?_
            refine fun x ex => ?_
            rw [H.e9, hf] at ex
            subst ex
            repeat first | refine bq_t (by decide) ?_ | refine bq_f (by decide) ?_
            try unfold wj_Md_fractions_170
            refine md_field H.e9 ?_
            repeat first | refine bq_t (by decide) ?_ | refine bq_f (by decide) ?_ | refine bq_f na ?_ | refine bq_f nb ?_ | refine bq_f nd ?_ | refine bq_t pa (md_ends H.e5 ?_) | refine bq_t pa (md_ends_n (show ¬ (8 : Int32) = 0 by decide) ?_) | refine bq_t pb (md_ends H.e5 ?_) | refine bq_t pb (md_ends_n (show ¬ (8 : Int32) = 0 by decide) ?_) | refine bq_t pd (md_ends H.e5 ?_) | refine bq_t pd (md_ends_n (show ¬ (8 : Int32) = 0 by decide) ?_)
            exact bq_f (show ¬ (8 : Int32) ≤ 0 by decide) hQ
          · unfold wp_Md_operate
            rw [ho]
            repeat first | refine bq_t (by decide) ?_ | refine bq_f (by decide) ?_
            unfold wp_Md_fractions
            refine md_field H.e9 (md_field H.e9 (md_field H.e9 ?_))
            rw [hr]
            repeat first | refine bq_t (by decide) ?_ | refine bq_f (by decide) ?_
            refine fun x ex => ?_
            rw [H.e9, hf] at ex
            subst ex
            repeat first | refine bq_t (by decide) ?_ | refine bq_f (by decide) ?_
            try unfold wj_Md_fractions_170
            refine md_field H.e9 ?_
            repeat first | refine bq_t (by decide) ?_ | refine bq_f (by decide) ?_ | refine bq_f na ?_ | refine bq_f nb ?_ | refine bq_f nd ?_ | refine bq_t pa (md_ends H.e5 ?_) | refine bq_t pa (md_ends_n (show ¬ (8 : Int32) = 0 by decide) ?_) | refine bq_t pb (md_ends H.e5 ?_) | refine bq_t pb (md_ends_n (show ¬ (8 : Int32) = 0 by decide) ?_) | refine bq_t pd (md_ends H.e5 ?_) | refine bq_t pd (md_ends_n (show ¬ (8 : Int32) = 0 by decide) ?_)
            exact bq_f (show ¬ (8 : Int32) ≤ 0 by decide) hQ
      · rcases Classical.em (fI w 16 &&& 1 = 1) with pb | nb
        · rcases Classical.em (fI w 6 &&& 1 = 1) with pd | nd
          · unfold wp_Md_operate
            rw [ho]
            repeat first | refine bq_t (by decide) ?_ | refine bq_f (by decide) ?_
            unfold wp_Md_fractions
            refine md_field H.e9 (md_field H.e9 (md_field H.e9 ?_))
            rw [hr]
            repeat first | refine bq_t (by decide) ?_ | refine bq_f (by decide) ?_
            refine fun x ex => ?_
            rw [H.e9, hf] at ex
            subst ex
            repeat first | refine bq_t (by decide) ?_ | refine bq_f (by decide) ?_
            try unfold wj_Md_fractions_170
            refine md_field H.e9 ?_
            repeat first | refine bq_t (by decide) ?_ | refine bq_f (by decide) ?_ | refine bq_f na ?_ | refine bq_f nb ?_ | refine bq_f nd ?_ | refine bq_t pa (md_ends H.e5 ?_) | refine bq_t pa (md_ends_n (show ¬ (8 : Int32) = 0 by decide) ?_) | refine bq_t pb (md_ends H.e5 ?_) | refine bq_t pb (md_ends_n (show ¬ (8 : Int32) = 0 by decide) ?_) | refine bq_t pd (md_ends H.e5 ?_) | refine bq_t pd (md_ends_n (show ¬ (8 : Int32) = 0 by decide) ?_)
            exact bq_f (show ¬ (8 : Int32) ≤ 0 by decide) hQ
          · unfold wp_Md_operate
            rw [ho]
            repeat first | refine bq_t (by decide) ?_ | refine bq_f (by decide) ?_
            unfold wp_Md_fractions
            refine md_field H.e9 (md_field H.e9 (md_field H.e9 ?_))
            rw [hr]
            repeat first | refine bq_t (by decide) ?_ | refine bq_f (by decide) ?_
            refine fun x ex => ?_
            rw [H.e9, hf] at ex
            subst ex
            repeat first | refine bq_t (by decide) ?_ | refine bq_f (by decide) ?_
            try unfold wj_Md_fractions_170
            refine md_field H.e9 ?_
            repeat first | refine bq_t (by decide) ?_ | refine bq_f (by decide) ?_ | refine bq_f na ?_ | refine bq_f nb ?_ | refine bq_f nd ?_ | refine bq_t pa (md_ends H.e5 ?_) | refine bq_t pa (md_ends_n (show ¬ (8 : Int32) = 0 by decide) ?_) | refine bq_t pb (md_ends H.e5 ?_) | refine bq_t pb (md_ends_n (show ¬ (8 : Int32) = 0 by decide) ?_) | refine bq_t pd (md_ends H.e5 ?_) | refine bq_t pd (md_ends_n (show ¬ (8 : Int32) = 0 by decide) ?_)
            exact bq_f (show ¬ (8 : Int32) ≤ 0 by decide) hQ
        · rcases Classical.em (fI w 6 &&& 1 = 1) with pd | nd
          · unfold wp_Md_operate
            rw [ho]
            repeat first | refine bq_t (by decide) ?_ | refine bq_f (by decide) ?_
            unfold wp_Md_fractions
            refine md_field H.e9 (md_field H.e9 (md_field H.e9 ?_))
            rw [hr]
            repeat first | refine bq_t (by decide) ?_ | refine bq_f (by decide) ?_
            refine fun x ex => ?_
            rw [H.e9, hf] at ex
            subst ex
            repeat first | refine bq_t (by decide) ?_ | refine bq_f (by decide) ?_
            try unfold wj_Md_fractions_170
            refine md_field H.e9 ?_
            repeat first | refine bq_t (by decide) ?_ | refine bq_f (by decide) ?_ | refine bq_f na ?_ | refine bq_f nb ?_ | refine bq_f nd ?_ | refine bq_t pa (md_ends H.e5 ?_) | refine bq_t pa (md_ends_n (show ¬ (8 : Int32) = 0 by decide) ?_) | refine bq_t pb (md_ends H.e5 ?_) | refine bq_t pb (md_ends_n (show ¬ (8 : Int32) = 0 by decide) ?_) | refine bq_t pd (md_ends H.e5 ?_) | refine bq_t pd (md_ends_n (show ¬ (8 : Int32) = 0 by decide) ?_)
            exact bq_f (show ¬ (8 : Int32) ≤ 0 by decide) hQ
          · exact absurd (⟨qa.mpr na, qb.mpr nb, qd.mpr nd⟩) he

theorem i_divf_d (H : pre mn g rg hq mf cd fg w dd bm rr kt) (ho : zz_ushr w 26 = 17) (hr : fI w 21 = 17) (hf : w &&& 63 = 3) : pfx ms mn g rg hq mf cd fg w dd bm rr kt := by
  obtain ⟨a, ha, ea⟩ := fI_n w 11
  obtain ⟨b, hb, eb⟩ := fI_n w 16
  obtain ⟨d, hd, ed⟩ := fI_n w 6
  by_cases he : evn 1 a ∧ evn 1 b ∧ evn 1 d
  · refine pfx_fr H (rg' := rg) (cd' := cd) (fg' := fgR fg 1 d (twoB 3 1 (fbt fg 1 a) (fbt fg 1 b))) (rr' := rrR rr 1 d (twoB 3 1 (fbt fg 1 a) (fbt fg 1 b))) (q_fgR hd he.2.2 H.rel) (fun L O P hP => ?_) (fun dd l1 l2 H Q hQ => ?_)
    · unfold wp_Pr_perform
      refine pr_op ?_
      rw [ho]
      repeat first | refine bq_t (by decide) ?_ | refine bq_f (by decide) ?_
      refine pr_rs ?_
      rw [hr]
      repeat first | refine bq_t (by decide) ?_ | refine bq_f (by decide) ?_
      refine pr_rt ⟨fI_in w 16, fun t et => ?_⟩
      subst et
      unfold wp_Fu_perform
      refine fun x ex => ?_
      have ex : x = 17 := ex.trans hr
      subst ex
      repeat first | refine bq_t (by decide) ?_ | refine bq_f (by decide) ?_
      refine fun y ey => ?_
      rw [hf] at ey
      subst ey
      repeat first | refine bq_t (by decide) ?_ | refine bq_f (by decide) ?_
      exact fu_compute hf (Or.inr (Or.inr (Or.inr rfl))) ha hb hd ea eb ed (fun _ L' O' => hP L' O') (fun q => absurd he q)
    · unfold wp_Md_operate
      rw [ho]
      repeat first | refine bq_t (by decide) ?_ | refine bq_f (by decide) ?_
      unfold wp_Md_fractions
      refine md_field H.e9 (md_field H.e9 (md_field H.e9 ?_))
      rw [hr]
      repeat first | refine bq_t (by decide) ?_ | refine bq_f (by decide) ?_
      have na := (evx ha ea).mp he.1
      have nb := (evx hb eb).mp he.2.1
      have nd := (evx hd ed).mp he.2.2
      refine fun x ex => ?_
      rw [H.e9, hf] at ex
      subst ex
      repeat first | refine bq_t (by decide) ?_ | refine bq_f (by decide) ?_
      try unfold wj_Md_fractions_170
      refine md_field H.e9 ?_
      repeat first | refine bq_t (by decide) ?_ | refine bq_f (by decide) ?_ | refine bq_f na ?_ | refine bq_f nb ?_ | refine bq_f nd ?_ | refine bq_t pa (md_ends H.e5 ?_) | refine bq_t pa (md_ends_n (show ¬ (8 : Int32) = 0 by decide) ?_) | refine bq_t pb (md_ends H.e5 ?_) | refine bq_t pb (md_ends_n (show ¬ (8 : Int32) = 0 by decide) ?_) | refine bq_t pd (md_ends H.e5 ?_) | refine bq_t pd (md_ends_n (show ¬ (8 : Int32) = 0 by decide) ?_)
      refine bq_t (show dd 5 ≤ (0 : Int32) by rw [H.e5]; decide) ?_
      refine md_bits H.rel ha ea he.1 ?_
      refine bq_t (by decide) ?_
      refine bq_f (by decide) ?_
      refine md_bits H.rel hb eb he.2.1 ?_
      refine md_two (fbt_fin _ _ _) (fbt_fin _ _ _) (Or.inr (Or.inr (Or.inr rfl))) (fun dd' l1' l2' hl => ?_)
      have e5 : dd' 5 = 0 := by rw [hl 5 (by decide)]; exact H.e5
      exact md_put e5 hd ed he.2.2 (hQ _ _ _ hl)
  · refine pfx_mk H 8 (fun L O => (g, rg, hq, mf, cd, fg, L, O)) (fun dd l1 l2 => (upd dd 5 8, l1, l2, bm, rr, kt)) (fun L O P hP => ?_) (fun dd l1 l2 H L O => ⟨oc_end (by unfold q_e; simp) H.rel H.nxt rfl (fun j _ h => pk_un h), fun Q hQ => ?_⟩) (fun _ _ _ _ => rfl) (fun _ _ _ _ _ hs => ⟨by repeat first | exact hs | apply lo_upd, rfl, rfl, rfl⟩) (by first | exact Or.inr (fun _ _ => rfl) | exact Or.inl (by unfold q_e; decide)) (fun _ _ _ => rfl)
    · unfold wp_Pr_perform
      refine pr_op ?_
      rw [ho]
      repeat first | refine bq_t (by decide) ?_ | refine bq_f (by decide) ?_
      refine pr_rs ?_
      rw [hr]
      repeat first | refine bq_t (by decide) ?_ | refine bq_f (by decide) ?_
      refine pr_rt ⟨fI_in w 16, fun t et => ?_⟩
      subst et
      unfold wp_Fu_perform
      refine fun x ex => ?_
      have ex : x = 17 := ex.trans hr
      subst ex
      repeat first | refine bq_t (by decide) ?_ | refine bq_f (by decide) ?_
      refine fun y ey => ?_
      rw [hf] at ey
      subst ey
      repeat first | refine bq_t (by decide) ?_ | refine bq_f (by decide) ?_
      exact fu_compute hf (Or.inr (Or.inr (Or.inr rfl))) ha hb hd ea eb ed (fun q => absurd q he) (fun _ => hP)
    · have qa := evx (w := w) ha ea
      have qb := evx (w := w) hb eb
      have qd := evx (w := w) hd ed
      rcases Classical.em (fI w 11 &&& 1 = 1) with pa | na
      · rcases Classical.em (fI w 16 &&& 1 = 1) with pb | nb
        · rcases Classical.em (fI w 6 &&& 1 = 1) with pd | nd
          · unfold wp_Md_operate
            rw [ho]
            repeat first | refine bq_t (by decide) ?_ | refine bq_f (by decide) ?_
            unfold wp_Md_fractions
            refine md_field H.e9 (md_field H.e9 (md_field H.e9 ?_))
            rw [hr]
            repeat first | refine bq_t (by decide) ?_ | refine bq_f (by decide) ?_
            refine fun x ex => ?_
            rw [H.e9, hf] at ex
            subst ex
            repeat first | refine bq_t (by decide) ?_ | refine bq_f (by decide) ?_
            try unfold wj_Md_fractions_170
            refine md_field H.e9 ?_
            repeat first | refine bq_t (by decide) ?_ | refine bq_f (by decide) ?_ | refine bq_f na ?_ | refine bq_f nb ?_ | refine bq_f nd ?_ | refine bq_t pa (md_ends H.e5 ?_) | refine bq_t pa (md_ends_n (show ¬ (8 : Int32) = 0 by decide) ?_) | refine bq_t pb (md_ends H.e5 ?_) | refine bq_t pb (md_ends_n (show ¬ (8 : Int32) = 0 by decide) ?_) | refine bq_t pd (md_ends H.e5 ?_) | refine bq_t pd (md_ends_n (show ¬ (8 : Int32) = 0 by decide) ?_)
            exact bq_f (show ¬ (8 : Int32) ≤ 0 by decide) hQ
          · unfold wp_Md_operate
            rw [ho]
            repeat first | refine bq_t (by decide) ?_ | refine bq_f (by decide) ?_
            unfold wp_Md_fractions
            refine md_field H.e9 (md_field H.e9 (md_field H.e9 ?_))
            rw [hr]
            repeat first | refine bq_t (by decide) ?_ | refine bq_f (by decide) ?_
            refine fun x ex => ?_
            rw [H.e9, hf] at ex
            subst ex
            repeat first | refine bq_t (by decide) ?_ | refine bq_f (by decide) ?_
            try unfold wj_Md_fractions_170
            refine md_field H.e9 ?_
            repeat first | refine bq_t (by decide) ?_ | refine bq_f (by decide) ?_ | refine bq_f na ?_ | refine bq_f nb ?_ | refine bq_f nd ?_ | refine bq_t pa (md_ends H.e5 ?_) | refine bq_t pa (md_ends_n (show ¬ (8 : Int32) = 0 by decide) ?_) | refine bq_t pb (md_ends H.e5 ?_) | refine bq_t pb (md_ends_n (show ¬ (8 : Int32) = 0 by decide) ?_) | refine bq_t pd (md_ends H.e5 ?_) | refine bq_t pd (md_ends_n (show ¬ (8 : Int32) = 0 by decide) ?_)
            exact bq_f (show ¬ (8 : Int32) ≤ 0 by decide) hQ
        · rcases Classical.em (fI w 6 &&& 1 = 1) with pd | nd
          · unfold wp_Md_operate
            rw [ho]
            repeat first | refine bq_t (by decide) ?_ | refine bq_f (by decide) ?_
            unfold wp_Md_fractions
            refine md_field H.e9 (md_field H.e9 (md_field H.e9 ?_))
            rw [hr]
            repeat first | refine bq_t (by decide) ?_ | refine bq_f (by decide) ?_
            refine fun x ex => ?_
            rw [H.e9, hf] at ex
            subst ex
            repeat first | refine bq_t (by decide) ?_ | refine bq_f (by decide) ?_
            try unfold wj_Md_fractions_170
            refine md_field H.e9 ?_
            repeat first | refine bq_t (by decide) ?_ | refine bq_f (by decide) ?_ | refine bq_f na ?_ | refine bq_f nb ?_ | refine bq_f nd ?_ | refine bq_t pa (md_ends H.e5 ?_) | refine bq_t pa (md_ends_n (show ¬ (8 : Int32) = 0 by decide) ?_) | refine bq_t pb (md_ends H.e5 ?_) | refine bq_t pb (md_ends_n (show ¬ (8 : Int32) = 0 by decide) ?_) | refine bq_t pd (md_ends H.e5 ?_) | refine bq_t pd (md_ends_n (show ¬ (8 : Int32) = 0 by decide) ?_)
            exact bq_f (show ¬ (8 : Int32) ≤ 0 by decide) hQ
          · unfold wp_Md_operate
            rw [ho]
            repeat first | refine bq_t (by decide) ?_ | refine bq_f (by decide) ?_
            unfold wp_Md_fractions
            refine md_field H.e9 (md_field H.e9 (md_field H.e9 ?_))
            rw [hr]
            repeat first | refine bq_t (by decide) ?_ | refine bq_f (by decide) ?_
            refine fun x ex => ?_
            rw [H.e9, hf] at ex
            subst ex
            repeat first | refine bq_t (by decide) ?_ | refine bq_f (by decide) ?_
            try unfold wj_Md_fractions_170
            refine md_field H.e9 ?_
            repeat first | refine bq_t (by decide) ?_ | refine bq_f (by decide) ?_ | refine bq_f na ?_ | refine bq_f nb ?_ | refine bq_f nd ?_ | refine bq_t pa (md_ends H.e5 ?_) | refine bq_t pa (md_ends_n (show ¬ (8 : Int32) = 0 by decide) ?_) | refine bq_t pb (md_ends H.e5 ?_) | refine bq_t pb (md_ends_n (show ¬ (8 : Int32) = 0 by decide) ?_) | refine bq_t pd (md_ends H.e5 ?_) | refine bq_t pd (md_ends_n (show ¬ (8 : Int32) = 0 by decide) ?_)
            exact bq_f (show ¬ (8 : Int32) ≤ 0 by decide) hQ
      · rcases Classical.em (fI w 16 &&& 1 = 1) with pb | nb
        · rcases Classical.em (fI w 6 &&& 1 = 1) with pd | nd
          · unfold wp_Md_operate
            rw [ho]
            repeat first | refine bq_t (by decide) ?_ | refine bq_f (by decide) ?_
            unfold wp_Md_fractions
            refine md_field H.e9 (md_field H.e9 (md_field H.e9 ?_))
            rw [hr]
            repeat first | refine bq_t (by decide) ?_ | refine bq_f (by decide) ?_
            refine fun x ex => ?_
            rw [H.e9, hf] at ex
            subst ex
            repeat first | refine bq_t (by decide) ?_ | refine bq_f (by decide) ?_
            try unfold wj_Md_fractions_170
            refine md_field H.e9 ?_
            repeat first | refine bq_t (by decide) ?_ | refine bq_f (by decide) ?_ | refine bq_f na ?_ | refine bq_f nb ?_ | refine bq_f nd ?_ | refine bq_t pa (md_ends H.e5 ?_) | refine bq_t pa (md_ends_n (show ¬ (8 : Int32) = 0 by decide) ?_) | refine bq_t pb (md_ends H.e5 ?_) | refine bq_t pb (md_ends_n (show ¬ (8 : Int32) = 0 by decide) ?_) | refine bq_t pd (md_ends H.e5 ?_) | refine bq_t pd (md_ends_n (show ¬ (8 : Int32) = 0 by decide) ?_)
            exact bq_f (show ¬ (8 : Int32) ≤ 0 by decide) hQ
          · unfold wp_Md_operate
            rw [ho]
            repeat first | refine bq_t (by decide) ?_ | refine bq_f (by decide) ?_
            unfold wp_Md_fractions
            refine md_field H.e9 (md_field H.e9 (md_field H.e9 ?_))
            rw [hr]
            repeat first | refine bq_t (by decide) ?_ | refine bq_f (by decide) ?_
            refine fun x ex => ?_
            rw [H.e9, hf] at ex
            subst ex
            repeat first | refine bq_t (by decide) ?_ | refine bq_f (by decide) ?_
            try unfold wj_Md_fractions_170
            refine md_field H.e9 ?_
            repeat first | refine bq_t (by decide) ?_ | refine bq_f (by decide) ?_ | refine bq_f na ?_ | refine bq_f nb ?_ | refine bq_f nd ?_ | refine bq_t pa (md_ends H.e5 ?_) | refine bq_t pa (md_ends_n (show ¬ (8 : Int32) = 0 by decide) ?_) | refine bq_t pb (md_ends H.e5 ?_) | refine bq_t pb (md_ends_n (show ¬ (8 : Int32) = 0 by decide) ?_) | refine bq_t pd (md_ends H.e5 ?_) | refine bq_t pd (md_ends_n (show ¬ (8 : Int32) = 0 by decide) ?_)
            exact bq_f (show ¬ (8 : Int32) ≤ 0 by decide) hQ
        · rcases Classical.em (fI w 6 &&& 1 = 1) with pd | nd
          · unfold wp_Md_operate
            rw [ho]
            repeat first | refine bq_t (by decide) ?_ | refine bq_f (by decide) ?_
            unfold wp_Md_fractions
            refine md_field H.e9 (md_field H.e9 (md_field H.e9 ?_))
            rw [hr]
            repeat first | refine bq_t (by decide) ?_ | refine bq_f (by decide) ?_
            refine fun x ex => ?_
            rw [H.e9, hf] at ex
            subst ex
            repeat first | refine bq_t (by decide) ?_ | refine bq_f (by decide) ?_
            try unfold wj_Md_fractions_170
            refine md_field H.e9 ?_
            repeat first | refine bq_t (by decide) ?_ | refine bq_f (by decide) ?_ | refine bq_f na ?_ | refine bq_f nb ?_ | refine bq_f nd ?_ | refine bq_t pa (md_ends H.e5 ?_) | refine bq_t pa (md_ends_n (show ¬ (8 : Int32) = 0 by decide) ?_) | refine bq_t pb (md_ends H.e5 ?_) | refine bq_t pb (md_ends_n (show ¬ (8 : Int32) = 0 by decide) ?_) | refine bq_t pd (md_ends H.e5 ?_) | refine bq_t pd (md_ends_n (show ¬ (8 : Int32) = 0 by decide) ?_)
            exact bq_f (show ¬ (8 : Int32) ≤ 0 by decide) hQ
          · exact absurd (⟨qa.mpr na, qb.mpr nb, qd.mpr nd⟩) he

theorem i_sqrtf_d (H : pre mn g rg hq mf cd fg w dd bm rr kt) (ho : zz_ushr w 26 = 17) (hr : fI w 21 = 17) (hf : w &&& 63 = 4) : pfx ms mn g rg hq mf cd fg w dd bm rr kt := by
  obtain ⟨a, ha, ea⟩ := fI_n w 11
  obtain ⟨b, hb, eb⟩ := fI_n w 16
  obtain ⟨d, hd, ed⟩ := fI_n w 6
  obtain ⟨r_, x_, hx1, hx2⟩ := rt_ex (rtS (fA 1 (fbt fg 1 a)) (fp 1 (fbt fg 1 a)) * 2 ^ 58)
  have hrt : rtOk 1 (fbt fg 1 a) r_ x_ := ⟨hx1, hx2⟩
  by_cases he : evn 1 a ∧ evn 1 d
  · refine pfx_fr H (rg' := rg) (cd' := cd) (fg' := fgR fg 1 d (oneB 4 1 (fbt fg 1 a) r_ x_)) (rr' := rrR rr 1 d (oneB 4 1 (fbt fg 1 a) r_ x_)) (q_fgR hd he.2 H.rel) (fun L O P hP => ?_) (fun dd l1 l2 H Q hQ => ?_)
    · unfold wp_Pr_perform
      refine pr_op ?_
      rw [ho]
      repeat first | refine bq_t (by decide) ?_ | refine bq_f (by decide) ?_
      refine pr_rs ?_
      rw [hr]
      repeat first | refine bq_t (by decide) ?_ | refine bq_f (by decide) ?_
      refine pr_rt ⟨fI_in w 16, fun t et => ?_⟩
      subst et
      unfold wp_Fu_perform
      refine fun x ex => ?_
      have ex : x = 17 := ex.trans hr
      subst ex
      repeat first | refine bq_t (by decide) ?_ | refine bq_f (by decide) ?_
      refine fun y ey => ?_
      rw [hf] at ey
      subst ey
      repeat first | refine bq_t (by decide) ?_ | refine bq_f (by decide) ?_
      exact fu_change hf (Or.inl rfl) ha hd ea ed hrt (fun _ L' O' => hP L' O') (fun q => absurd he q)
    · unfold wp_Md_operate
      rw [ho]
      repeat first | refine bq_t (by decide) ?_ | refine bq_f (by decide) ?_
      unfold wp_Md_fractions
      refine md_field H.e9 (md_field H.e9 (md_field H.e9 ?_))
      rw [hr]
      repeat first | refine bq_t (by decide) ?_ | refine bq_f (by decide) ?_
      have na := (evx ha ea).mp he.1
      have nd := (evx hd ed).mp he.2
      refine fun x ex => ?_
      rw [H.e9, hf] at ex
      subst ex
      repeat first | refine bq_t (by decide) ?_ | refine bq_f (by decide) ?_
      try unfold wj_Md_fractions_170
      refine md_field H.e9 ?_
      repeat first | refine bq_t (by decide) ?_ | refine bq_f (by decide) ?_ | refine bq_f na ?_ | refine bq_f nb ?_ | refine bq_f nd ?_ | refine bq_t pa (md_ends H.e5 ?_) | refine bq_t pa (md_ends_n (show ¬ (8 : Int32) = 0 by decide) ?_) | refine bq_t pb (md_ends H.e5 ?_) | refine bq_t pb (md_ends_n (show ¬ (8 : Int32) = 0 by decide) ?_) | refine bq_t pd (md_ends H.e5 ?_) | refine bq_t pd (md_ends_n (show ¬ (8 : Int32) = 0 by decide) ?_)
      refine bq_t (show dd 5 ≤ (0 : Int32) by rw [H.e5]; decide) ?_
      refine md_bits H.rel ha ea he.1 ?_
      refine bq_t (by decide) ?_
      refine bq_t (by decide) ?_
      refine bq_t (by decide) ?_
      refine bq_f (by decide) ?_
      refine bq_f (by decide) ?_
      refine bq_f (by decide) ?_
      refine md_one (fbt_fin _ _ _) hrt (fun dd' l1' hl => ?_)
      have e5 : dd' 5 = 0 := by rw [hl 5 (by decide)]; exact H.e5
      exact md_put e5 hd ed he.2 (hQ _ _ _ hl)
  · refine pfx_mk H 8 (fun L O => (g, rg, hq, mf, cd, fg, L, O)) (fun dd l1 l2 => (upd dd 5 8, l1, l2, bm, rr, kt)) (fun L O P hP => ?_) (fun dd l1 l2 H L O => ⟨oc_end (by unfold q_e; simp) H.rel H.nxt rfl (fun j _ h => pk_un h), fun Q hQ => ?_⟩) (fun _ _ _ _ => rfl) (fun _ _ _ _ _ hs => ⟨by repeat first | exact hs | apply lo_upd, rfl, rfl, rfl⟩) (by first | exact Or.inr (fun _ _ => rfl) | exact Or.inl (by unfold q_e; decide)) (fun _ _ _ => rfl)
    · unfold wp_Pr_perform
      refine pr_op ?_
      rw [ho]
      repeat first | refine bq_t (by decide) ?_ | refine bq_f (by decide) ?_
      refine pr_rs ?_
      rw [hr]
      repeat first | refine bq_t (by decide) ?_ | refine bq_f (by decide) ?_
      refine pr_rt ⟨fI_in w 16, fun t et => ?_⟩
      subst et
      unfold wp_Fu_perform
      refine fun x ex => ?_
      have ex : x = 17 := ex.trans hr
      subst ex
      repeat first | refine bq_t (by decide) ?_ | refine bq_f (by decide) ?_
      refine fun y ey => ?_
      rw [hf] at ey
      subst ey
      repeat first | refine bq_t (by decide) ?_ | refine bq_f (by decide) ?_
      exact fu_change hf (Or.inl rfl) ha hd ea ed hrt (fun q => absurd q he) (fun _ => hP)
    · have qa := evx (w := w) ha ea
      have qd := evx (w := w) hd ed
      rcases Classical.em (fI w 11 &&& 1 = 1) with pa | na
      · rcases Classical.em (fI w 6 &&& 1 = 1) with pd | nd
        · unfold wp_Md_operate
          rw [ho]
          repeat first | refine bq_t (by decide) ?_ | refine bq_f (by decide) ?_
          unfold wp_Md_fractions
          refine md_field H.e9 (md_field H.e9 (md_field H.e9 ?_))
          rw [hr]
          repeat first | refine bq_t (by decide) ?_ | refine bq_f (by decide) ?_
          refine fun x ex => ?_
          rw [H.e9, hf] at ex
          subst ex
          repeat first | refine bq_t (by decide) ?_ | refine bq_f (by decide) ?_
          try unfold wj_Md_fractions_170
          refine md_field H.e9 ?_
          repeat first | refine bq_t (by decide) ?_ | refine bq_f (by decide) ?_ | refine bq_f na ?_ | refine bq_f nb ?_ | refine bq_f nd ?_ | refine bq_t pa (md_ends H.e5 ?_) | refine bq_t pa (md_ends_n (show ¬ (8 : Int32) = 0 by decide) ?_) | refine bq_t pb (md_ends H.e5 ?_) | refine bq_t pb (md_ends_n (show ¬ (8 : Int32) = 0 by decide) ?_) | refine bq_t pd (md_ends H.e5 ?_) | refine bq_t pd (md_ends_n (show ¬ (8 : Int32) = 0 by decide) ?_)
          exact bq_f (show ¬ (8 : Int32) ≤ 0 by decide) hQ
        · unfold wp_Md_operate
          rw [ho]
          repeat first | refine bq_t (by decide) ?_ | refine bq_f (by decide) ?_
          unfold wp_Md_fractions
          refine md_field H.e9 (md_field H.e9 (md_field H.e9 ?_))
          rw [hr]
          repeat first | refine bq_t (by decide) ?_ | refine bq_f (by decide) ?_
          refine fun x ex => ?_
          rw [H.e9, hf] at ex
          subst ex
          repeat first | refine bq_t (by decide) ?_ | refine bq_f (by decide) ?_
          try unfold wj_Md_fractions_170
          refine md_field H.e9 ?_
          repeat first | refine bq_t (by decide) ?_ | refine bq_f (by decide) ?_ | refine bq_f na ?_ | refine bq_f nb ?_ | refine bq_f nd ?_ | refine bq_t pa (md_ends H.e5 ?_) | refine bq_t pa (md_ends_n (show ¬ (8 : Int32) = 0 by decide) ?_) | refine bq_t pb (md_ends H.e5 ?_) | refine bq_t pb (md_ends_n (show ¬ (8 : Int32) = 0 by decide) ?_) | refine bq_t pd (md_ends H.e5 ?_) | refine bq_t pd (md_ends_n (show ¬ (8 : Int32) = 0 by decide) ?_)
          exact bq_f (show ¬ (8 : Int32) ≤ 0 by decide) hQ
      · rcases Classical.em (fI w 6 &&& 1 = 1) with pd | nd
        · unfold wp_Md_operate
          rw [ho]
          repeat first | refine bq_t (by decide) ?_ | refine bq_f (by decide) ?_
          unfold wp_Md_fractions
          refine md_field H.e9 (md_field H.e9 (md_field H.e9 ?_))
          rw [hr]
          repeat first | refine bq_t (by decide) ?_ | refine bq_f (by decide) ?_
          refine fun x ex => ?_
          rw [H.e9, hf] at ex
          subst ex
          repeat first | refine bq_t (by decide) ?_ | refine bq_f (by decide) ?_
          try unfold wj_Md_fractions_170
          refine md_field H.e9 ?_
          repeat first | refine bq_t (by decide) ?_ | refine bq_f (by decide) ?_ | refine bq_f na ?_ | refine bq_f nb ?_ | refine bq_f nd ?_ | refine bq_t pa (md_ends H.e5 ?_) | refine bq_t pa (md_ends_n (show ¬ (8 : Int32) = 0 by decide) ?_) | refine bq_t pb (md_ends H.e5 ?_) | refine bq_t pb (md_ends_n (show ¬ (8 : Int32) = 0 by decide) ?_) | refine bq_t pd (md_ends H.e5 ?_) | refine bq_t pd (md_ends_n (show ¬ (8 : Int32) = 0 by decide) ?_)
          exact bq_f (show ¬ (8 : Int32) ≤ 0 by decide) hQ
        · exact absurd (⟨qa.mpr na, qd.mpr nd⟩) he

theorem i_absf_d (H : pre mn g rg hq mf cd fg w dd bm rr kt) (ho : zz_ushr w 26 = 17) (hr : fI w 21 = 17) (hf : w &&& 63 = 5) : pfx ms mn g rg hq mf cd fg w dd bm rr kt := by
  obtain ⟨a, ha, ea⟩ := fI_n w 11
  obtain ⟨b, hb, eb⟩ := fI_n w 16
  obtain ⟨d, hd, ed⟩ := fI_n w 6
  obtain ⟨r_, x_, hx1, hx2⟩ := rt_ex (rtS (fA 1 (fbt fg 1 a)) (fp 1 (fbt fg 1 a)) * 2 ^ 58)
  have hrt : rtOk 1 (fbt fg 1 a) r_ x_ := ⟨hx1, hx2⟩
  by_cases he : evn 1 a ∧ evn 1 d
  · refine pfx_fr H (rg' := rg) (cd' := cd) (fg' := fgR fg 1 d (oneB 5 1 (fbt fg 1 a) r_ x_)) (rr' := rrR rr 1 d (oneB 5 1 (fbt fg 1 a) r_ x_)) (q_fgR hd he.2 H.rel) (fun L O P hP => ?_) (fun dd l1 l2 H Q hQ => ?_)
    · unfold wp_Pr_perform
      refine pr_op ?_
      rw [ho]
      repeat first | refine bq_t (by decide) ?_ | refine bq_f (by decide) ?_
      refine pr_rs ?_
      rw [hr]
      repeat first | refine bq_t (by decide) ?_ | refine bq_f (by decide) ?_
      refine pr_rt ⟨fI_in w 16, fun t et => ?_⟩
      subst et
      unfold wp_Fu_perform
      refine fun x ex => ?_
      have ex : x = 17 := ex.trans hr
      subst ex
      repeat first | refine bq_t (by decide) ?_ | refine bq_f (by decide) ?_
      refine fun y ey => ?_
      rw [hf] at ey
      subst ey
      repeat first | refine bq_t (by decide) ?_ | refine bq_f (by decide) ?_
      exact fu_change hf (Or.inr (Or.inl rfl)) ha hd ea ed hrt (fun _ L' O' => hP L' O') (fun q => absurd he q)
    · unfold wp_Md_operate
      rw [ho]
      repeat first | refine bq_t (by decide) ?_ | refine bq_f (by decide) ?_
      unfold wp_Md_fractions
      refine md_field H.e9 (md_field H.e9 (md_field H.e9 ?_))
      rw [hr]
      repeat first | refine bq_t (by decide) ?_ | refine bq_f (by decide) ?_
      have na := (evx ha ea).mp he.1
      have nd := (evx hd ed).mp he.2
      refine fun x ex => ?_
      rw [H.e9, hf] at ex
      subst ex
      repeat first | refine bq_t (by decide) ?_ | refine bq_f (by decide) ?_
      try unfold wj_Md_fractions_170
      refine md_field H.e9 ?_
      repeat first | refine bq_t (by decide) ?_ | refine bq_f (by decide) ?_ | refine bq_f na ?_ | refine bq_f nb ?_ | refine bq_f nd ?_ | refine bq_t pa (md_ends H.e5 ?_) | refine bq_t pa (md_ends_n (show ¬ (8 : Int32) = 0 by decide) ?_) | refine bq_t pb (md_ends H.e5 ?_) | refine bq_t pb (md_ends_n (show ¬ (8 : Int32) = 0 by decide) ?_) | refine bq_t pd (md_ends H.e5 ?_) | refine bq_t pd (md_ends_n (show ¬ (8 : Int32) = 0 by decide) ?_)
      refine bq_t (show dd 5 ≤ (0 : Int32) by rw [H.e5]; decide) ?_
      refine md_bits H.rel ha ea he.1 ?_
      refine bq_t (by decide) ?_
      refine bq_t (by decide) ?_
      refine bq_t (by decide) ?_
      refine bq_f (by decide) ?_
      refine bq_f (by decide) ?_
      refine bq_f (by decide) ?_
      refine md_one (fbt_fin _ _ _) hrt (fun dd' l1' hl => ?_)
      have e5 : dd' 5 = 0 := by rw [hl 5 (by decide)]; exact H.e5
      exact md_put e5 hd ed he.2 (hQ _ _ _ hl)
  · refine pfx_mk H 8 (fun L O => (g, rg, hq, mf, cd, fg, L, O)) (fun dd l1 l2 => (upd dd 5 8, l1, l2, bm, rr, kt)) (fun L O P hP => ?_) (fun dd l1 l2 H L O => ⟨oc_end (by unfold q_e; simp) H.rel H.nxt rfl (fun j _ h => pk_un h), fun Q hQ => ?_⟩) (fun _ _ _ _ => rfl) (fun _ _ _ _ _ hs => ⟨by repeat first | exact hs | apply lo_upd, rfl, rfl, rfl⟩) (by first | exact Or.inr (fun _ _ => rfl) | exact Or.inl (by unfold q_e; decide)) (fun _ _ _ => rfl)
    · unfold wp_Pr_perform
      refine pr_op ?_
      rw [ho]
      repeat first | refine bq_t (by decide) ?_ | refine bq_f (by decide) ?_
      refine pr_rs ?_
      rw [hr]
      repeat first | refine bq_t (by decide) ?_ | refine bq_f (by decide) ?_
      refine pr_rt ⟨fI_in w 16, fun t et => ?_⟩
      subst et
      unfold wp_Fu_perform
      refine fun x ex => ?_
      have ex : x = 17 := ex.trans hr
      subst ex
      repeat first | refine bq_t (by decide) ?_ | refine bq_f (by decide) ?_
      refine fun y ey => ?_
      rw [hf] at ey
      subst ey
      repeat first | refine bq_t (by decide) ?_ | refine bq_f (by decide) ?_
      exact fu_change hf (Or.inr (Or.inl rfl)) ha hd ea ed hrt (fun q => absurd q he) (fun _ => hP)
    · have qa := evx (w := w) ha ea
      have qd := evx (w := w) hd ed
      rcases Classical.em (fI w 11 &&& 1 = 1) with pa | na
      · rcases Classical.em (fI w 6 &&& 1 = 1) with pd | nd
        · unfold wp_Md_operate
          rw [ho]
          repeat first | refine bq_t (by decide) ?_ | refine bq_f (by decide) ?_
          unfold wp_Md_fractions
          refine md_field H.e9 (md_field H.e9 (md_field H.e9 ?_))
          rw [hr]
          repeat first | refine bq_t (by decide) ?_ | refine bq_f (by decide) ?_
          refine fun x ex => ?_
          rw [H.e9, hf] at ex
          subst ex
          repeat first | refine bq_t (by decide) ?_ | refine bq_f (by decide) ?_
          try unfold wj_Md_fractions_170
          refine md_field H.e9 ?_
          repeat first | refine bq_t (by decide) ?_ | refine bq_f (by decide) ?_ | refine bq_f na ?_ | refine bq_f nb ?_ | refine bq_f nd ?_ | refine bq_t pa (md_ends H.e5 ?_) | refine bq_t pa (md_ends_n (show ¬ (8 : Int32) = 0 by decide) ?_) | refine bq_t pb (md_ends H.e5 ?_) | refine bq_t pb (md_ends_n (show ¬ (8 : Int32) = 0 by decide) ?_) | refine bq_t pd (md_ends H.e5 ?_) | refine bq_t pd (md_ends_n (show ¬ (8 : Int32) = 0 by decide) ?_)
          exact bq_f (show ¬ (8 : Int32) ≤ 0 by decide) hQ
        · unfold wp_Md_operate
          rw [ho]
          repeat first | refine bq_t (by decide) ?_ | refine bq_f (by decide) ?_
          unfold wp_Md_fractions
          refine md_field H.e9 (md_field H.e9 (md_field H.e9 ?_))
          rw [hr]
          repeat first | refine bq_t (by decide) ?_ | refine bq_f (by decide) ?_
          refine fun x ex => ?_
          rw [H.e9, hf] at ex
          subst ex
          repeat first | refine bq_t (by decide) ?_ | refine bq_f (by decide) ?_
          try unfold wj_Md_fractions_170
          refine md_field H.e9 ?_
          repeat first | refine bq_t (by decide) ?_ | refine bq_f (by decide) ?_ | refine bq_f na ?_ | refine bq_f nb ?_ | refine bq_f nd ?_ | refine bq_t pa (md_ends H.e5 ?_) | refine bq_t pa (md_ends_n (show ¬ (8 : Int32) = 0 by decide) ?_) | refine bq_t pb (md_ends H.e5 ?_) | refine bq_t pb (md_ends_n (show ¬ (8 : Int32) = 0 by decide) ?_) | refine bq_t pd (md_ends H.e5 ?_) | refine bq_t pd (md_ends_n (show ¬ (8 : Int32) = 0 by decide) ?_)
          exact bq_f (show ¬ (8 : Int32) ≤ 0 by decide) hQ
      · rcases Classical.em (fI w 6 &&& 1 = 1) with pd | nd
        · unfold wp_Md_operate
          rw [ho]
          repeat first | refine bq_t (by decide) ?_ | refine bq_f (by decide) ?_
          unfold wp_Md_fractions
          refine md_field H.e9 (md_field H.e9 (md_field H.e9 ?_))
          rw [hr]
          repeat first | refine bq_t (by decide) ?_ | refine bq_f (by decide) ?_
          refine fun x ex => ?_
          rw [H.e9, hf] at ex
          subst ex
          repeat first | refine bq_t (by decide) ?_ | refine bq_f (by decide) ?_
          try unfold wj_Md_fractions_170
          refine md_field H.e9 ?_
          repeat first | refine bq_t (by decide) ?_ | refine bq_f (by decide) ?_ | refine bq_f na ?_ | refine bq_f nb ?_ | refine bq_f nd ?_ | refine bq_t pa (md_ends H.e5 ?_) | refine bq_t pa (md_ends_n (show ¬ (8 : Int32) = 0 by decide) ?_) | refine bq_t pb (md_ends H.e5 ?_) | refine bq_t pb (md_ends_n (show ¬ (8 : Int32) = 0 by decide) ?_) | refine bq_t pd (md_ends H.e5 ?_) | refine bq_t pd (md_ends_n (show ¬ (8 : Int32) = 0 by decide) ?_)
          exact bq_f (show ¬ (8 : Int32) ≤ 0 by decide) hQ
        · exact absurd (⟨qa.mpr na, qd.mpr nd⟩) he

theorem i_movf_d (H : pre mn g rg hq mf cd fg w dd bm rr kt) (ho : zz_ushr w 26 = 17) (hr : fI w 21 = 17) (hf : w &&& 63 = 6) : pfx ms mn g rg hq mf cd fg w dd bm rr kt := by
  obtain ⟨a, ha, ea⟩ := fI_n w 11
  obtain ⟨b, hb, eb⟩ := fI_n w 16
  obtain ⟨d, hd, ed⟩ := fI_n w 6
  obtain ⟨r_, x_, hx1, hx2⟩ := rt_ex (rtS (fA 1 (fbt fg 1 a)) (fp 1 (fbt fg 1 a)) * 2 ^ 58)
  have hrt : rtOk 1 (fbt fg 1 a) r_ x_ := ⟨hx1, hx2⟩
  by_cases he : evn 1 a ∧ evn 1 d
  · refine pfx_fr H (rg' := rg) (cd' := cd) (fg' := fgR fg 1 d (oneB 6 1 (fbt fg 1 a) r_ x_)) (rr' := rrR rr 1 d (oneB 6 1 (fbt fg 1 a) r_ x_)) (q_fgR hd he.2 H.rel) (fun L O P hP => ?_) (fun dd l1 l2 H Q hQ => ?_)
    · unfold wp_Pr_perform
      refine pr_op ?_
      rw [ho]
      repeat first | refine bq_t (by decide) ?_ | refine bq_f (by decide) ?_
      refine pr_rs ?_
      rw [hr]
      repeat first | refine bq_t (by decide) ?_ | refine bq_f (by decide) ?_
      refine pr_rt ⟨fI_in w 16, fun t et => ?_⟩
      subst et
      unfold wp_Fu_perform
      refine fun x ex => ?_
      have ex : x = 17 := ex.trans hr
      subst ex
      repeat first | refine bq_t (by decide) ?_ | refine bq_f (by decide) ?_
      refine fun y ey => ?_
      rw [hf] at ey
      subst ey
      repeat first | refine bq_t (by decide) ?_ | refine bq_f (by decide) ?_
      exact fu_change hf (Or.inr (Or.inr (Or.inl rfl))) ha hd ea ed hrt (fun _ L' O' => hP L' O') (fun q => absurd he q)
    · unfold wp_Md_operate
      rw [ho]
      repeat first | refine bq_t (by decide) ?_ | refine bq_f (by decide) ?_
      unfold wp_Md_fractions
      refine md_field H.e9 (md_field H.e9 (md_field H.e9 ?_))
      rw [hr]
      repeat first | refine bq_t (by decide) ?_ | refine bq_f (by decide) ?_
      have na := (evx ha ea).mp he.1
      have nd := (evx hd ed).mp he.2
      refine fun x ex => ?_
      rw [H.e9, hf] at ex
      subst ex
      repeat first | refine bq_t (by decide) ?_ | refine bq_f (by decide) ?_
      try unfold wj_Md_fractions_170
      refine md_field H.e9 ?_
      repeat first | refine bq_t (by decide) ?_ | refine bq_f (by decide) ?_ | refine bq_f na ?_ | refine bq_f nb ?_ | refine bq_f nd ?_ | refine bq_t pa (md_ends H.e5 ?_) | refine bq_t pa (md_ends_n (show ¬ (8 : Int32) = 0 by decide) ?_) | refine bq_t pb (md_ends H.e5 ?_) | refine bq_t pb (md_ends_n (show ¬ (8 : Int32) = 0 by decide) ?_) | refine bq_t pd (md_ends H.e5 ?_) | refine bq_t pd (md_ends_n (show ¬ (8 : Int32) = 0 by decide) ?_)
      refine bq_t (show dd 5 ≤ (0 : Int32) by rw [H.e5]; decide) ?_
      refine md_bits H.rel ha ea he.1 ?_
      refine bq_t (by decide) ?_
      refine bq_t (by decide) ?_
      refine bq_t (by decide) ?_
      refine bq_f (by decide) ?_
      refine bq_f (by decide) ?_
      refine bq_f (by decide) ?_
      refine md_one (fbt_fin _ _ _) hrt (fun dd' l1' hl => ?_)
      have e5 : dd' 5 = 0 := by rw [hl 5 (by decide)]; exact H.e5
      exact md_put e5 hd ed he.2 (hQ _ _ _ hl)
  · refine pfx_mk H 8 (fun L O => (g, rg, hq, mf, cd, fg, L, O)) (fun dd l1 l2 => (upd dd 5 8, l1, l2, bm, rr, kt)) (fun L O P hP => ?_) (fun dd l1 l2 H L O => ⟨oc_end (by unfold q_e; simp) H.rel H.nxt rfl (fun j _ h => pk_un h), fun Q hQ => ?_⟩) (fun _ _ _ _ => rfl) (fun _ _ _ _ _ hs => ⟨by repeat first | exact hs | apply lo_upd, rfl, rfl, rfl⟩) (by first | exact Or.inr (fun _ _ => rfl) | exact Or.inl (by unfold q_e; decide)) (fun _ _ _ => rfl)
    · unfold wp_Pr_perform
      refine pr_op ?_
      rw [ho]
      repeat first | refine bq_t (by decide) ?_ | refine bq_f (by decide) ?_
      refine pr_rs ?_
      rw [hr]
      repeat first | refine bq_t (by decide) ?_ | refine bq_f (by decide) ?_
      refine pr_rt ⟨fI_in w 16, fun t et => ?_⟩
      subst et
      unfold wp_Fu_perform
      refine fun x ex => ?_
      have ex : x = 17 := ex.trans hr
      subst ex
      repeat first | refine bq_t (by decide) ?_ | refine bq_f (by decide) ?_
      refine fun y ey => ?_
      rw [hf] at ey
      subst ey
      repeat first | refine bq_t (by decide) ?_ | refine bq_f (by decide) ?_
      exact fu_change hf (Or.inr (Or.inr (Or.inl rfl))) ha hd ea ed hrt (fun q => absurd q he) (fun _ => hP)
    · have qa := evx (w := w) ha ea
      have qd := evx (w := w) hd ed
      rcases Classical.em (fI w 11 &&& 1 = 1) with pa | na
      · rcases Classical.em (fI w 6 &&& 1 = 1) with pd | nd
        · unfold wp_Md_operate
          rw [ho]
          repeat first | refine bq_t (by decide) ?_ | refine bq_f (by decide) ?_
          unfold wp_Md_fractions
          refine md_field H.e9 (md_field H.e9 (md_field H.e9 ?_))
          rw [hr]
          repeat first | refine bq_t (by decide) ?_ | refine bq_f (by decide) ?_
          refine fun x ex => ?_
          rw [H.e9, hf] at ex
          subst ex
          repeat first | refine bq_t (by decide) ?_ | refine bq_f (by decide) ?_
          try unfold wj_Md_fractions_170
          refine md_field H.e9 ?_
          repeat first | refine bq_t (by decide) ?_ | refine bq_f (by decide) ?_ | refine bq_f na ?_ | refine bq_f nb ?_ | refine bq_f nd ?_ | refine bq_t pa (md_ends H.e5 ?_) | refine bq_t pa (md_ends_n (show ¬ (8 : Int32) = 0 by decide) ?_) | refine bq_t pb (md_ends H.e5 ?_) | refine bq_t pb (md_ends_n (show ¬ (8 : Int32) = 0 by decide) ?_) | refine bq_t pd (md_ends H.e5 ?_) | refine bq_t pd (md_ends_n (show ¬ (8 : Int32) = 0 by decide) ?_)
          exact bq_f (show ¬ (8 : Int32) ≤ 0 by decide) hQ
        · unfold wp_Md_operate
          rw [ho]
          repeat first | refine bq_t (by decide) ?_ | refine bq_f (by decide) ?_
          unfold wp_Md_fractions
          refine md_field H.e9 (md_field H.e9 (md_field H.e9 ?_))
          rw [hr]
          repeat first | refine bq_t (by decide) ?_ | refine bq_f (by decide) ?_
          refine fun x ex => ?_
          rw [H.e9, hf] at ex
          subst ex
          repeat first | refine bq_t (by decide) ?_ | refine bq_f (by decide) ?_
          try unfold wj_Md_fractions_170
          refine md_field H.e9 ?_
          repeat first | refine bq_t (by decide) ?_ | refine bq_f (by decide) ?_ | refine bq_f na ?_ | refine bq_f nb ?_ | refine bq_f nd ?_ | refine bq_t pa (md_ends H.e5 ?_) | refine bq_t pa (md_ends_n (show ¬ (8 : Int32) = 0 by decide) ?_) | refine bq_t pb (md_ends H.e5 ?_) | refine bq_t pb (md_ends_n (show ¬ (8 : Int32) = 0 by decide) ?_) | refine bq_t pd (md_ends H.e5 ?_) | refine bq_t pd (md_ends_n (show ¬ (8 : Int32) = 0 by decide) ?_)
          exact bq_f (show ¬ (8 : Int32) ≤ 0 by decide) hQ
      · rcases Classical.em (fI w 6 &&& 1 = 1) with pd | nd
        · unfold wp_Md_operate
          rw [ho]
          repeat first | refine bq_t (by decide) ?_ | refine bq_f (by decide) ?_
          unfold wp_Md_fractions
          refine md_field H.e9 (md_field H.e9 (md_field H.e9 ?_))
          rw [hr]
          repeat first | refine bq_t (by decide) ?_ | refine bq_f (by decide) ?_
          refine fun x ex => ?_
          rw [H.e9, hf] at ex
          subst ex
          repeat first | refine bq_t (by decide) ?_ | refine bq_f (by decide) ?_
          try unfold wj_Md_fractions_170
          refine md_field H.e9 ?_
          repeat first | refine bq_t (by decide) ?_ | refine bq_f (by decide) ?_ | refine bq_f na ?_ | refine bq_f nb ?_ | refine bq_f nd ?_ | refine bq_t pa (md_ends H.e5 ?_) | refine bq_t pa (md_ends_n (show ¬ (8 : Int32) = 0 by decide) ?_) | refine bq_t pb (md_ends H.e5 ?_) | refine bq_t pb (md_ends_n (show ¬ (8 : Int32) = 0 by decide) ?_) | refine bq_t pd (md_ends H.e5 ?_) | refine bq_t pd (md_ends_n (show ¬ (8 : Int32) = 0 by decide) ?_)
          exact bq_f (show ¬ (8 : Int32) ≤ 0 by decide) hQ
        · exact absurd (⟨qa.mpr na, qd.mpr nd⟩) he

theorem i_negf_d (H : pre mn g rg hq mf cd fg w dd bm rr kt) (ho : zz_ushr w 26 = 17) (hr : fI w 21 = 17) (hf : w &&& 63 = 7) : pfx ms mn g rg hq mf cd fg w dd bm rr kt := by
  obtain ⟨a, ha, ea⟩ := fI_n w 11
  obtain ⟨b, hb, eb⟩ := fI_n w 16
  obtain ⟨d, hd, ed⟩ := fI_n w 6
  obtain ⟨r_, x_, hx1, hx2⟩ := rt_ex (rtS (fA 1 (fbt fg 1 a)) (fp 1 (fbt fg 1 a)) * 2 ^ 58)
  have hrt : rtOk 1 (fbt fg 1 a) r_ x_ := ⟨hx1, hx2⟩
  by_cases he : evn 1 a ∧ evn 1 d
  · refine pfx_fr H (rg' := rg) (cd' := cd) (fg' := fgR fg 1 d (oneB 7 1 (fbt fg 1 a) r_ x_)) (rr' := rrR rr 1 d (oneB 7 1 (fbt fg 1 a) r_ x_)) (q_fgR hd he.2 H.rel) (fun L O P hP => ?_) (fun dd l1 l2 H Q hQ => ?_)
    · unfold wp_Pr_perform
      refine pr_op ?_
      rw [ho]
      repeat first | refine bq_t (by decide) ?_ | refine bq_f (by decide) ?_
      refine pr_rs ?_
      rw [hr]
      repeat first | refine bq_t (by decide) ?_ | refine bq_f (by decide) ?_
      refine pr_rt ⟨fI_in w 16, fun t et => ?_⟩
      subst et
      unfold wp_Fu_perform
      refine fun x ex => ?_
      have ex : x = 17 := ex.trans hr
      subst ex
      repeat first | refine bq_t (by decide) ?_ | refine bq_f (by decide) ?_
      refine fun y ey => ?_
      rw [hf] at ey
      subst ey
      repeat first | refine bq_t (by decide) ?_ | refine bq_f (by decide) ?_
      exact fu_change hf (Or.inr (Or.inr (Or.inr rfl))) ha hd ea ed hrt (fun _ L' O' => hP L' O') (fun q => absurd he q)
    · unfold wp_Md_operate
      rw [ho]
      repeat first | refine bq_t (by decide) ?_ | refine bq_f (by decide) ?_
      unfold wp_Md_fractions
      refine md_field H.e9 (md_field H.e9 (md_field H.e9 ?_))
      rw [hr]
      repeat first | refine bq_t (by decide) ?_ | refine bq_f (by decide) ?_
      have na := (evx ha ea).mp he.1
      have nd := (evx hd ed).mp he.2
      refine fun x ex => ?_
      rw [H.e9, hf] at ex
      subst ex
      repeat first | refine bq_t (by decide) ?_ | refine bq_f (by decide) ?_
      try unfold wj_Md_fractions_170
      refine md_field H.e9 ?_
      repeat first | refine bq_t (by decide) ?_ | refine bq_f (by decide) ?_ | refine bq_f na ?_ | refine bq_f nb ?_ | refine bq_f nd ?_ | refine bq_t pa (md_ends H.e5 ?_) | refine bq_t pa (md_ends_n (show ¬ (8 : Int32) = 0 by decide) ?_) | refine bq_t pb (md_ends H.e5 ?_) | refine bq_t pb (md_ends_n (show ¬ (8 : Int32) = 0 by decide) ?_) | refine bq_t pd (md_ends H.e5 ?_) | refine bq_t pd (md_ends_n (show ¬ (8 : Int32) = 0 by decide) ?_)
      refine bq_t (show dd 5 ≤ (0 : Int32) by rw [H.e5]; decide) ?_
      refine md_bits H.rel ha ea he.1 ?_
      refine bq_t (by decide) ?_
      refine bq_t (by decide) ?_
      refine bq_t (by decide) ?_
      refine bq_f (by decide) ?_
      refine bq_f (by decide) ?_
      refine bq_f (by decide) ?_
      refine md_one (fbt_fin _ _ _) hrt (fun dd' l1' hl => ?_)
      have e5 : dd' 5 = 0 := by rw [hl 5 (by decide)]; exact H.e5
      exact md_put e5 hd ed he.2 (hQ _ _ _ hl)
  · refine pfx_mk H 8 (fun L O => (g, rg, hq, mf, cd, fg, L, O)) (fun dd l1 l2 => (upd dd 5 8, l1, l2, bm, rr, kt)) (fun L O P hP => ?_) (fun dd l1 l2 H L O => ⟨oc_end (by unfold q_e; simp) H.rel H.nxt rfl (fun j _ h => pk_un h), fun Q hQ => ?_⟩) (fun _ _ _ _ => rfl) (fun _ _ _ _ _ hs => ⟨by repeat first | exact hs | apply lo_upd, rfl, rfl, rfl⟩) (by first | exact Or.inr (fun _ _ => rfl) | exact Or.inl (by unfold q_e; decide)) (fun _ _ _ => rfl)
    · unfold wp_Pr_perform
      refine pr_op ?_
      rw [ho]
      repeat first | refine bq_t (by decide) ?_ | refine bq_f (by decide) ?_
      refine pr_rs ?_
      rw [hr]
      repeat first | refine bq_t (by decide) ?_ | refine bq_f (by decide) ?_
      refine pr_rt ⟨fI_in w 16, fun t et => ?_⟩
      subst et
      unfold wp_Fu_perform
      refine fun x ex => ?_
      have ex : x = 17 := ex.trans hr
      subst ex
      repeat first | refine bq_t (by decide) ?_ | refine bq_f (by decide) ?_
      refine fun y ey => ?_
      rw [hf] at ey
      subst ey
      repeat first | refine bq_t (by decide) ?_ | refine bq_f (by decide) ?_
      exact fu_change hf (Or.inr (Or.inr (Or.inr rfl))) ha hd ea ed hrt (fun q => absurd q he) (fun _ => hP)
    · have qa := evx (w := w) ha ea
      have qd := evx (w := w) hd ed
      rcases Classical.em (fI w 11 &&& 1 = 1) with pa | na
      · rcases Classical.em (fI w 6 &&& 1 = 1) with pd | nd
        · unfold wp_Md_operate
          rw [ho]
          repeat first | refine bq_t (by decide) ?_ | refine bq_f (by decide) ?_
          unfold wp_Md_fractions
          refine md_field H.e9 (md_field H.e9 (md_field H.e9 ?_))
          rw [hr]
          repeat first | refine bq_t (by decide) ?_ | refine bq_f (by decide) ?_
          refine fun x ex => ?_
          rw [H.e9, hf] at ex
          subst ex
          repeat first | refine bq_t (by decide) ?_ | refine bq_f (by decide) ?_
          try unfold wj_Md_fractions_170
          refine md_field H.e9 ?_
          repeat first | refine bq_t (by decide) ?_ | refine bq_f (by decide) ?_ | refine bq_f na ?_ | refine bq_f nb ?_ | refine bq_f nd ?_ | refine bq_t pa (md_ends H.e5 ?_) | refine bq_t pa (md_ends_n (show ¬ (8 : Int32) = 0 by decide) ?_) | refine bq_t pb (md_ends H.e5 ?_) | refine bq_t pb (md_ends_n (show ¬ (8 : Int32) = 0 by decide) ?_) | refine bq_t pd (md_ends H.e5 ?_) | refine bq_t pd (md_ends_n (show ¬ (8 : Int32) = 0 by decide) ?_)
          exact bq_f (show ¬ (8 : Int32) ≤ 0 by decide) hQ
        · unfold wp_Md_operate
          rw [ho]
          repeat first | refine bq_t (by decide) ?_ | refine bq_f (by decide) ?_
          unfold wp_Md_fractions
          refine md_field H.e9 (md_field H.e9 (md_field H.e9 ?_))
          rw [hr]
          repeat first | refine bq_t (by decide) ?_ | refine bq_f (by decide) ?_
          refine fun x ex => ?_
          rw [H.e9, hf] at ex
          subst ex
          repeat first | refine bq_t (by decide) ?_ | refine bq_f (by decide) ?_
          try unfold wj_Md_fractions_170
          refine md_field H.e9 ?_
          repeat first | refine bq_t (by decide) ?_ | refine bq_f (by decide) ?_ | refine bq_f na ?_ | refine bq_f nb ?_ | refine bq_f nd ?_ | refine bq_t pa (md_ends H.e5 ?_) | refine bq_t pa (md_ends_n (show ¬ (8 : Int32) = 0 by decide) ?_) | refine bq_t pb (md_ends H.e5 ?_) | refine bq_t pb (md_ends_n (show ¬ (8 : Int32) = 0 by decide) ?_) | refine bq_t pd (md_ends H.e5 ?_) | refine bq_t pd (md_ends_n (show ¬ (8 : Int32) = 0 by decide) ?_)
          exact bq_f (show ¬ (8 : Int32) ≤ 0 by decide) hQ
      · rcases Classical.em (fI w 6 &&& 1 = 1) with pd | nd
        · unfold wp_Md_operate
          rw [ho]
          repeat first | refine bq_t (by decide) ?_ | refine bq_f (by decide) ?_
          unfold wp_Md_fractions
          refine md_field H.e9 (md_field H.e9 (md_field H.e9 ?_))
          rw [hr]
          repeat first | refine bq_t (by decide) ?_ | refine bq_f (by decide) ?_
          refine fun x ex => ?_
          rw [H.e9, hf] at ex
          subst ex
          repeat first | refine bq_t (by decide) ?_ | refine bq_f (by decide) ?_
          try unfold wj_Md_fractions_170
          refine md_field H.e9 ?_
          repeat first | refine bq_t (by decide) ?_ | refine bq_f (by decide) ?_ | refine bq_f na ?_ | refine bq_f nb ?_ | refine bq_f nd ?_ | refine bq_t pa (md_ends H.e5 ?_) | refine bq_t pa (md_ends_n (show ¬ (8 : Int32) = 0 by decide) ?_) | refine bq_t pb (md_ends H.e5 ?_) | refine bq_t pb (md_ends_n (show ¬ (8 : Int32) = 0 by decide) ?_) | refine bq_t pd (md_ends H.e5 ?_) | refine bq_t pd (md_ends_n (show ¬ (8 : Int32) = 0 by decide) ?_)
          exact bq_f (show ¬ (8 : Int32) ≤ 0 by decide) hQ
        · exact absurd (⟨qa.mpr na, qd.mpr nd⟩) he

theorem i_w12_d (H : pre mn g rg hq mf cd fg w dd bm rr kt) (ho : zz_ushr w 26 = 17) (hr : fI w 21 = 17) (hf : w &&& 63 = 12) : pfx ms mn g rg hq mf cd fg w dd bm rr kt := by
  obtain ⟨a, ha, ea⟩ := fI_n w 11
  obtain ⟨b, hb, eb⟩ := fI_n w 16
  obtain ⟨d, hd, ed⟩ := fI_n w 6
  have h3 : w &&& 3 = 0 := by
    have : w &&& 3 = (w &&& 63) &&& 3 := by rw [Int32.and_assoc]; rfl
    rw [this, hf]; decide
  by_cases he : evn 1 a
  · refine pfx_fr H (rg' := rg) (cd' := cd) (fg' := upd fg d (wdB 0 1 (fbt fg 1 a))) (rr' := upd rr (34 + d) (wdB 0 1 (fbt fg 1 a))) (q_fg hd H.rel) (fun L O P hP => ?_) (fun dd l1 l2 H Q hQ => ?_)
    · unfold wp_Pr_perform
      refine pr_op ?_
      rw [ho]
      repeat first | refine bq_t (by decide) ?_ | refine bq_f (by decide) ?_
      refine pr_rs ?_
      rw [hr]
      repeat first | refine bq_t (by decide) ?_ | refine bq_f (by decide) ?_
      refine pr_rt ⟨fI_in w 16, fun t et => ?_⟩
      subst et
      unfold wp_Fu_perform
      refine fun x ex => ?_
      have ex : x = 17 := ex.trans hr
      subst ex
      repeat first | refine bq_t (by decide) ?_ | refine bq_f (by decide) ?_
      refine fun y ey => ?_
      rw [hf] at ey
      subst ey
      repeat first | refine bq_t (by decide) ?_ | refine bq_f (by decide) ?_
      refine fu_toWord ha hd ea ed (fun _ L' O' => ?_) (fun q => absurd he q)
      rw [h3]
      exact hP L' O'
    · unfold wp_Md_operate
      rw [ho]
      repeat first | refine bq_t (by decide) ?_ | refine bq_f (by decide) ?_
      unfold wp_Md_fractions
      refine md_field H.e9 (md_field H.e9 (md_field H.e9 ?_))
      rw [hr]
      repeat first | refine bq_t (by decide) ?_ | refine bq_f (by decide) ?_
      have na := (evx ha ea).mp he
      refine fun x ex => ?_
      rw [H.e9, hf] at ex
      subst ex
      repeat first | refine bq_t (by decide) ?_ | refine bq_f (by decide) ?_
      try unfold wj_Md_fractions_170
      refine md_field H.e9 ?_
      repeat first | refine bq_t (by decide) ?_ | refine bq_f (by decide) ?_ | refine bq_f na ?_ | refine bq_f nb ?_ | refine bq_f nd ?_ | refine bq_t pa (md_ends H.e5 ?_) | refine bq_t pa (md_ends_n (show ¬ (8 : Int32) = 0 by decide) ?_) | refine bq_t pb (md_ends H.e5 ?_) | refine bq_t pb (md_ends_n (show ¬ (8 : Int32) = 0 by decide) ?_) | refine bq_t pd (md_ends H.e5 ?_) | refine bq_t pd (md_ends_n (show ¬ (8 : Int32) = 0 by decide) ?_)
      refine bq_t (show dd 5 ≤ (0 : Int32) by rw [H.e5]; decide) ?_
      refine md_bits H.rel ha ea he ?_
      refine bq_t (by decide) ?_
      refine bq_t (by decide) ?_
      refine bq_f (by decide) ?_
      refine md_wordOf (fbt_fin _ _ _) (Or.inl ⟨rfl, rfl⟩) (fun dd' l1' hl y ey => ?_)
      have e5 : dd' 5 = 0 := by rw [hl 5 (by decide)]; exact H.e5
      subst ey
      refine md_put (wd := 0) e5 hd ed (ev0 _) ?_
      unfold rrR
      rw [if_pos rfl, m32_i]
      exact hQ _ _ _ hl
  · refine pfx_mk H 8 (fun L O => (g, rg, hq, mf, cd, fg, L, O)) (fun dd l1 l2 => (upd dd 5 8, l1, l2, bm, rr, kt)) (fun L O P hP => ?_) (fun dd l1 l2 H L O => ⟨oc_end (by unfold q_e; simp) H.rel H.nxt rfl (fun j _ h => pk_un h), fun Q hQ => ?_⟩) (fun _ _ _ _ => rfl) (fun _ _ _ _ _ hs => ⟨by repeat first | exact hs | apply lo_upd, rfl, rfl, rfl⟩) (by first | exact Or.inr (fun _ _ => rfl) | exact Or.inl (by unfold q_e; decide)) (fun _ _ _ => rfl)
    · unfold wp_Pr_perform
      refine pr_op ?_
      rw [ho]
      repeat first | refine bq_t (by decide) ?_ | refine bq_f (by decide) ?_
      refine pr_rs ?_
      rw [hr]
      repeat first | refine bq_t (by decide) ?_ | refine bq_f (by decide) ?_
      refine pr_rt ⟨fI_in w 16, fun t et => ?_⟩
      subst et
      unfold wp_Fu_perform
      refine fun x ex => ?_
      have ex : x = 17 := ex.trans hr
      subst ex
      repeat first | refine bq_t (by decide) ?_ | refine bq_f (by decide) ?_
      refine fun y ey => ?_
      rw [hf] at ey
      subst ey
      repeat first | refine bq_t (by decide) ?_ | refine bq_f (by decide) ?_
      exact fu_toWord ha hd ea ed (fun q => absurd q he) (fun _ => hP)
    · have qa := evx (w := w) ha ea
      rcases Classical.em (fI w 11 &&& 1 = 1) with pa | na
      · unfold wp_Md_operate
        rw [ho]
        repeat first | refine bq_t (by decide) ?_ | refine bq_f (by decide) ?_
        unfold wp_Md_fractions
        refine md_field H.e9 (md_field H.e9 (md_field H.e9 ?_))
        rw [hr]
        repeat first | refine bq_t (by decide) ?_ | refine bq_f (by decide) ?_
        refine fun x ex => ?_
        rw [H.e9, hf] at ex
        subst ex
        repeat first | refine bq_t (by decide) ?_ | refine bq_f (by decide) ?_
        try unfold wj_Md_fractions_170
        refine md_field H.e9 ?_
        repeat first | refine bq_t (by decide) ?_ | refine bq_f (by decide) ?_ | refine bq_f na ?_ | refine bq_f nb ?_ | refine bq_f nd ?_ | refine bq_t pa (md_ends H.e5 ?_) | refine bq_t pa (md_ends_n (show ¬ (8 : Int32) = 0 by decide) ?_) | refine bq_t pb (md_ends H.e5 ?_) | refine bq_t pb (md_ends_n (show ¬ (8 : Int32) = 0 by decide) ?_) | refine bq_t pd (md_ends H.e5 ?_) | refine bq_t pd (md_ends_n (show ¬ (8 : Int32) = 0 by decide) ?_)
        exact bq_f (show ¬ (8 : Int32) ≤ 0 by decide) hQ
      · exact absurd (qa.mpr na) he

theorem i_w13_d (H : pre mn g rg hq mf cd fg w dd bm rr kt) (ho : zz_ushr w 26 = 17) (hr : fI w 21 = 17) (hf : w &&& 63 = 13) : pfx ms mn g rg hq mf cd fg w dd bm rr kt := by
  obtain ⟨a, ha, ea⟩ := fI_n w 11
  obtain ⟨b, hb, eb⟩ := fI_n w 16
  obtain ⟨d, hd, ed⟩ := fI_n w 6
  have h3 : w &&& 3 = 1 := by
    have : w &&& 3 = (w &&& 63) &&& 3 := by rw [Int32.and_assoc]; rfl
    rw [this, hf]; decide
  by_cases he : evn 1 a
  · refine pfx_fr H (rg' := rg) (cd' := cd) (fg' := upd fg d (wdB 1 1 (fbt fg 1 a))) (rr' := upd rr (34 + d) (wdB 1 1 (fbt fg 1 a))) (q_fg hd H.rel) (fun L O P hP => ?_) (fun dd l1 l2 H Q hQ => ?_)
    · unfold wp_Pr_perform
      refine pr_op ?_
      rw [ho]
      repeat first | refine bq_t (by decide) ?_ | refine bq_f (by decide) ?_
      refine pr_rs ?_
      rw [hr]
      repeat first | refine bq_t (by decide) ?_ | refine bq_f (by decide) ?_
      refine pr_rt ⟨fI_in w 16, fun t et => ?_⟩
      subst et
      unfold wp_Fu_perform
      refine fun x ex => ?_
      have ex : x = 17 := ex.trans hr
      subst ex
      repeat first | refine bq_t (by decide) ?_ | refine bq_f (by decide) ?_
      refine fun y ey => ?_
      rw [hf] at ey
      subst ey
      repeat first | refine bq_t (by decide) ?_ | refine bq_f (by decide) ?_
      refine fu_toWord ha hd ea ed (fun _ L' O' => ?_) (fun q => absurd he q)
      rw [h3]
      exact hP L' O'
    · unfold wp_Md_operate
      rw [ho]
      repeat first | refine bq_t (by decide) ?_ | refine bq_f (by decide) ?_
      unfold wp_Md_fractions
      refine md_field H.e9 (md_field H.e9 (md_field H.e9 ?_))
      rw [hr]
      repeat first | refine bq_t (by decide) ?_ | refine bq_f (by decide) ?_
      have na := (evx ha ea).mp he
      refine fun x ex => ?_
      rw [H.e9, hf] at ex
      subst ex
      repeat first | refine bq_t (by decide) ?_ | refine bq_f (by decide) ?_
      try unfold wj_Md_fractions_170
      refine md_field H.e9 ?_
      repeat first | refine bq_t (by decide) ?_ | refine bq_f (by decide) ?_ | refine bq_f na ?_ | refine bq_f nb ?_ | refine bq_f nd ?_ | refine bq_t pa (md_ends H.e5 ?_) | refine bq_t pa (md_ends_n (show ¬ (8 : Int32) = 0 by decide) ?_) | refine bq_t pb (md_ends H.e5 ?_) | refine bq_t pb (md_ends_n (show ¬ (8 : Int32) = 0 by decide) ?_) | refine bq_t pd (md_ends H.e5 ?_) | refine bq_t pd (md_ends_n (show ¬ (8 : Int32) = 0 by decide) ?_)
      refine bq_t (show dd 5 ≤ (0 : Int32) by rw [H.e5]; decide) ?_
      refine md_bits H.rel ha ea he ?_
      refine bq_t (by decide) ?_
      refine bq_t (by decide) ?_
      refine bq_f (by decide) ?_
      refine md_wordOf (fbt_fin _ _ _) (Or.inr (Or.inl ⟨rfl, rfl⟩)) (fun dd' l1' hl y ey => ?_)
      have e5 : dd' 5 = 0 := by rw [hl 5 (by decide)]; exact H.e5
      subst ey
      refine md_put (wd := 0) e5 hd ed (ev0 _) ?_
      unfold rrR
      rw [if_pos rfl, m32_i]
      exact hQ _ _ _ hl
  · refine pfx_mk H 8 (fun L O => (g, rg, hq, mf, cd, fg, L, O)) (fun dd l1 l2 => (upd dd 5 8, l1, l2, bm, rr, kt)) (fun L O P hP => ?_) (fun dd l1 l2 H L O => ⟨oc_end (by unfold q_e; simp) H.rel H.nxt rfl (fun j _ h => pk_un h), fun Q hQ => ?_⟩) (fun _ _ _ _ => rfl) (fun _ _ _ _ _ hs => ⟨by repeat first | exact hs | apply lo_upd, rfl, rfl, rfl⟩) (by first | exact Or.inr (fun _ _ => rfl) | exact Or.inl (by unfold q_e; decide)) (fun _ _ _ => rfl)
    · unfold wp_Pr_perform
      refine pr_op ?_
      rw [ho]
      repeat first | refine bq_t (by decide) ?_ | refine bq_f (by decide) ?_
      refine pr_rs ?_
      rw [hr]
      repeat first | refine bq_t (by decide) ?_ | refine bq_f (by decide) ?_
      refine pr_rt ⟨fI_in w 16, fun t et => ?_⟩
      subst et
      unfold wp_Fu_perform
      refine fun x ex => ?_
      have ex : x = 17 := ex.trans hr
      subst ex
      repeat first | refine bq_t (by decide) ?_ | refine bq_f (by decide) ?_
      refine fun y ey => ?_
      rw [hf] at ey
      subst ey
      repeat first | refine bq_t (by decide) ?_ | refine bq_f (by decide) ?_
      exact fu_toWord ha hd ea ed (fun q => absurd q he) (fun _ => hP)
    · have qa := evx (w := w) ha ea
      rcases Classical.em (fI w 11 &&& 1 = 1) with pa | na
      · unfold wp_Md_operate
        rw [ho]
        repeat first | refine bq_t (by decide) ?_ | refine bq_f (by decide) ?_
        unfold wp_Md_fractions
        refine md_field H.e9 (md_field H.e9 (md_field H.e9 ?_))
        rw [hr]
        repeat first | refine bq_t (by decide) ?_ | refine bq_f (by decide) ?_
        refine fun x ex => ?_
        rw [H.e9, hf] at ex
        subst ex
        repeat first | refine bq_t (by decide) ?_ | refine bq_f (by decide) ?_
        try unfold wj_Md_fractions_170
        refine md_field H.e9 ?_
        repeat first | refine bq_t (by decide) ?_ | refine bq_f (by decide) ?_ | refine bq_f na ?_ | refine bq_f nb ?_ | refine bq_f nd ?_ | refine bq_t pa (md_ends H.e5 ?_) | refine bq_t pa (md_ends_n (show ¬ (8 : Int32) = 0 by decide) ?_) | refine bq_t pb (md_ends H.e5 ?_) | refine bq_t pb (md_ends_n (show ¬ (8 : Int32) = 0 by decide) ?_) | refine bq_t pd (md_ends H.e5 ?_) | refine bq_t pd (md_ends_n (show ¬ (8 : Int32) = 0 by decide) ?_)
        exact bq_f (show ¬ (8 : Int32) ≤ 0 by decide) hQ
      · exact absurd (qa.mpr na) he

theorem i_w14_d (H : pre mn g rg hq mf cd fg w dd bm rr kt) (ho : zz_ushr w 26 = 17) (hr : fI w 21 = 17) (hf : w &&& 63 = 14) : pfx ms mn g rg hq mf cd fg w dd bm rr kt := by
  obtain ⟨a, ha, ea⟩ := fI_n w 11
  obtain ⟨b, hb, eb⟩ := fI_n w 16
  obtain ⟨d, hd, ed⟩ := fI_n w 6
  have h3 : w &&& 3 = 2 := by
    have : w &&& 3 = (w &&& 63) &&& 3 := by rw [Int32.and_assoc]; rfl
    rw [this, hf]; decide
  by_cases he : evn 1 a
  · refine pfx_fr H (rg' := rg) (cd' := cd) (fg' := upd fg d (wdB 2 1 (fbt fg 1 a))) (rr' := upd rr (34 + d) (wdB 2 1 (fbt fg 1 a))) (q_fg hd H.rel) (fun L O P hP => ?_) (fun dd l1 l2 H Q hQ => ?_)
    · unfold wp_Pr_perform
      refine pr_op ?_
      rw [ho]
      repeat first | refine bq_t (by decide) ?_ | refine bq_f (by decide) ?_
      refine pr_rs ?_
      rw [hr]
      repeat first | refine bq_t (by decide) ?_ | refine bq_f (by decide) ?_
      refine pr_rt ⟨fI_in w 16, fun t et => ?_⟩
      subst et
      unfold wp_Fu_perform
      refine fun x ex => ?_
      have ex : x = 17 := ex.trans hr
      subst ex
      repeat first | refine bq_t (by decide) ?_ | refine bq_f (by decide) ?_
      refine fun y ey => ?_
      rw [hf] at ey
      subst ey
      repeat first | refine bq_t (by decide) ?_ | refine bq_f (by decide) ?_
      refine fu_toWord ha hd ea ed (fun _ L' O' => ?_) (fun q => absurd he q)
      rw [h3]
      exact hP L' O'
    · unfold wp_Md_operate
      rw [ho]
      repeat first | refine bq_t (by decide) ?_ | refine bq_f (by decide) ?_
      unfold wp_Md_fractions
      refine md_field H.e9 (md_field H.e9 (md_field H.e9 ?_))
      rw [hr]
      repeat first | refine bq_t (by decide) ?_ | refine bq_f (by decide) ?_
      have na := (evx ha ea).mp he
      refine fun x ex => ?_
      rw [H.e9, hf] at ex
      subst ex
      repeat first | refine bq_t (by decide) ?_ | refine bq_f (by decide) ?_
      try unfold wj_Md_fractions_170
      refine md_field H.e9 ?_
      repeat first | refine bq_t (by decide) ?_ | refine bq_f (by decide) ?_ | refine bq_f na ?_ | refine bq_f nb ?_ | refine bq_f nd ?_ | refine bq_t pa (md_ends H.e5 ?_) | refine bq_t pa (md_ends_n (show ¬ (8 : Int32) = 0 by decide) ?_) | refine bq_t pb (md_ends H.e5 ?_) | refine bq_t pb (md_ends_n (show ¬ (8 : Int32) = 0 by decide) ?_) | refine bq_t pd (md_ends H.e5 ?_) | refine bq_t pd (md_ends_n (show ¬ (8 : Int32) = 0 by decide) ?_)
      refine bq_t (show dd 5 ≤ (0 : Int32) by rw [H.e5]; decide) ?_
      refine md_bits H.rel ha ea he ?_
      refine bq_t (by decide) ?_
      refine bq_t (by decide) ?_
      refine bq_f (by decide) ?_
      refine md_wordOf (fbt_fin _ _ _) (Or.inr (Or.inr (Or.inl ⟨rfl, rfl⟩))) (fun dd' l1' hl y ey => ?_)
      have e5 : dd' 5 = 0 := by rw [hl 5 (by decide)]; exact H.e5
      subst ey
      refine md_put (wd := 0) e5 hd ed (ev0 _) ?_
      unfold rrR
      rw [if_pos rfl, m32_i]
      exact hQ _ _ _ hl
  · refine pfx_mk H 8 (fun L O => (g, rg, hq, mf, cd, fg, L, O)) (fun dd l1 l2 => (upd dd 5 8, l1, l2, bm, rr, kt)) (fun L O P hP => ?_) (fun dd l1 l2 H L O => ⟨oc_end (by unfold q_e; simp) H.rel H.nxt rfl (fun j _ h => pk_un h), fun Q hQ => ?_⟩) (fun _ _ _ _ => rfl) (fun _ _ _ _ _ hs => ⟨by repeat first | exact hs | apply lo_upd, rfl, rfl, rfl⟩) (by first | exact Or.inr (fun _ _ => rfl) | exact Or.inl (by unfold q_e; decide)) (fun _ _ _ => rfl)
    · unfold wp_Pr_perform
      refine pr_op ?_
      rw [ho]
      repeat first | refine bq_t (by decide) ?_ | refine bq_f (by decide) ?_
      refine pr_rs ?_
      rw [hr]
      repeat first | refine bq_t (by decide) ?_ | refine bq_f (by decide) ?_
      refine pr_rt ⟨fI_in w 16, fun t et => ?_⟩
      subst et
      unfold wp_Fu_perform
      refine fun x ex => ?_
      have ex : x = 17 := ex.trans hr
      subst ex
      repeat first | refine bq_t (by decide) ?_ | refine bq_f (by decide) ?_
      refine fun y ey => ?_
      rw [hf] at ey
      subst ey
      repeat first | refine bq_t (by decide) ?_ | refine bq_f (by decide) ?_
      exact fu_toWord ha hd ea ed (fun q => absurd q he) (fun _ => hP)
    · have qa := evx (w := w) ha ea
      rcases Classical.em (fI w 11 &&& 1 = 1) with pa | na
      · unfold wp_Md_operate
        rw [ho]
        repeat first | refine bq_t (by decide) ?_ | refine bq_f (by decide) ?_
        unfold wp_Md_fractions
        refine md_field H.e9 (md_field H.e9 (md_field H.e9 ?_))
        rw [hr]
        repeat first | refine bq_t (by decide) ?_ | refine bq_f (by decide) ?_
        refine fun x ex => ?_
        rw [H.e9, hf] at ex
        subst ex
        repeat first | refine bq_t (by decide) ?_ | refine bq_f (by decide) ?_
        try unfold wj_Md_fractions_170
        refine md_field H.e9 ?_
        repeat first | refine bq_t (by decide) ?_ | refine bq_f (by decide) ?_ | refine bq_f na ?_ | refine bq_f nb ?_ | refine bq_f nd ?_ | refine bq_t pa (md_ends H.e5 ?_) | refine bq_t pa (md_ends_n (show ¬ (8 : Int32) = 0 by decide) ?_) | refine bq_t pb (md_ends H.e5 ?_) | refine bq_t pb (md_ends_n (show ¬ (8 : Int32) = 0 by decide) ?_) | refine bq_t pd (md_ends H.e5 ?_) | refine bq_t pd (md_ends_n (show ¬ (8 : Int32) = 0 by decide) ?_)
        exact bq_f (show ¬ (8 : Int32) ≤ 0 by decide) hQ
      · exact absurd (qa.mpr na) he

theorem i_w15_d (H : pre mn g rg hq mf cd fg w dd bm rr kt) (ho : zz_ushr w 26 = 17) (hr : fI w 21 = 17) (hf : w &&& 63 = 15) : pfx ms mn g rg hq mf cd fg w dd bm rr kt := by
  obtain ⟨a, ha, ea⟩ := fI_n w 11
  obtain ⟨b, hb, eb⟩ := fI_n w 16
  obtain ⟨d, hd, ed⟩ := fI_n w 6
  have h3 : w &&& 3 = 3 := by
    have : w &&& 3 = (w &&& 63) &&& 3 := by rw [Int32.and_assoc]; rfl
    rw [this, hf]; decide
  by_cases he : evn 1 a
  · refine pfx_fr H (rg' := rg) (cd' := cd) (fg' := upd fg d (wdB 3 1 (fbt fg 1 a))) (rr' := upd rr (34 + d) (wdB 3 1 (fbt fg 1 a))) (q_fg hd H.rel) (fun L O P hP => ?_) (fun dd l1 l2 H Q hQ => ?_)
    · unfold wp_Pr_perform
      refine pr_op ?_
      rw [ho]
      repeat first | refine bq_t (by decide) ?_ | refine bq_f (by decide) ?_
      refine pr_rs ?_
      rw [hr]
      repeat first | refine bq_t (by decide) ?_ | refine bq_f (by decide) ?_
      refine pr_rt ⟨fI_in w 16, fun t et => ?_⟩
      subst et
      unfold wp_Fu_perform
      refine fun x ex => ?_
      have ex : x = 17 := ex.trans hr
      subst ex
      repeat first | refine bq_t (by decide) ?_ | refine bq_f (by decide) ?_
      refine fun y ey => ?_
      rw [hf] at ey
      subst ey
      repeat first | refine bq_t (by decide) ?_ | refine bq_f (by decide) ?_
      refine fu_toWord ha hd ea ed (fun _ L' O' => ?_) (fun q => absurd he q)
      rw [h3]
      exact hP L' O'
    · unfold wp_Md_operate
      rw [ho]
      repeat first | refine bq_t (by decide) ?_ | refine bq_f (by decide) ?_
      unfold wp_Md_fractions
      refine md_field H.e9 (md_field H.e9 (md_field H.e9 ?_))
      rw [hr]
      repeat first | refine bq_t (by decide) ?_ | refine bq_f (by decide) ?_
      have na := (evx ha ea).mp he
      refine fun x ex => ?_
      rw [H.e9, hf] at ex
      subst ex
      repeat first | refine bq_t (by decide) ?_ | refine bq_f (by decide) ?_
      try unfold wj_Md_fractions_170
      refine md_field H.e9 ?_
      repeat first | refine bq_t (by decide) ?_ | refine bq_f (by decide) ?_ | refine bq_f na ?_ | refine bq_f nb ?_ | refine bq_f nd ?_ | refine bq_t pa (md_ends H.e5 ?_) | refine bq_t pa (md_ends_n (show ¬ (8 : Int32) = 0 by decide) ?_) | refine bq_t pb (md_ends H.e5 ?_) | refine bq_t pb (md_ends_n (show ¬ (8 : Int32) = 0 by decide) ?_) | refine bq_t pd (md_ends H.e5 ?_) | refine bq_t pd (md_ends_n (show ¬ (8 : Int32) = 0 by decide) ?_)
      refine bq_t (show dd 5 ≤ (0 : Int32) by rw [H.e5]; decide) ?_
      refine md_bits H.rel ha ea he ?_
      refine bq_t (by decide) ?_
      refine bq_t (by decide) ?_
      refine bq_f (by decide) ?_
      refine md_wordOf (fbt_fin _ _ _) (Or.inr (Or.inr (Or.inr (Or.inl ⟨rfl, rfl⟩)))) (fun dd' l1' hl y ey => ?_)
      have e5 : dd' 5 = 0 := by rw [hl 5 (by decide)]; exact H.e5
      subst ey
      refine md_put (wd := 0) e5 hd ed (ev0 _) ?_
      unfold rrR
      rw [if_pos rfl, m32_i]
      exact hQ _ _ _ hl
  · refine pfx_mk H 8 (fun L O => (g, rg, hq, mf, cd, fg, L, O)) (fun dd l1 l2 => (upd dd 5 8, l1, l2, bm, rr, kt)) (fun L O P hP => ?_) (fun dd l1 l2 H L O => ⟨oc_end (by unfold q_e; simp) H.rel H.nxt rfl (fun j _ h => pk_un h), fun Q hQ => ?_⟩) (fun _ _ _ _ => rfl) (fun _ _ _ _ _ hs => ⟨by repeat first | exact hs | apply lo_upd, rfl, rfl, rfl⟩) (by first | exact Or.inr (fun _ _ => rfl) | exact Or.inl (by unfold q_e; decide)) (fun _ _ _ => rfl)
    · unfold wp_Pr_perform
      refine pr_op ?_
      rw [ho]
      repeat first | refine bq_t (by decide) ?_ | refine bq_f (by decide) ?_
      refine pr_rs ?_
      rw [hr]
      repeat first | refine bq_t (by decide) ?_ | refine bq_f (by decide) ?_
      refine pr_rt ⟨fI_in w 16, fun t et => ?_⟩
      subst et
      unfold wp_Fu_perform
      refine fun x ex => ?_
      have ex : x = 17 := ex.trans hr
      subst ex
      repeat first | refine bq_t (by decide) ?_ | refine bq_f (by decide) ?_
      refine fun y ey => ?_
      rw [hf] at ey
      subst ey
      repeat first | refine bq_t (by decide) ?_ | refine bq_f (by decide) ?_
      exact fu_toWord ha hd ea ed (fun q => absurd q he) (fun _ => hP)
    · have qa := evx (w := w) ha ea
      rcases Classical.em (fI w 11 &&& 1 = 1) with pa | na
      · unfold wp_Md_operate
        rw [ho]
        repeat first | refine bq_t (by decide) ?_ | refine bq_f (by decide) ?_
        unfold wp_Md_fractions
        refine md_field H.e9 (md_field H.e9 (md_field H.e9 ?_))
        rw [hr]
        repeat first | refine bq_t (by decide) ?_ | refine bq_f (by decide) ?_
        refine fun x ex => ?_
        rw [H.e9, hf] at ex
        subst ex
        repeat first | refine bq_t (by decide) ?_ | refine bq_f (by decide) ?_
        try unfold wj_Md_fractions_170
        refine md_field H.e9 ?_
        repeat first | refine bq_t (by decide) ?_ | refine bq_f (by decide) ?_ | refine bq_f na ?_ | refine bq_f nb ?_ | refine bq_f nd ?_ | refine bq_t pa (md_ends H.e5 ?_) | refine bq_t pa (md_ends_n (show ¬ (8 : Int32) = 0 by decide) ?_) | refine bq_t pb (md_ends H.e5 ?_) | refine bq_t pb (md_ends_n (show ¬ (8 : Int32) = 0 by decide) ?_) | refine bq_t pd (md_ends H.e5 ?_) | refine bq_t pd (md_ends_n (show ¬ (8 : Int32) = 0 by decide) ?_)
        exact bq_f (show ¬ (8 : Int32) ≤ 0 by decide) hQ
      · exact absurd (qa.mpr na) he

theorem i_w36_d (H : pre mn g rg hq mf cd fg w dd bm rr kt) (ho : zz_ushr w 26 = 17) (hr : fI w 21 = 17) (hf : w &&& 63 = 36) : pfx ms mn g rg hq mf cd fg w dd bm rr kt := by
  obtain ⟨a, ha, ea⟩ := fI_n w 11
  obtain ⟨b, hb, eb⟩ := fI_n w 16
  obtain ⟨d, hd, ed⟩ := fI_n w 6
  have h3 : w &&& 3 = 0 := by
    have : w &&& 3 = (w &&& 63) &&& 3 := by rw [Int32.and_assoc]; rfl
    rw [this, hf]; decide
  by_cases he : evn 1 a
  · refine pfx_fr H (rg' := rg) (cd' := cd) (fg' := upd fg d (wdB 0 1 (fbt fg 1 a))) (rr' := upd rr (34 + d) (wdB 0 1 (fbt fg 1 a))) (q_fg hd H.rel) (fun L O P hP => ?_) (fun dd l1 l2 H Q hQ => ?_)
    · unfold wp_Pr_perform
      refine pr_op ?_
      rw [ho]
      repeat first | refine bq_t (by decide) ?_ | refine bq_f (by decide) ?_
      refine pr_rs ?_
      rw [hr]
      repeat first | refine bq_t (by decide) ?_ | refine bq_f (by decide) ?_
      refine pr_rt ⟨fI_in w 16, fun t et => ?_⟩
      subst et
      unfold wp_Fu_perform
      refine fun x ex => ?_
      have ex : x = 17 := ex.trans hr
      subst ex
      repeat first | refine bq_t (by decide) ?_ | refine bq_f (by decide) ?_
      refine fun y ey => ?_
      rw [hf] at ey
      subst ey
      repeat first | refine bq_t (by decide) ?_ | refine bq_f (by decide) ?_
      refine fu_toWord ha hd ea ed (fun _ L' O' => ?_) (fun q => absurd he q)
      rw [h3]
      exact hP L' O'
    · unfold wp_Md_operate
      rw [ho]
      repeat first | refine bq_t (by decide) ?_ | refine bq_f (by decide) ?_
      unfold wp_Md_fractions
      refine md_field H.e9 (md_field H.e9 (md_field H.e9 ?_))
      rw [hr]
      repeat first | refine bq_t (by decide) ?_ | refine bq_f (by decide) ?_
      have na := (evx ha ea).mp he
      refine fun x ex => ?_
      rw [H.e9, hf] at ex
      subst ex
      repeat first | refine bq_t (by decide) ?_ | refine bq_f (by decide) ?_
      try unfold wj_Md_fractions_170
      refine md_field H.e9 ?_
      repeat first | refine bq_t (by decide) ?_ | refine bq_f (by decide) ?_ | refine bq_f na ?_ | refine bq_f nb ?_ | refine bq_f nd ?_ | refine bq_t pa (md_ends H.e5 ?_) | refine bq_t pa (md_ends_n (show ¬ (8 : Int32) = 0 by decide) ?_) | refine bq_t pb (md_ends H.e5 ?_) | refine bq_t pb (md_ends_n (show ¬ (8 : Int32) = 0 by decide) ?_) | refine bq_t pd (md_ends H.e5 ?_) | refine bq_t pd (md_ends_n (show ¬ (8 : Int32) = 0 by decide) ?_)
      refine bq_t (show dd 5 ≤ (0 : Int32) by rw [H.e5]; decide) ?_
      refine md_bits H.rel ha ea he ?_
      refine bq_t (by decide) ?_
      refine bq_t (by decide) ?_
      refine bq_f (by decide) ?_
      refine md_wordOf (fbt_fin _ _ _) (Or.inr (Or.inr (Or.inr (Or.inr ⟨rfl, rfl⟩)))) (fun dd' l1' hl y ey => ?_)
      have e5 : dd' 5 = 0 := by rw [hl 5 (by decide)]; exact H.e5
      subst ey
      refine md_put (wd := 0) e5 hd ed (ev0 _) ?_
      unfold rrR
      rw [if_pos rfl, m32_i]
      exact hQ _ _ _ hl
  · refine pfx_mk H 8 (fun L O => (g, rg, hq, mf, cd, fg, L, O)) (fun dd l1 l2 => (upd dd 5 8, l1, l2, bm, rr, kt)) (fun L O P hP => ?_) (fun dd l1 l2 H L O => ⟨oc_end (by unfold q_e; simp) H.rel H.nxt rfl (fun j _ h => pk_un h), fun Q hQ => ?_⟩) (fun _ _ _ _ => rfl) (fun _ _ _ _ _ hs => ⟨by repeat first | exact hs | apply lo_upd, rfl, rfl, rfl⟩) (by first | exact Or.inr (fun _ _ => rfl) | exact Or.inl (by unfold q_e; decide)) (fun _ _ _ => rfl)
    · unfold wp_Pr_perform
      refine pr_op ?_
      rw [ho]
      repeat first | refine bq_t (by decide) ?_ | refine bq_f (by decide) ?_
      refine pr_rs ?_
      rw [hr]
      repeat first | refine bq_t (by decide) ?_ | refine bq_f (by decide) ?_
      refine pr_rt ⟨fI_in w 16, fun t et => ?_⟩
      subst et
      unfold wp_Fu_perform
      refine fun x ex => ?_
      have ex : x = 17 := ex.trans hr
      subst ex
      repeat first | refine bq_t (by decide) ?_ | refine bq_f (by decide) ?_
      refine fun y ey => ?_
      rw [hf] at ey
      subst ey
      repeat first | refine bq_t (by decide) ?_ | refine bq_f (by decide) ?_
      exact fu_toWord ha hd ea ed (fun q => absurd q he) (fun _ => hP)
    · have qa := evx (w := w) ha ea
      rcases Classical.em (fI w 11 &&& 1 = 1) with pa | na
      · unfold wp_Md_operate
        rw [ho]
        repeat first | refine bq_t (by decide) ?_ | refine bq_f (by decide) ?_
        unfold wp_Md_fractions
        refine md_field H.e9 (md_field H.e9 (md_field H.e9 ?_))
        rw [hr]
        repeat first | refine bq_t (by decide) ?_ | refine bq_f (by decide) ?_
        refine fun x ex => ?_
        rw [H.e9, hf] at ex
        subst ex
        repeat first | refine bq_t (by decide) ?_ | refine bq_f (by decide) ?_
        try unfold wj_Md_fractions_170
        refine md_field H.e9 ?_
        repeat first | refine bq_t (by decide) ?_ | refine bq_f (by decide) ?_ | refine bq_f na ?_ | refine bq_f nb ?_ | refine bq_f nd ?_ | refine bq_t pa (md_ends H.e5 ?_) | refine bq_t pa (md_ends_n (show ¬ (8 : Int32) = 0 by decide) ?_) | refine bq_t pb (md_ends H.e5 ?_) | refine bq_t pb (md_ends_n (show ¬ (8 : Int32) = 0 by decide) ?_) | refine bq_t pd (md_ends H.e5 ?_) | refine bq_t pd (md_ends_n (show ¬ (8 : Int32) = 0 by decide) ?_)
        exact bq_f (show ¬ (8 : Int32) ≤ 0 by decide) hQ
      · exact absurd (qa.mpr na) he

theorem i_c48_d (H : pre mn g rg hq mf cd fg w dd bm rr kt) (ho : zz_ushr w 26 = 17) (hr : fI w 21 = 17) (hf : w &&& 63 = 48) : pfx ms mn g rg hq mf cd fg w dd bm rr kt := by
  obtain ⟨a, ha, ea⟩ := fI_n w 11
  obtain ⟨b, hb, eb⟩ := fI_n w 16
  obtain ⟨d, hd, ed⟩ := fI_n w 6
  by_cases he : evn 1 a ∧ evn 1 b
  · refine pfx_fr H (rg' := rg) (cd' := cdN cd w (cmpC 1 (fbt fg 1 a) (fbt fg 1 b))) (fg' := fg) (rr' := upd rr 66 (cdN cd w (cmpC 1 (fbt fg 1 a) (fbt fg 1 b)))) (q_cd H.rel) (fun L O P hP => ?_) (fun dd l1 l2 H Q hQ => ?_)
    · unfold wp_Pr_perform
      refine pr_op ?_
      rw [ho]
      repeat first | refine bq_t (by decide) ?_ | refine bq_f (by decide) ?_
      refine pr_rs ?_
      rw [hr]
      repeat first | refine bq_t (by decide) ?_ | refine bq_f (by decide) ?_
      refine pr_rt ⟨fI_in w 16, fun t et => ?_⟩
      subst et
      unfold wp_Fu_perform
      refine fun x ex => ?_
      have ex : x = 17 := ex.trans hr
      subst ex
      repeat first | refine bq_t (by decide) ?_ | refine bq_f (by decide) ?_
      refine fun y ey => ?_
      rw [hf] at ey
      subst ey
      repeat first | refine bq_t (by decide) ?_ | refine bq_f (by decide) ?_
      exact fu_compare ha hb ea eb (fun _ L' O' => hP L' O') (fun q => absurd he q)
    · unfold wp_Md_operate
      rw [ho]
      repeat first | refine bq_t (by decide) ?_ | refine bq_f (by decide) ?_
      unfold wp_Md_fractions
      refine md_field H.e9 (md_field H.e9 (md_field H.e9 ?_))
      rw [hr]
      repeat first | refine bq_t (by decide) ?_ | refine bq_f (by decide) ?_
      have na := (evx ha ea).mp he.1
      have nb := (evx hb eb).mp he.2
      refine fun x ex => ?_
      rw [H.e9, hf] at ex
      subst ex
      repeat first | refine bq_t (by decide) ?_ | refine bq_f (by decide) ?_
      try unfold wj_Md_fractions_170
      refine md_field H.e9 ?_
      repeat first | refine bq_t (by decide) ?_ | refine bq_f (by decide) ?_ | refine bq_f na ?_ | refine bq_f nb ?_ | refine bq_f nd ?_ | refine bq_t pa (md_ends H.e5 ?_) | refine bq_t pa (md_ends_n (show ¬ (8 : Int32) = 0 by decide) ?_) | refine bq_t pb (md_ends H.e5 ?_) | refine bq_t pb (md_ends_n (show ¬ (8 : Int32) = 0 by decide) ?_) | refine bq_t pd (md_ends H.e5 ?_) | refine bq_t pd (md_ends_n (show ¬ (8 : Int32) = 0 by decide) ?_)
      refine bq_t (show dd 5 ≤ (0 : Int32) by rw [H.e5]; decide) ?_
      refine md_bits H.rel ha ea he.1 ?_
      refine bq_f (by decide) ?_
      refine md_bits H.rel hb eb he.2 ?_
      exact md_compares H (fbt_fin _ _ _) (fbt_fin _ _ _) (by rw [hf]) hQ
  · refine pfx_mk H 8 (fun L O => (g, rg, hq, mf, cd, fg, L, O)) (fun dd l1 l2 => (upd dd 5 8, l1, l2, bm, rr, kt)) (fun L O P hP => ?_) (fun dd l1 l2 H L O => ⟨oc_end (by unfold q_e; simp) H.rel H.nxt rfl (fun j _ h => pk_un h), fun Q hQ => ?_⟩) (fun _ _ _ _ => rfl) (fun _ _ _ _ _ hs => ⟨by repeat first | exact hs | apply lo_upd, rfl, rfl, rfl⟩) (by first | exact Or.inr (fun _ _ => rfl) | exact Or.inl (by unfold q_e; decide)) (fun _ _ _ => rfl)
    · unfold wp_Pr_perform
      refine pr_op ?_
      rw [ho]
      repeat first | refine bq_t (by decide) ?_ | refine bq_f (by decide) ?_
      refine pr_rs ?_
      rw [hr]
      repeat first | refine bq_t (by decide) ?_ | refine bq_f (by decide) ?_
      refine pr_rt ⟨fI_in w 16, fun t et => ?_⟩
      subst et
      unfold wp_Fu_perform
      refine fun x ex => ?_
      have ex : x = 17 := ex.trans hr
      subst ex
      repeat first | refine bq_t (by decide) ?_ | refine bq_f (by decide) ?_
      refine fun y ey => ?_
      rw [hf] at ey
      subst ey
      repeat first | refine bq_t (by decide) ?_ | refine bq_f (by decide) ?_
      exact fu_compare ha hb ea eb (fun q => absurd q he) (fun _ => hP)
    · have qa := evx (w := w) ha ea
      have qb := evx (w := w) hb eb
      rcases Classical.em (fI w 11 &&& 1 = 1) with pa | na
      · rcases Classical.em (fI w 16 &&& 1 = 1) with pb | nb
        · unfold wp_Md_operate
          rw [ho]
          repeat first | refine bq_t (by decide) ?_ | refine bq_f (by decide) ?_
          unfold wp_Md_fractions
          refine md_field H.e9 (md_field H.e9 (md_field H.e9 ?_))
          rw [hr]
          repeat first | refine bq_t (by decide) ?_ | refine bq_f (by decide) ?_
          refine fun x ex => ?_
          rw [H.e9, hf] at ex
          subst ex
          repeat first | refine bq_t (by decide) ?_ | refine bq_f (by decide) ?_
          try unfold wj_Md_fractions_170
          refine md_field H.e9 ?_
          repeat first | refine bq_t (by decide) ?_ | refine bq_f (by decide) ?_ | refine bq_f na ?_ | refine bq_f nb ?_ | refine bq_f nd ?_ | refine bq_t pa (md_ends H.e5 ?_) | refine bq_t pa (md_ends_n (show ¬ (8 : Int32) = 0 by decide) ?_) | refine bq_t pb (md_ends H.e5 ?_) | refine bq_t pb (md_ends_n (show ¬ (8 : Int32) = 0 by decide) ?_) | refine bq_t pd (md_ends H.e5 ?_) | refine bq_t pd (md_ends_n (show ¬ (8 : Int32) = 0 by decide) ?_)
          exact bq_f (show ¬ (8 : Int32) ≤ 0 by decide) hQ
        · unfold wp_Md_operate
          rw [ho]
          repeat first | refine bq_t (by decide) ?_ | refine bq_f (by decide) ?_
          unfold wp_Md_fractions
          refine md_field H.e9 (md_field H.e9 (md_field H.e9 ?_))
          rw [hr]
          repeat first | refine bq_t (by decide) ?_ | refine bq_f (by decide) ?_
          refine fun x ex => ?_
          rw [H.e9, hf] at ex
          subst ex
          repeat first | refine bq_t (by decide) ?_ | refine bq_f (by decide) ?_
          try unfold wj_Md_fractions_170
          refine md_field H.e9 ?_
          repeat first | refine bq_t (by decide) ?_ | refine bq_f (by decide) ?_ | refine bq_f na ?_ | refine bq_f nb ?_ | refine bq_f nd ?_ | refine bq_t pa (md_ends H.e5 ?_) | refine bq_t pa (md_ends_n (show ¬ (8 : Int32) = 0 by decide) ?_) | refine bq_t pb (md_ends H.e5 ?_) | refine bq_t pb (md_ends_n (show ¬ (8 : Int32) = 0 by decide) ?_) | refine bq_t pd (md_ends H.e5 ?_) | refine bq_t pd (md_ends_n (show ¬ (8 : Int32) = 0 by decide) ?_)
          exact bq_f (show ¬ (8 : Int32) ≤ 0 by decide) hQ
      · rcases Classical.em (fI w 16 &&& 1 = 1) with pb | nb
        · unfold wp_Md_operate
          rw [ho]
          repeat first | refine bq_t (by decide) ?_ | refine bq_f (by decide) ?_
          unfold wp_Md_fractions
          refine md_field H.e9 (md_field H.e9 (md_field H.e9 ?_))
          rw [hr]
          repeat first | refine bq_t (by decide) ?_ | refine bq_f (by decide) ?_
          refine fun x ex => ?_
          rw [H.e9, hf] at ex
          subst ex
          repeat first | refine bq_t (by decide) ?_ | refine bq_f (by decide) ?_
          try unfold wj_Md_fractions_170
          refine md_field H.e9 ?_
          repeat first | refine bq_t (by decide) ?_ | refine bq_f (by decide) ?_ | refine bq_f na ?_ | refine bq_f nb ?_ | refine bq_f nd ?_ | refine bq_t pa (md_ends H.e5 ?_) | refine bq_t pa (md_ends_n (show ¬ (8 : Int32) = 0 by decide) ?_) | refine bq_t pb (md_ends H.e5 ?_) | refine bq_t pb (md_ends_n (show ¬ (8 : Int32) = 0 by decide) ?_) | refine bq_t pd (md_ends H.e5 ?_) | refine bq_t pd (md_ends_n (show ¬ (8 : Int32) = 0 by decide) ?_)
          exact bq_f (show ¬ (8 : Int32) ≤ 0 by decide) hQ
        · exact absurd (⟨qa.mpr na, qb.mpr nb⟩) he

theorem i_c49_d (H : pre mn g rg hq mf cd fg w dd bm rr kt) (ho : zz_ushr w 26 = 17) (hr : fI w 21 = 17) (hf : w &&& 63 = 49) : pfx ms mn g rg hq mf cd fg w dd bm rr kt := by
  obtain ⟨a, ha, ea⟩ := fI_n w 11
  obtain ⟨b, hb, eb⟩ := fI_n w 16
  obtain ⟨d, hd, ed⟩ := fI_n w 6
  by_cases he : evn 1 a ∧ evn 1 b
  · refine pfx_fr H (rg' := rg) (cd' := cdN cd w (cmpC 1 (fbt fg 1 a) (fbt fg 1 b))) (fg' := fg) (rr' := upd rr 66 (cdN cd w (cmpC 1 (fbt fg 1 a) (fbt fg 1 b)))) (q_cd H.rel) (fun L O P hP => ?_) (fun dd l1 l2 H Q hQ => ?_)
    · unfold wp_Pr_perform
      refine pr_op ?_
      rw [ho]
      repeat first | refine bq_t (by decide) ?_ | refine bq_f (by decide) ?_
      refine pr_rs ?_
      rw [hr]
      repeat first | refine bq_t (by decide) ?_ | refine bq_f (by decide) ?_
      refine pr_rt ⟨fI_in w 16, fun t et => ?_⟩
      subst et
      unfold wp_Fu_perform
      refine fun x ex => ?_
      have ex : x = 17 := ex.trans hr
      subst ex
      repeat first | refine bq_t (by decide) ?_ | refine bq_f (by decide) ?_
      refine fun y ey => ?_
      rw [hf] at ey
      subst ey
      repeat first | refine bq_t (by decide) ?_ | refine bq_f (by decide) ?_
      exact fu_compare ha hb ea eb (fun _ L' O' => hP L' O') (fun q => absurd he q)
    · unfold wp_Md_operate
      rw [ho]
      repeat first | refine bq_t (by decide) ?_ | refine bq_f (by decide) ?_
      unfold wp_Md_fractions
      refine md_field H.e9 (md_field H.e9 (md_field H.e9 ?_))
      rw [hr]
      repeat first | refine bq_t (by decide) ?_ | refine bq_f (by decide) ?_
      have na := (evx ha ea).mp he.1
      have nb := (evx hb eb).mp he.2
      refine fun x ex => ?_
      rw [H.e9, hf] at ex
      subst ex
      repeat first | refine bq_t (by decide) ?_ | refine bq_f (by decide) ?_
      try unfold wj_Md_fractions_170
      refine md_field H.e9 ?_
      repeat first | refine bq_t (by decide) ?_ | refine bq_f (by decide) ?_ | refine bq_f na ?_ | refine bq_f nb ?_ | refine bq_f nd ?_ | refine bq_t pa (md_ends H.e5 ?_) | refine bq_t pa (md_ends_n (show ¬ (8 : Int32) = 0 by decide) ?_) | refine bq_t pb (md_ends H.e5 ?_) | refine bq_t pb (md_ends_n (show ¬ (8 : Int32) = 0 by decide) ?_) | refine bq_t pd (md_ends H.e5 ?_) | refine bq_t pd (md_ends_n (show ¬ (8 : Int32) = 0 by decide) ?_)
      refine bq_t (show dd 5 ≤ (0 : Int32) by rw [H.e5]; decide) ?_
      refine md_bits H.rel ha ea he.1 ?_
      refine bq_f (by decide) ?_
      refine md_bits H.rel hb eb he.2 ?_
      exact md_compares H (fbt_fin _ _ _) (fbt_fin _ _ _) (by rw [hf]) hQ
  · refine pfx_mk H 8 (fun L O => (g, rg, hq, mf, cd, fg, L, O)) (fun dd l1 l2 => (upd dd 5 8, l1, l2, bm, rr, kt)) (fun L O P hP => ?_) (fun dd l1 l2 H L O => ⟨oc_end (by unfold q_e; simp) H.rel H.nxt rfl (fun j _ h => pk_un h), fun Q hQ => ?_⟩) (fun _ _ _ _ => rfl) (fun _ _ _ _ _ hs => ⟨by repeat first | exact hs | apply lo_upd, rfl, rfl, rfl⟩) (by first | exact Or.inr (fun _ _ => rfl) | exact Or.inl (by unfold q_e; decide)) (fun _ _ _ => rfl)
    · unfold wp_Pr_perform
      refine pr_op ?_
      rw [ho]
      repeat first | refine bq_t (by decide) ?_ | refine bq_f (by decide) ?_
      refine pr_rs ?_
      rw [hr]
      repeat first | refine bq_t (by decide) ?_ | refine bq_f (by decide) ?_
      refine pr_rt ⟨fI_in w 16, fun t et => ?_⟩
      subst et
      unfold wp_Fu_perform
      refine fun x ex => ?_
      have ex : x = 17 := ex.trans hr
      subst ex
      repeat first | refine bq_t (by decide) ?_ | refine bq_f (by decide) ?_
      refine fun y ey => ?_
      rw [hf] at ey
      subst ey
      repeat first | refine bq_t (by decide) ?_ | refine bq_f (by decide) ?_
      exact fu_compare ha hb ea eb (fun q => absurd q he) (fun _ => hP)
    · have qa := evx (w := w) ha ea
      have qb := evx (w := w) hb eb
      rcases Classical.em (fI w 11 &&& 1 = 1) with pa | na
      · rcases Classical.em (fI w 16 &&& 1 = 1) with pb | nb
        · unfold wp_Md_operate
          rw [ho]
          repeat first | refine bq_t (by decide) ?_ | refine bq_f (by decide) ?_
          unfold wp_Md_fractions
          refine md_field H.e9 (md_field H.e9 (md_field H.e9 ?_))
          rw [hr]
          repeat first | refine bq_t (by decide) ?_ | refine bq_f (by decide) ?_
          refine fun x ex => ?_
          rw [H.e9, hf] at ex
          subst ex
          repeat first | refine bq_t (by decide) ?_ | refine bq_f (by decide) ?_
          try unfold wj_Md_fractions_170
          refine md_field H.e9 ?_
          repeat first | refine bq_t (by decide) ?_ | refine bq_f (by decide) ?_ | refine bq_f na ?_ | refine bq_f nb ?_ | refine bq_f nd ?_ | refine bq_t pa (md_ends H.e5 ?_) | refine bq_t pa (md_ends_n (show ¬ (8 : Int32) = 0 by decide) ?_) | refine bq_t pb (md_ends H.e5 ?_) | refine bq_t pb (md_ends_n (show ¬ (8 : Int32) = 0 by decide) ?_) | refine bq_t pd (md_ends H.e5 ?_) | refine bq_t pd (md_ends_n (show ¬ (8 : Int32) = 0 by decide) ?_)
          exact bq_f (show ¬ (8 : Int32) ≤ 0 by decide) hQ
        · unfold wp_Md_operate
          rw [ho]
          repeat first | refine bq_t (by decide) ?_ | refine bq_f (by decide) ?_
          unfold wp_Md_fractions
          refine md_field H.e9 (md_field H.e9 (md_field H.e9 ?_))
          rw [hr]
          repeat first | refine bq_t (by decide) ?_ | refine bq_f (by decide) ?_
          refine fun x ex => ?_
          rw [H.e9, hf] at ex
          subst ex
          repeat first | refine bq_t (by decide) ?_ | refine bq_f (by decide) ?_
          try unfold wj_Md_fractions_170
          refine md_field H.e9 ?_
          repeat first | refine bq_t (by decide) ?_ | refine bq_f (by decide) ?_ | refine bq_f na ?_ | refine bq_f nb ?_ | refine bq_f nd ?_ | refine bq_t pa (md_ends H.e5 ?_) | refine bq_t pa (md_ends_n (show ¬ (8 : Int32) = 0 by decide) ?_) | refine bq_t pb (md_ends H.e5 ?_) | refine bq_t pb (md_ends_n (show ¬ (8 : Int32) = 0 by decide) ?_) | refine bq_t pd (md_ends H.e5 ?_) | refine bq_t pd (md_ends_n (show ¬ (8 : Int32) = 0 by decide) ?_)
          exact bq_f (show ¬ (8 : Int32) ≤ 0 by decide) hQ
      · rcases Classical.em (fI w 16 &&& 1 = 1) with pb | nb
        · unfold wp_Md_operate
          rw [ho]
          repeat first | refine bq_t (by decide) ?_ | refine bq_f (by decide) ?_
          unfold wp_Md_fractions
          refine md_field H.e9 (md_field H.e9 (md_field H.e9 ?_))
          rw [hr]
          repeat first | refine bq_t (by decide) ?_ | refine bq_f (by decide) ?_
          refine fun x ex => ?_
          rw [H.e9, hf] at ex
          subst ex
          repeat first | refine bq_t (by decide) ?_ | refine bq_f (by decide) ?_
          try unfold wj_Md_fractions_170
          refine md_field H.e9 ?_
          repeat first | refine bq_t (by decide) ?_ | refine bq_f (by decide) ?_ | refine bq_f na ?_ | refine bq_f nb ?_ | refine bq_f nd ?_ | refine bq_t pa (md_ends H.e5 ?_) | refine bq_t pa (md_ends_n (show ¬ (8 : Int32) = 0 by decide) ?_) | refine bq_t pb (md_ends H.e5 ?_) | refine bq_t pb (md_ends_n (show ¬ (8 : Int32) = 0 by decide) ?_) | refine bq_t pd (md_ends H.e5 ?_) | refine bq_t pd (md_ends_n (show ¬ (8 : Int32) = 0 by decide) ?_)
          exact bq_f (show ¬ (8 : Int32) ≤ 0 by decide) hQ
        · exact absurd (⟨qa.mpr na, qb.mpr nb⟩) he

theorem i_c50_d (H : pre mn g rg hq mf cd fg w dd bm rr kt) (ho : zz_ushr w 26 = 17) (hr : fI w 21 = 17) (hf : w &&& 63 = 50) : pfx ms mn g rg hq mf cd fg w dd bm rr kt := by
  obtain ⟨a, ha, ea⟩ := fI_n w 11
  obtain ⟨b, hb, eb⟩ := fI_n w 16
  obtain ⟨d, hd, ed⟩ := fI_n w 6
  by_cases he : evn 1 a ∧ evn 1 b
  · refine pfx_fr H (rg' := rg) (cd' := cdN cd w (cmpC 1 (fbt fg 1 a) (fbt fg 1 b))) (fg' := fg) (rr' := upd rr 66 (cdN cd w (cmpC 1 (fbt fg 1 a) (fbt fg 1 b)))) (q_cd H.rel) (fun L O P hP => ?_) (fun dd l1 l2 H Q hQ => ?_)
    · unfold wp_Pr_perform
      refine pr_op ?_
      rw [ho]
      repeat first | refine bq_t (by decide) ?_ | refine bq_f (by decide) ?_
      refine pr_rs ?_
      rw [hr]
      repeat first | refine bq_t (by decide) ?_ | refine bq_f (by decide) ?_
      refine pr_rt ⟨fI_in w 16, fun t et => ?_⟩
      subst et
      unfold wp_Fu_perform
      refine fun x ex => ?_
      have ex : x = 17 := ex.trans hr
      subst ex
      repeat first | refine bq_t (by decide) ?_ | refine bq_f (by decide) ?_
      refine fun y ey => ?_
      rw [hf] at ey
      subst ey
      repeat first | refine bq_t (by decide) ?_ | refine bq_f (by decide) ?_
      exact fu_compare ha hb ea eb (fun _ L' O' => hP L' O') (fun q => absurd he q)
    · unfold wp_Md_operate
      rw [ho]
      repeat first | refine bq_t (by decide) ?_ | refine bq_f (by decide) ?_
      unfold wp_Md_fractions
      refine md_field H.e9 (md_field H.e9 (md_field H.e9 ?_))
      rw [hr]
      repeat first | refine bq_t (by decide) ?_ | refine bq_f (by decide) ?_
      have na := (evx ha ea).mp he.1
      have nb := (evx hb eb).mp he.2
      refine fun x ex => ?_
      rw [H.e9, hf] at ex
      subst ex
      repeat first | refine bq_t (by decide) ?_ | refine bq_f (by decide) ?_
      try unfold wj_Md_fractions_170
      refine md_field H.e9 ?_
      repeat first | refine bq_t (by decide) ?_ | refine bq_f (by decide) ?_ | refine bq_f na ?_ | refine bq_f nb ?_ | refine bq_f nd ?_ | refine bq_t pa (md_ends H.e5 ?_) | refine bq_t pa (md_ends_n (show ¬ (8 : Int32) = 0 by decide) ?_) | refine bq_t pb (md_ends H.e5 ?_) | refine bq_t pb (md_ends_n (show ¬ (8 : Int32) = 0 by decide) ?_) | refine bq_t pd (md_ends H.e5 ?_) | refine bq_t pd (md_ends_n (show ¬ (8 : Int32) = 0 by decide) ?_)
      refine bq_t (show dd 5 ≤ (0 : Int32) by rw [H.e5]; decide) ?_
      refine md_bits H.rel ha ea he.1 ?_
      refine bq_f (by decide) ?_
      refine md_bits H.rel hb eb he.2 ?_
      exact md_compares H (fbt_fin _ _ _) (fbt_fin _ _ _) (by rw [hf]) hQ
  · refine pfx_mk H 8 (fun L O => (g, rg, hq, mf, cd, fg, L, O)) (fun dd l1 l2 => (upd dd 5 8, l1, l2, bm, rr, kt)) (fun L O P hP => ?_) (fun dd l1 l2 H L O => ⟨oc_end (by unfold q_e; simp) H.rel H.nxt rfl (fun j _ h => pk_un h), fun Q hQ => ?_⟩) (fun _ _ _ _ => rfl) (fun _ _ _ _ _ hs => ⟨by repeat first | exact hs | apply lo_upd, rfl, rfl, rfl⟩) (by first | exact Or.inr (fun _ _ => rfl) | exact Or.inl (by unfold q_e; decide)) (fun _ _ _ => rfl)
    · unfold wp_Pr_perform
      refine pr_op ?_
      rw [ho]
      repeat first | refine bq_t (by decide) ?_ | refine bq_f (by decide) ?_
      refine pr_rs ?_
      rw [hr]
      repeat first | refine bq_t (by decide) ?_ | refine bq_f (by decide) ?_
      refine pr_rt ⟨fI_in w 16, fun t et => ?_⟩
      subst et
      unfold wp_Fu_perform
      refine fun x ex => ?_
      have ex : x = 17 := ex.trans hr
      subst ex
      repeat first | refine bq_t (by decide) ?_ | refine bq_f (by decide) ?_
      refine fun y ey => ?_
      rw [hf] at ey
      subst ey
      repeat first | refine bq_t (by decide) ?_ | refine bq_f (by decide) ?_
      exact fu_compare ha hb ea eb (fun q => absurd q he) (fun _ => hP)
    · have qa := evx (w := w) ha ea
      have qb := evx (w := w) hb eb
      rcases Classical.em (fI w 11 &&& 1 = 1) with pa | na
      · rcases Classical.em (fI w 16 &&& 1 = 1) with pb | nb
        · unfold wp_Md_operate
          rw [ho]
          repeat first | refine bq_t (by decide) ?_ | refine bq_f (by decide) ?_
          unfold wp_Md_fractions
          refine md_field H.e9 (md_field H.e9 (md_field H.e9 ?_))
          rw [hr]
          repeat first | refine bq_t (by decide) ?_ | refine bq_f (by decide) ?_
          refine fun x ex => ?_
          rw [H.e9, hf] at ex
          subst ex
          repeat first | refine bq_t (by decide) ?_ | refine bq_f (by decide) ?_
          try unfold wj_Md_fractions_170
          refine md_field H.e9 ?_
          repeat first | refine bq_t (by decide) ?_ | refine bq_f (by decide) ?_ | refine bq_f na ?_ | refine bq_f nb ?_ | refine bq_f nd ?_ | refine bq_t pa (md_ends H.e5 ?_) | refine bq_t pa (md_ends_n (show ¬ (8 : Int32) = 0 by decide) ?_) | refine bq_t pb (md_ends H.e5 ?_) | refine bq_t pb (md_ends_n (show ¬ (8 : Int32) = 0 by decide) ?_) | refine bq_t pd (md_ends H.e5 ?_) | refine bq_t pd (md_ends_n (show ¬ (8 : Int32) = 0 by decide) ?_)
          exact bq_f (show ¬ (8 : Int32) ≤ 0 by decide) hQ
        · unfold wp_Md_operate
          rw [ho]
          repeat first | refine bq_t (by decide) ?_ | refine bq_f (by decide) ?_
          unfold wp_Md_fractions
          refine md_field H.e9 (md_field H.e9 (md_field H.e9 ?_))
          rw [hr]
          repeat first | refine bq_t (by decide) ?_ | refine bq_f (by decide) ?_
          refine fun x ex => ?_
          rw [H.e9, hf] at ex
          subst ex
          repeat first | refine bq_t (by decide) ?_ | refine bq_f (by decide) ?_
          try unfold wj_Md_fractions_170
          refine md_field H.e9 ?_
          repeat first | refine bq_t (by decide) ?_ | refine bq_f (by decide) ?_ | refine bq_f na ?_ | refine bq_f nb ?_ | refine bq_f nd ?_ | refine bq_t pa (md_ends H.e5 ?_) | refine bq_t pa (md_ends_n (show ¬ (8 : Int32) = 0 by decide) ?_) | refine bq_t pb (md_ends H.e5 ?_) | refine bq_t pb (md_ends_n (show ¬ (8 : Int32) = 0 by decide) ?_) | refine bq_t pd (md_ends H.e5 ?_) | refine bq_t pd (md_ends_n (show ¬ (8 : Int32) = 0 by decide) ?_)
          exact bq_f (show ¬ (8 : Int32) ≤ 0 by decide) hQ
      · rcases Classical.em (fI w 16 &&& 1 = 1) with pb | nb
        · unfold wp_Md_operate
          rw [ho]
          repeat first | refine bq_t (by decide) ?_ | refine bq_f (by decide) ?_
          unfold wp_Md_fractions
          refine md_field H.e9 (md_field H.e9 (md_field H.e9 ?_))
          rw [hr]
          repeat first | refine bq_t (by decide) ?_ | refine bq_f (by decide) ?_
          refine fun x ex => ?_
          rw [H.e9, hf] at ex
          subst ex
          repeat first | refine bq_t (by decide) ?_ | refine bq_f (by decide) ?_
          try unfold wj_Md_fractions_170
          refine md_field H.e9 ?_
          repeat first | refine bq_t (by decide) ?_ | refine bq_f (by decide) ?_ | refine bq_f na ?_ | refine bq_f nb ?_ | refine bq_f nd ?_ | refine bq_t pa (md_ends H.e5 ?_) | refine bq_t pa (md_ends_n (show ¬ (8 : Int32) = 0 by decide) ?_) | refine bq_t pb (md_ends H.e5 ?_) | refine bq_t pb (md_ends_n (show ¬ (8 : Int32) = 0 by decide) ?_) | refine bq_t pd (md_ends H.e5 ?_) | refine bq_t pd (md_ends_n (show ¬ (8 : Int32) = 0 by decide) ?_)
          exact bq_f (show ¬ (8 : Int32) ≤ 0 by decide) hQ
        · exact absurd (⟨qa.mpr na, qb.mpr nb⟩) he

theorem i_c51_d (H : pre mn g rg hq mf cd fg w dd bm rr kt) (ho : zz_ushr w 26 = 17) (hr : fI w 21 = 17) (hf : w &&& 63 = 51) : pfx ms mn g rg hq mf cd fg w dd bm rr kt := by
  obtain ⟨a, ha, ea⟩ := fI_n w 11
  obtain ⟨b, hb, eb⟩ := fI_n w 16
  obtain ⟨d, hd, ed⟩ := fI_n w 6
  by_cases he : evn 1 a ∧ evn 1 b
  · refine pfx_fr H (rg' := rg) (cd' := cdN cd w (cmpC 1 (fbt fg 1 a) (fbt fg 1 b))) (fg' := fg) (rr' := upd rr 66 (cdN cd w (cmpC 1 (fbt fg 1 a) (fbt fg 1 b)))) (q_cd H.rel) (fun L O P hP => ?_) (fun dd l1 l2 H Q hQ => ?_)
    · unfold wp_Pr_perform
      refine pr_op ?_
      rw [ho]
      repeat first | refine bq_t (by decide) ?_ | refine bq_f (by decide) ?_
      refine pr_rs ?_
      rw [hr]
      repeat first | refine bq_t (by decide) ?_ | refine bq_f (by decide) ?_
      refine pr_rt ⟨fI_in w 16, fun t et => ?_⟩
      subst et
      unfold wp_Fu_perform
      refine fun x ex => ?_
      have ex : x = 17 := ex.trans hr
      subst ex
      repeat first | refine bq_t (by decide) ?_ | refine bq_f (by decide) ?_
      refine fun y ey => ?_
      rw [hf] at ey
      subst ey
      repeat first | refine bq_t (by decide) ?_ | refine bq_f (by decide) ?_
      exact fu_compare ha hb ea eb (fun _ L' O' => hP L' O') (fun q => absurd he q)
    · unfold wp_Md_operate
      rw [ho]
      repeat first | refine bq_t (by decide) ?_ | refine bq_f (by decide) ?_
      unfold wp_Md_fractions
      refine md_field H.e9 (md_field H.e9 (md_field H.e9 ?_))
      rw [hr]
      repeat first | refine bq_t (by decide) ?_ | refine bq_f (by decide) ?_
      have na := (evx ha ea).mp he.1
      have nb := (evx hb eb).mp he.2
      refine fun x ex => ?_
      rw [H.e9, hf] at ex
      subst ex
      repeat first | refine bq_t (by decide) ?_ | refine bq_f (by decide) ?_
      try unfold wj_Md_fractions_170
      refine md_field H.e9 ?_
      repeat first | refine bq_t (by decide) ?_ | refine bq_f (by decide) ?_ | refine bq_f na ?_ | refine bq_f nb ?_ | refine bq_f nd ?_ | refine bq_t pa (md_ends H.e5 ?_) | refine bq_t pa (md_ends_n (show ¬ (8 : Int32) = 0 by decide) ?_) | refine bq_t pb (md_ends H.e5 ?_) | refine bq_t pb (md_ends_n (show ¬ (8 : Int32) = 0 by decide) ?_) | refine bq_t pd (md_ends H.e5 ?_) | refine bq_t pd (md_ends_n (show ¬ (8 : Int32) = 0 by decide) ?_)
      refine bq_t (show dd 5 ≤ (0 : Int32) by rw [H.e5]; decide) ?_
      refine md_bits H.rel ha ea he.1 ?_
      refine bq_f (by decide) ?_
      refine md_bits H.rel hb eb he.2 ?_
      exact md_compares H (fbt_fin _ _ _) (fbt_fin _ _ _) (by rw [hf]) hQ
  · refine pfx_mk H 8 (fun L O => (g, rg, hq, mf, cd, fg, L, O)) (fun dd l1 l2 => (upd dd 5 8, l1, l2, bm, rr, kt)) (fun L O P hP => ?_) (fun dd l1 l2 H L O => ⟨oc_end (by unfold q_e; simp) H.rel H.nxt rfl (fun j _ h => pk_un h), fun Q hQ => ?_⟩) (fun _ _ _ _ => rfl) (fun _ _ _ _ _ hs => ⟨by repeat first | exact hs | apply lo_upd, rfl, rfl, rfl⟩) (by first | exact Or.inr (fun _ _ => rfl) | exact Or.inl (by unfold q_e; decide)) (fun _ _ _ => rfl)
    · unfold wp_Pr_perform
      refine pr_op ?_
      rw [ho]
      repeat first | refine bq_t (by decide) ?_ | refine bq_f (by decide) ?_
      refine pr_rs ?_
      rw [hr]
      repeat first | refine bq_t (by decide) ?_ | refine bq_f (by decide) ?_
      refine pr_rt ⟨fI_in w 16, fun t et => ?_⟩
      subst et
      unfold wp_Fu_perform
      refine fun x ex => ?_
      have ex : x = 17 := ex.trans hr
      subst ex
      repeat first | refine bq_t (by decide) ?_ | refine bq_f (by decide) ?_
      refine fun y ey => ?_
      rw [hf] at ey
      subst ey
      repeat first | refine bq_t (by decide) ?_ | refine bq_f (by decide) ?_
      exact fu_compare ha hb ea eb (fun q => absurd q he) (fun _ => hP)
    · have qa := evx (w := w) ha ea
      have qb := evx (w := w) hb eb
      rcases Classical.em (fI w 11 &&& 1 = 1) with pa | na
      · rcases Classical.em (fI w 16 &&& 1 = 1) with pb | nb
        · unfold wp_Md_operate
          rw [ho]
          repeat first | refine bq_t (by decide) ?_ | refine bq_f (by decide) ?_
          unfold wp_Md_fractions
          refine md_field H.e9 (md_field H.e9 (md_field H.e9 ?_))
          rw [hr]
          repeat first | refine bq_t (by decide) ?_ | refine bq_f (by decide) ?_
          refine fun x ex => ?_
          rw [H.e9, hf] at ex
          subst ex
          repeat first | refine bq_t (by decide) ?_ | refine bq_f (by decide) ?_
          try unfold wj_Md_fractions_170
          refine md_field H.e9 ?_
          repeat first | refine bq_t (by decide) ?_ | refine bq_f (by decide) ?_ | refine bq_f na ?_ | refine bq_f nb ?_ | refine bq_f nd ?_ | refine bq_t pa (md_ends H.e5 ?_) | refine bq_t pa (md_ends_n (show ¬ (8 : Int32) = 0 by decide) ?_) | refine bq_t pb (md_ends H.e5 ?_) | refine bq_t pb (md_ends_n (show ¬ (8 : Int32) = 0 by decide) ?_) | refine bq_t pd (md_ends H.e5 ?_) | refine bq_t pd (md_ends_n (show ¬ (8 : Int32) = 0 by decide) ?_)
          exact bq_f (show ¬ (8 : Int32) ≤ 0 by decide) hQ
        · unfold wp_Md_operate
          rw [ho]
          repeat first | refine bq_t (by decide) ?_ | refine bq_f (by decide) ?_
          unfold wp_Md_fractions
          refine md_field H.e9 (md_field H.e9 (md_field H.e9 ?_))
          rw [hr]
          repeat first | refine bq_t (by decide) ?_ | refine bq_f (by decide) ?_
          refine fun x ex => ?_
          rw [H.e9, hf] at ex
          subst ex
          repeat first | refine bq_t (by decide) ?_ | refine bq_f (by decide) ?_
          try unfold wj_Md_fractions_170
          refine md_field H.e9 ?_
          repeat first | refine bq_t (by decide) ?_ | refine bq_f (by decide) ?_ | refine bq_f na ?_ | refine bq_f nb ?_ | refine bq_f nd ?_ | refine bq_t pa (md_ends H.e5 ?_) | refine bq_t pa (md_ends_n (show ¬ (8 : Int32) = 0 by decide) ?_) | refine bq_t pb (md_ends H.e5 ?_) | refine bq_t pb (md_ends_n (show ¬ (8 : Int32) = 0 by decide) ?_) | refine bq_t pd (md_ends H.e5 ?_) | refine bq_t pd (md_ends_n (show ¬ (8 : Int32) = 0 by decide) ?_)
          exact bq_f (show ¬ (8 : Int32) ≤ 0 by decide) hQ
      · rcases Classical.em (fI w 16 &&& 1 = 1) with pb | nb
        · unfold wp_Md_operate
          rw [ho]
          repeat first | refine bq_t (by decide) ?_ | refine bq_f (by decide) ?_
          unfold wp_Md_fractions
          refine md_field H.e9 (md_field H.e9 (md_field H.e9 ?_))
          rw [hr]
          repeat first | refine bq_t (by decide) ?_ | refine bq_f (by decide) ?_
          refine fun x ex => ?_
          rw [H.e9, hf] at ex
          subst ex
          repeat first | refine bq_t (by decide) ?_ | refine bq_f (by decide) ?_
          try unfold wj_Md_fractions_170
          refine md_field H.e9 ?_
          repeat first | refine bq_t (by decide) ?_ | refine bq_f (by decide) ?_ | refine bq_f na ?_ | refine bq_f nb ?_ | refine bq_f nd ?_ | refine bq_t pa (md_ends H.e5 ?_) | refine bq_t pa (md_ends_n (show ¬ (8 : Int32) = 0 by decide) ?_) | refine bq_t pb (md_ends H.e5 ?_) | refine bq_t pb (md_ends_n (show ¬ (8 : Int32) = 0 by decide) ?_) | refine bq_t pd (md_ends H.e5 ?_) | refine bq_t pd (md_ends_n (show ¬ (8 : Int32) = 0 by decide) ?_)
          exact bq_f (show ¬ (8 : Int32) ≤ 0 by decide) hQ
        · exact absurd (⟨qa.mpr na, qb.mpr nb⟩) he

theorem i_c52_d (H : pre mn g rg hq mf cd fg w dd bm rr kt) (ho : zz_ushr w 26 = 17) (hr : fI w 21 = 17) (hf : w &&& 63 = 52) : pfx ms mn g rg hq mf cd fg w dd bm rr kt := by
  obtain ⟨a, ha, ea⟩ := fI_n w 11
  obtain ⟨b, hb, eb⟩ := fI_n w 16
  obtain ⟨d, hd, ed⟩ := fI_n w 6
  by_cases he : evn 1 a ∧ evn 1 b
  · refine pfx_fr H (rg' := rg) (cd' := cdN cd w (cmpC 1 (fbt fg 1 a) (fbt fg 1 b))) (fg' := fg) (rr' := upd rr 66 (cdN cd w (cmpC 1 (fbt fg 1 a) (fbt fg 1 b)))) (q_cd H.rel) (fun L O P hP => ?_) (fun dd l1 l2 H Q hQ => ?_)
    · unfold wp_Pr_perform
      refine pr_op ?_
      rw [ho]
      repeat first | refine bq_t (by decide) ?_ | refine bq_f (by decide) ?_
      refine pr_rs ?_
      rw [hr]
      repeat first | refine bq_t (by decide) ?_ | refine bq_f (by decide) ?_
      refine pr_rt ⟨fI_in w 16, fun t et => ?_⟩
      subst et
      unfold wp_Fu_perform
      refine fun x ex => ?_
      have ex : x = 17 := ex.trans hr
      subst ex
      repeat first | refine bq_t (by decide) ?_ | refine bq_f (by decide) ?_
      refine fun y ey => ?_
      rw [hf] at ey
      subst ey
      repeat first | refine bq_t (by decide) ?_ | refine bq_f (by decide) ?_
      exact fu_compare ha hb ea eb (fun _ L' O' => hP L' O') (fun q => absurd he q)
    · unfold wp_Md_operate
      rw [ho]
      repeat first | refine bq_t (by decide) ?_ | refine bq_f (by decide) ?_
      unfold wp_Md_fractions
      refine md_field H.e9 (md_field H.e9 (md_field H.e9 ?_))
      rw [hr]
      repeat first | refine bq_t (by decide) ?_ | refine bq_f (by decide) ?_
      have na := (evx ha ea).mp he.1
      have nb := (evx hb eb).mp he.2
      refine fun x ex => ?_
      rw [H.e9, hf] at ex
      subst ex
      repeat first | refine bq_t (by decide) ?_ | refine bq_f (by decide) ?_
      try unfold wj_Md_fractions_170
      refine md_field H.e9 ?_
      repeat first | refine bq_t (by decide) ?_ | refine bq_f (by decide) ?_ | refine bq_f na ?_ | refine bq_f nb ?_ | refine bq_f nd ?_ | refine bq_t pa (md_ends H.e5 ?_) | refine bq_t pa (md_ends_n (show ¬ (8 : Int32) = 0 by decide) ?_) | refine bq_t pb (md_ends H.e5 ?_) | refine bq_t pb (md_ends_n (show ¬ (8 : Int32) = 0 by decide) ?_) | refine bq_t pd (md_ends H.e5 ?_) | refine bq_t pd (md_ends_n (show ¬ (8 : Int32) = 0 by decide) ?_)
      refine bq_t (show dd 5 ≤ (0 : Int32) by rw [H.e5]; decide) ?_
      refine md_bits H.rel ha ea he.1 ?_
      refine bq_f (by decide) ?_
      refine md_bits H.rel hb eb he.2 ?_
      exact md_compares H (fbt_fin _ _ _) (fbt_fin _ _ _) (by rw [hf]) hQ
  · refine pfx_mk H 8 (fun L O => (g, rg, hq, mf, cd, fg, L, O)) (fun dd l1 l2 => (upd dd 5 8, l1, l2, bm, rr, kt)) (fun L O P hP => ?_) (fun dd l1 l2 H L O => ⟨oc_end (by unfold q_e; simp) H.rel H.nxt rfl (fun j _ h => pk_un h), fun Q hQ => ?_⟩) (fun _ _ _ _ => rfl) (fun _ _ _ _ _ hs => ⟨by repeat first | exact hs | apply lo_upd, rfl, rfl, rfl⟩) (by first | exact Or.inr (fun _ _ => rfl) | exact Or.inl (by unfold q_e; decide)) (fun _ _ _ => rfl)
    · unfold wp_Pr_perform
      refine pr_op ?_
      rw [ho]
      repeat first | refine bq_t (by decide) ?_ | refine bq_f (by decide) ?_
      refine pr_rs ?_
      rw [hr]
      repeat first | refine bq_t (by decide) ?_ | refine bq_f (by decide) ?_
      refine pr_rt ⟨fI_in w 16, fun t et => ?_⟩
      subst et
      unfold wp_Fu_perform
      refine fun x ex => ?_
      have ex : x = 17 := ex.trans hr
      subst ex
      repeat first | refine bq_t (by decide) ?_ | refine bq_f (by decide) ?_
      refine fun y ey => ?_
      rw [hf] at ey
      subst ey
      repeat first | refine bq_t (by decide) ?_ | refine bq_f (by decide) ?_
      exact fu_compare ha hb ea eb (fun q => absurd q he) (fun _ => hP)
    · have qa := evx (w := w) ha ea
      have qb := evx (w := w) hb eb
      rcases Classical.em (fI w 11 &&& 1 = 1) with pa | na
      · rcases Classical.em (fI w 16 &&& 1 = 1) with pb | nb
        · unfold wp_Md_operate
          rw [ho]
          repeat first | refine bq_t (by decide) ?_ | refine bq_f (by decide) ?_
          unfold wp_Md_fractions
          refine md_field H.e9 (md_field H.e9 (md_field H.e9 ?_))
          rw [hr]
          repeat first | refine bq_t (by decide) ?_ | refine bq_f (by decide) ?_
          refine fun x ex => ?_
          rw [H.e9, hf] at ex
          subst ex
          repeat first | refine bq_t (by decide) ?_ | refine bq_f (by decide) ?_
          try unfold wj_Md_fractions_170
          refine md_field H.e9 ?_
          repeat first | refine bq_t (by decide) ?_ | refine bq_f (by decide) ?_ | refine bq_f na ?_ | refine bq_f nb ?_ | refine bq_f nd ?_ | refine bq_t pa (md_ends H.e5 ?_) | refine bq_t pa (md_ends_n (show ¬ (8 : Int32) = 0 by decide) ?_) | refine bq_t pb (md_ends H.e5 ?_) | refine bq_t pb (md_ends_n (show ¬ (8 : Int32) = 0 by decide) ?_) | refine bq_t pd (md_ends H.e5 ?_) | refine bq_t pd (md_ends_n (show ¬ (8 : Int32) = 0 by decide) ?_)
          exact bq_f (show ¬ (8 : Int32) ≤ 0 by decide) hQ
        · unfold wp_Md_operate
          rw [ho]
          repeat first | refine bq_t (by decide) ?_ | refine bq_f (by decide) ?_
          unfold wp_Md_fractions
          refine md_field H.e9 (md_field H.e9 (md_field H.e9 ?_))
          rw [hr]
          repeat first | refine bq_t (by decide) ?_ | refine bq_f (by decide) ?_
          refine fun x ex => ?_
          rw [H.e9, hf] at ex
          subst ex
          repeat first | refine bq_t (by decide) ?_ | refine bq_f (by decide) ?_
          try unfold wj_Md_fractions_170
          refine md_field H.e9 ?_
          repeat first | refine bq_t (by decide) ?_ | refine bq_f (by decide) ?_ | refine bq_f na ?_ | refine bq_f nb ?_ | refine bq_f nd ?_ | refine bq_t pa (md_ends H.e5 ?_) | refine bq_t pa (md_ends_n (show ¬ (8 : Int32) = 0 by decide) ?_) | refine bq_t pb (md_ends H.e5 ?_) | refine bq_t pb (md_ends_n (show ¬ (8 : Int32) = 0 by decide) ?_) | refine bq_t pd (md_ends H.e5 ?_) | refine bq_t pd (md_ends_n (show ¬ (8 : Int32) = 0 by decide) ?_)
          exact bq_f (show ¬ (8 : Int32) ≤ 0 by decide) hQ
      · rcases Classical.em (fI w 16 &&& 1 = 1) with pb | nb
        · unfold wp_Md_operate
          rw [ho]
          repeat first | refine bq_t (by decide) ?_ | refine bq_f (by decide) ?_
          unfold wp_Md_fractions
          refine md_field H.e9 (md_field H.e9 (md_field H.e9 ?_))
          rw [hr]
          repeat first | refine bq_t (by decide) ?_ | refine bq_f (by decide) ?_
          refine fun x ex => ?_
          rw [H.e9, hf] at ex
          subst ex
          repeat first | refine bq_t (by decide) ?_ | refine bq_f (by decide) ?_
          try unfold wj_Md_fractions_170
          refine md_field H.e9 ?_
          repeat first | refine bq_t (by decide) ?_ | refine bq_f (by decide) ?_ | refine bq_f na ?_ | refine bq_f nb ?_ | refine bq_f nd ?_ | refine bq_t pa (md_ends H.e5 ?_) | refine bq_t pa (md_ends_n (show ¬ (8 : Int32) = 0 by decide) ?_) | refine bq_t pb (md_ends H.e5 ?_) | refine bq_t pb (md_ends_n (show ¬ (8 : Int32) = 0 by decide) ?_) | refine bq_t pd (md_ends H.e5 ?_) | refine bq_t pd (md_ends_n (show ¬ (8 : Int32) = 0 by decide) ?_)
          exact bq_f (show ¬ (8 : Int32) ≤ 0 by decide) hQ
        · exact absurd (⟨qa.mpr na, qb.mpr nb⟩) he

theorem i_c53_d (H : pre mn g rg hq mf cd fg w dd bm rr kt) (ho : zz_ushr w 26 = 17) (hr : fI w 21 = 17) (hf : w &&& 63 = 53) : pfx ms mn g rg hq mf cd fg w dd bm rr kt := by
  obtain ⟨a, ha, ea⟩ := fI_n w 11
  obtain ⟨b, hb, eb⟩ := fI_n w 16
  obtain ⟨d, hd, ed⟩ := fI_n w 6
  by_cases he : evn 1 a ∧ evn 1 b
  · refine pfx_fr H (rg' := rg) (cd' := cdN cd w (cmpC 1 (fbt fg 1 a) (fbt fg 1 b))) (fg' := fg) (rr' := upd rr 66 (cdN cd w (cmpC 1 (fbt fg 1 a) (fbt fg 1 b)))) (q_cd H.rel) (fun L O P hP => ?_) (fun dd l1 l2 H Q hQ => ?_)
    · unfold wp_Pr_perform
      refine pr_op ?_
      rw [ho]
      repeat first | refine bq_t (by decide) ?_ | refine bq_f (by decide) ?_
      refine pr_rs ?_
      rw [hr]
      repeat first | refine bq_t (by decide) ?_ | refine bq_f (by decide) ?_
      refine pr_rt ⟨fI_in w 16, fun t et => ?_⟩
      subst et
      unfold wp_Fu_perform
      refine fun x ex => ?_
      have ex : x = 17 := ex.trans hr
      subst ex
      repeat first | refine bq_t (by decide) ?_ | refine bq_f (by decide) ?_
      refine fun y ey => ?_
      rw [hf] at ey
      subst ey
      repeat first | refine bq_t (by decide) ?_ | refine bq_f (by decide) ?_
      exact fu_compare ha hb ea eb (fun _ L' O' => hP L' O') (fun q => absurd he q)
    · unfold wp_Md_operate
      rw [ho]
      repeat first | refine bq_t (by decide) ?_ | refine bq_f (by decide) ?_
      unfold wp_Md_fractions
      refine md_field H.e9 (md_field H.e9 (md_field H.e9 ?_))
      rw [hr]
      repeat first | refine bq_t (by decide) ?_ | refine bq_f (by decide) ?_
      have na := (evx ha ea).mp he.1
      have nb := (evx hb eb).mp he.2
      refine fun x ex => ?_
      rw [H.e9, hf] at ex
      subst ex
      repeat first | refine bq_t (by decide) ?_ | refine bq_f (by decide) ?_
      try unfold wj_Md_fractions_170
      refine md_field H.e9 ?_
      repeat first | refine bq_t (by decide) ?_ | refine bq_f (by decide) ?_ | refine bq_f na ?_ | refine bq_f nb ?_ | refine bq_f nd ?_ | refine bq_t pa (md_ends H.e5 ?_) | refine bq_t pa (md_ends_n (show ¬ (8 : Int32) = 0 by decide) ?_) | refine bq_t pb (md_ends H.e5 ?_) | refine bq_t pb (md_ends_n (show ¬ (8 : Int32) = 0 by decide) ?_) | refine bq_t pd (md_ends H.e5 ?_) | refine bq_t pd (md_ends_n (show ¬ (8 : Int32) = 0 by decide) ?_)
      refine bq_t (show dd 5 ≤ (0 : Int32) by rw [H.e5]; decide) ?_
      refine md_bits H.rel ha ea he.1 ?_
      refine bq_f (by decide) ?_
      refine md_bits H.rel hb eb he.2 ?_
      exact md_compares H (fbt_fin _ _ _) (fbt_fin _ _ _) (by rw [hf]) hQ
  · refine pfx_mk H 8 (fun L O => (g, rg, hq, mf, cd, fg, L, O)) (fun dd l1 l2 => (upd dd 5 8, l1, l2, bm, rr, kt)) (fun L O P hP => ?_) (fun dd l1 l2 H L O => ⟨oc_end (by unfold q_e; simp) H.rel H.nxt rfl (fun j _ h => pk_un h), fun Q hQ => ?_⟩) (fun _ _ _ _ => rfl) (fun _ _ _ _ _ hs => ⟨by repeat first | exact hs | apply lo_upd, rfl, rfl, rfl⟩) (by first | exact Or.inr (fun _ _ => rfl) | exact Or.inl (by unfold q_e; decide)) (fun _ _ _ => rfl)
    · unfold wp_Pr_perform
      refine pr_op ?_
      rw [ho]
      repeat first | refine bq_t (by decide) ?_ | refine bq_f (by decide) ?_
      refine pr_rs ?_
      rw [hr]
      repeat first | refine bq_t (by decide) ?_ | refine bq_f (by decide) ?_
      refine pr_rt ⟨fI_in w 16, fun t et => ?_⟩
      subst et
      unfold wp_Fu_perform
      refine fun x ex => ?_
      have ex : x = 17 := ex.trans hr
      subst ex
      repeat first | refine bq_t (by decide) ?_ | refine bq_f (by decide) ?_
      refine fun y ey => ?_
      rw [hf] at ey
      subst ey
      repeat first | refine bq_t (by decide) ?_ | refine bq_f (by decide) ?_
      exact fu_compare ha hb ea eb (fun q => absurd q he) (fun _ => hP)
    · have qa := evx (w := w) ha ea
      have qb := evx (w := w) hb eb
      rcases Classical.em (fI w 11 &&& 1 = 1) with pa | na
      · rcases Classical.em (fI w 16 &&& 1 = 1) with pb | nb
        · unfold wp_Md_operate
          rw [ho]
          repeat first | refine bq_t (by decide) ?_ | refine bq_f (by decide) ?_
          unfold wp_Md_fractions
          refine md_field H.e9 (md_field H.e9 (md_field H.e9 ?_))
          rw [hr]
          repeat first | refine bq_t (by decide) ?_ | refine bq_f (by decide) ?_
          refine fun x ex => ?_
          rw [H.e9, hf] at ex
          subst ex
          repeat first | refine bq_t (by decide) ?_ | refine bq_f (by decide) ?_
          try unfold wj_Md_fractions_170
          refine md_field H.e9 ?_
          repeat first | refine bq_t (by decide) ?_ | refine bq_f (by decide) ?_ | refine bq_f na ?_ | refine bq_f nb ?_ | refine bq_f nd ?_ | refine bq_t pa (md_ends H.e5 ?_) | refine bq_t pa (md_ends_n (show ¬ (8 : Int32) = 0 by decide) ?_) | refine bq_t pb (md_ends H.e5 ?_) | refine bq_t pb (md_ends_n (show ¬ (8 : Int32) = 0 by decide) ?_) | refine bq_t pd (md_ends H.e5 ?_) | refine bq_t pd (md_ends_n (show ¬ (8 : Int32) = 0 by decide) ?_)
          exact bq_f (show ¬ (8 : Int32) ≤ 0 by decide) hQ
        · unfold wp_Md_operate
          rw [ho]
          repeat first | refine bq_t (by decide) ?_ | refine bq_f (by decide) ?_
          unfold wp_Md_fractions
          refine md_field H.e9 (md_field H.e9 (md_field H.e9 ?_))
          rw [hr]
          repeat first | refine bq_t (by decide) ?_ | refine bq_f (by decide) ?_
          refine fun x ex => ?_
          rw [H.e9, hf] at ex
          subst ex
          repeat first | refine bq_t (by decide) ?_ | refine bq_f (by decide) ?_
          try unfold wj_Md_fractions_170
          refine md_field H.e9 ?_
          repeat first | refine bq_t (by decide) ?_ | refine bq_f (by decide) ?_ | refine bq_f na ?_ | refine bq_f nb ?_ | refine bq_f nd ?_ | refine bq_t pa (md_ends H.e5 ?_) | refine bq_t pa (md_ends_n (show ¬ (8 : Int32) = 0 by decide) ?_) | refine bq_t pb (md_ends H.e5 ?_) | refine bq_t pb (md_ends_n (show ¬ (8 : Int32) = 0 by decide) ?_) | refine bq_t pd (md_ends H.e5 ?_) | refine bq_t pd (md_ends_n (show ¬ (8 : Int32) = 0 by decide) ?_)
          exact bq_f (show ¬ (8 : Int32) ≤ 0 by decide) hQ
      · rcases Classical.em (fI w 16 &&& 1 = 1) with pb | nb
        · unfold wp_Md_operate
          rw [ho]
          repeat first | refine bq_t (by decide) ?_ | refine bq_f (by decide) ?_
          unfold wp_Md_fractions
          refine md_field H.e9 (md_field H.e9 (md_field H.e9 ?_))
          rw [hr]
          repeat first | refine bq_t (by decide) ?_ | refine bq_f (by decide) ?_
          refine fun x ex => ?_
          rw [H.e9, hf] at ex
          subst ex
          repeat first | refine bq_t (by decide) ?_ | refine bq_f (by decide) ?_
          try unfold wj_Md_fractions_170
          refine md_field H.e9 ?_
          repeat first | refine bq_t (by decide) ?_ | refine bq_f (by decide) ?_ | refine bq_f na ?_ | refine bq_f nb ?_ | refine bq_f nd ?_ | refine bq_t pa (md_ends H.e5 ?_) | refine bq_t pa (md_ends_n (show ¬ (8 : Int32) = 0 by decide) ?_) | refine bq_t pb (md_ends H.e5 ?_) | refine bq_t pb (md_ends_n (show ¬ (8 : Int32) = 0 by decide) ?_) | refine bq_t pd (md_ends H.e5 ?_) | refine bq_t pd (md_ends_n (show ¬ (8 : Int32) = 0 by decide) ?_)
          exact bq_f (show ¬ (8 : Int32) ≤ 0 by decide) hQ
        · exact absurd (⟨qa.mpr na, qb.mpr nb⟩) he

theorem i_c54_d (H : pre mn g rg hq mf cd fg w dd bm rr kt) (ho : zz_ushr w 26 = 17) (hr : fI w 21 = 17) (hf : w &&& 63 = 54) : pfx ms mn g rg hq mf cd fg w dd bm rr kt := by
  obtain ⟨a, ha, ea⟩ := fI_n w 11
  obtain ⟨b, hb, eb⟩ := fI_n w 16
  obtain ⟨d, hd, ed⟩ := fI_n w 6
  by_cases he : evn 1 a ∧ evn 1 b
  · refine pfx_fr H (rg' := rg) (cd' := cdN cd w (cmpC 1 (fbt fg 1 a) (fbt fg 1 b))) (fg' := fg) (rr' := upd rr 66 (cdN cd w (cmpC 1 (fbt fg 1 a) (fbt fg 1 b)))) (q_cd H.rel) (fun L O P hP => ?_) (fun dd l1 l2 H Q hQ => ?_)
    · unfold wp_Pr_perform
      refine pr_op ?_
      rw [ho]
      repeat first | refine bq_t (by decide) ?_ | refine bq_f (by decide) ?_
      refine pr_rs ?_
      rw [hr]
      repeat first | refine bq_t (by decide) ?_ | refine bq_f (by decide) ?_
      refine pr_rt ⟨fI_in w 16, fun t et => ?_⟩
      subst et
      unfold wp_Fu_perform
      refine fun x ex => ?_
      have ex : x = 17 := ex.trans hr
      subst ex
      repeat first | refine bq_t (by decide) ?_ | refine bq_f (by decide) ?_
      refine fun y ey => ?_
      rw [hf] at ey
      subst ey
      repeat first | refine bq_t (by decide) ?_ | refine bq_f (by decide) ?_
      exact fu_compare ha hb ea eb (fun _ L' O' => hP L' O') (fun q => absurd he q)
    · unfold wp_Md_operate
      rw [ho]
      repeat first | refine bq_t (by decide) ?_ | refine bq_f (by decide) ?_
      unfold wp_Md_fractions
      refine md_field H.e9 (md_field H.e9 (md_field H.e9 ?_))
      rw [hr]
      repeat first | refine bq_t (by decide) ?_ | refine bq_f (by decide) ?_
      have na := (evx ha ea).mp he.1
      have nb := (evx hb eb).mp he.2
      refine fun x ex => ?_
      rw [H.e9, hf] at ex
      subst ex
      repeat first | refine bq_t (by decide) ?_ | refine bq_f (by decide) ?_
      try unfold wj_Md_fractions_170
      refine md_field H.e9 ?_
      repeat first | refine bq_t (by decide) ?_ | refine bq_f (by decide) ?_ | refine bq_f na ?_ | refine bq_f nb ?_ | refine bq_f nd ?_ | refine bq_t pa (md_ends H.e5 ?_) | refine bq_t pa (md_ends_n (show ¬ (8 : Int32) = 0 by decide) ?_) | refine bq_t pb (md_ends H.e5 ?_) | refine bq_t pb (md_ends_n (show ¬ (8 : Int32) = 0 by decide) ?_) | refine bq_t pd (md_ends H.e5 ?_) | refine bq_t pd (md_ends_n (show ¬ (8 : Int32) = 0 by decide) ?_)
      refine bq_t (show dd 5 ≤ (0 : Int32) by rw [H.e5]; decide) ?_
      refine md_bits H.rel ha ea he.1 ?_
      refine bq_f (by decide) ?_
      refine md_bits H.rel hb eb he.2 ?_
      exact md_compares H (fbt_fin _ _ _) (fbt_fin _ _ _) (by rw [hf]) hQ
  · refine pfx_mk H 8 (fun L O => (g, rg, hq, mf, cd, fg, L, O)) (fun dd l1 l2 => (upd dd 5 8, l1, l2, bm, rr, kt)) (fun L O P hP => ?_) (fun dd l1 l2 H L O => ⟨oc_end (by unfold q_e; simp) H.rel H.nxt rfl (fun j _ h => pk_un h), fun Q hQ => ?_⟩) (fun _ _ _ _ => rfl) (fun _ _ _ _ _ hs => ⟨by repeat first | exact hs | apply lo_upd, rfl, rfl, rfl⟩) (by first | exact Or.inr (fun _ _ => rfl) | exact Or.inl (by unfold q_e; decide)) (fun _ _ _ => rfl)
    · unfold wp_Pr_perform
      refine pr_op ?_
      rw [ho]
      repeat first | refine bq_t (by decide) ?_ | refine bq_f (by decide) ?_
      refine pr_rs ?_
      rw [hr]
      repeat first | refine bq_t (by decide) ?_ | refine bq_f (by decide) ?_
      refine pr_rt ⟨fI_in w 16, fun t et => ?_⟩
      subst et
      unfold wp_Fu_perform
      refine fun x ex => ?_
      have ex : x = 17 := ex.trans hr
      subst ex
      repeat first | refine bq_t (by decide) ?_ | refine bq_f (by decide) ?_
      refine fun y ey => ?_
      rw [hf] at ey
      subst ey
      repeat first | refine bq_t (by decide) ?_ | refine bq_f (by decide) ?_
      exact fu_compare ha hb ea eb (fun q => absurd q he) (fun _ => hP)
    · have qa := evx (w := w) ha ea
      have qb := evx (w := w) hb eb
      rcases Classical.em (fI w 11 &&& 1 = 1) with pa | na
      · rcases Classical.em (fI w 16 &&& 1 = 1) with pb | nb
        · unfold wp_Md_operate
          rw [ho]
          repeat first | refine bq_t (by decide) ?_ | refine bq_f (by decide) ?_
          unfold wp_Md_fractions
          refine md_field H.e9 (md_field H.e9 (md_field H.e9 ?_))
          rw [hr]
          repeat first | refine bq_t (by decide) ?_ | refine bq_f (by decide) ?_
          refine fun x ex => ?_
          rw [H.e9, hf] at ex
          subst ex
          repeat first | refine bq_t (by decide) ?_ | refine bq_f (by decide) ?_
          try unfold wj_Md_fractions_170
          refine md_field H.e9 ?_
          repeat first | refine bq_t (by decide) ?_ | refine bq_f (by decide) ?_ | refine bq_f na ?_ | refine bq_f nb ?_ | refine bq_f nd ?_ | refine bq_t pa (md_ends H.e5 ?_) | refine bq_t pa (md_ends_n (show ¬ (8 : Int32) = 0 by decide) ?_) | refine bq_t pb (md_ends H.e5 ?_) | refine bq_t pb (md_ends_n (show ¬ (8 : Int32) = 0 by decide) ?_) | refine bq_t pd (md_ends H.e5 ?_) | refine bq_t pd (md_ends_n (show ¬ (8 : Int32) = 0 by decide) ?_)
          exact bq_f (show ¬ (8 : Int32) ≤ 0 by decide) hQ
        · unfold wp_Md_operate
          rw [ho]
          repeat first | refine bq_t (by decide) ?_ | refine bq_f (by decide) ?_
          unfold wp_Md_fractions
          refine md_field H.e9 (md_field H.e9 (md_field H.e9 ?_))
          rw [hr]
          repeat first | refine bq_t (by decide) ?_ | refine bq_f (by decide) ?_
          refine fun x ex => ?_
          rw [H.e9, hf] at ex
          subst ex
          repeat first | refine bq_t (by decide) ?_ | refine bq_f (by decide) ?_
          try unfold wj_Md_fractions_170
          refine md_field H.e9 ?_
          repeat first | refine bq_t (by decide) ?_ | refine bq_f (by decide) ?_ | refine bq_f na ?_ | refine bq_f nb ?_ | refine bq_f nd ?_ | refine bq_t pa (md_ends H.e5 ?_) | refine bq_t pa (md_ends_n (show ¬ (8 : Int32) = 0 by decide) ?_) | refine bq_t pb (md_ends H.e5 ?_) | refine bq_t pb (md_ends_n (show ¬ (8 : Int32) = 0 by decide) ?_) | refine bq_t pd (md_ends H.e5 ?_) | refine bq_t pd (md_ends_n (show ¬ (8 : Int32) = 0 by decide) ?_)
          exact bq_f (show ¬ (8 : Int32) ≤ 0 by decide) hQ
      · rcases Classical.em (fI w 16 &&& 1 = 1) with pb | nb
        · unfold wp_Md_operate
          rw [ho]
          repeat first | refine bq_t (by decide) ?_ | refine bq_f (by decide) ?_
          unfold wp_Md_fractions
          refine md_field H.e9 (md_field H.e9 (md_field H.e9 ?_))
          rw [hr]
          repeat first | refine bq_t (by decide) ?_ | refine bq_f (by decide) ?_
          refine fun x ex => ?_
          rw [H.e9, hf] at ex
          subst ex
          repeat first | refine bq_t (by decide) ?_ | refine bq_f (by decide) ?_
          try unfold wj_Md_fractions_170
          refine md_field H.e9 ?_
          repeat first | refine bq_t (by decide) ?_ | refine bq_f (by decide) ?_ | refine bq_f na ?_ | refine bq_f nb ?_ | refine bq_f nd ?_ | refine bq_t pa (md_ends H.e5 ?_) | refine bq_t pa (md_ends_n (show ¬ (8 : Int32) = 0 by decide) ?_) | refine bq_t pb (md_ends H.e5 ?_) | refine bq_t pb (md_ends_n (show ¬ (8 : Int32) = 0 by decide) ?_) | refine bq_t pd (md_ends H.e5 ?_) | refine bq_t pd (md_ends_n (show ¬ (8 : Int32) = 0 by decide) ?_)
          exact bq_f (show ¬ (8 : Int32) ≤ 0 by decide) hQ
        · exact absurd (⟨qa.mpr na, qb.mpr nb⟩) he

theorem i_c55_d (H : pre mn g rg hq mf cd fg w dd bm rr kt) (ho : zz_ushr w 26 = 17) (hr : fI w 21 = 17) (hf : w &&& 63 = 55) : pfx ms mn g rg hq mf cd fg w dd bm rr kt := by
  obtain ⟨a, ha, ea⟩ := fI_n w 11
  obtain ⟨b, hb, eb⟩ := fI_n w 16
  obtain ⟨d, hd, ed⟩ := fI_n w 6
  by_cases he : evn 1 a ∧ evn 1 b
  · refine pfx_fr H (rg' := rg) (cd' := cdN cd w (cmpC 1 (fbt fg 1 a) (fbt fg 1 b))) (fg' := fg) (rr' := upd rr 66 (cdN cd w (cmpC 1 (fbt fg 1 a) (fbt fg 1 b)))) (q_cd H.rel) (fun L O P hP => ?_) (fun dd l1 l2 H Q hQ => ?_)
    · unfold wp_Pr_perform
      refine pr_op ?_
      rw [ho]
      repeat first | refine bq_t (by decide) ?_ | refine bq_f (by decide) ?_
      refine pr_rs ?_
      rw [hr]
      repeat first | refine bq_t (by decide) ?_ | refine bq_f (by decide) ?_
      refine pr_rt ⟨fI_in w 16, fun t et => ?_⟩
      subst et
      unfold wp_Fu_perform
      refine fun x ex => ?_
      have ex : x = 17 := ex.trans hr
      subst ex
      repeat first | refine bq_t (by decide) ?_ | refine bq_f (by decide) ?_
      refine fun y ey => ?_
      rw [hf] at ey
      subst ey
      repeat first | refine bq_t (by decide) ?_ | refine bq_f (by decide) ?_
      exact fu_compare ha hb ea eb (fun _ L' O' => hP L' O') (fun q => absurd he q)
    · unfold wp_Md_operate
      rw [ho]
      repeat first | refine bq_t (by decide) ?_ | refine bq_f (by decide) ?_
      unfold wp_Md_fractions
      refine md_field H.e9 (md_field H.e9 (md_field H.e9 ?_))
      rw [hr]
      repeat first | refine bq_t (by decide) ?_ | refine bq_f (by decide) ?_
      have na := (evx ha ea).mp he.1
      have nb := (evx hb eb).mp he.2
      refine fun x ex => ?_
      rw [H.e9, hf] at ex
      subst ex
      repeat first | refine bq_t (by decide) ?_ | refine bq_f (by decide) ?_
      try unfold wj_Md_fractions_170
      refine md_field H.e9 ?_
      repeat first | refine bq_t (by decide) ?_ | refine bq_f (by decide) ?_ | refine bq_f na ?_ | refine bq_f nb ?_ | refine bq_f nd ?_ | refine bq_t pa (md_ends H.e5 ?_) | refine bq_t pa (md_ends_n (show ¬ (8 : Int32) = 0 by decide) ?_) | refine bq_t pb (md_ends H.e5 ?_) | refine bq_t pb (md_ends_n (show ¬ (8 : Int32) = 0 by decide) ?_) | refine bq_t pd (md_ends H.e5 ?_) | refine bq_t pd (md_ends_n (show ¬ (8 : Int32) = 0 by decide) ?_)
      refine bq_t (show dd 5 ≤ (0 : Int32) by rw [H.e5]; decide) ?_
      refine md_bits H.rel ha ea he.1 ?_
      refine bq_f (by decide) ?_
      refine md_bits H.rel hb eb he.2 ?_
      exact md_compares H (fbt_fin _ _ _) (fbt_fin _ _ _) (by rw [hf]) hQ
  · refine pfx_mk H 8 (fun L O => (g, rg, hq, mf, cd, fg, L, O)) (fun dd l1 l2 => (upd dd 5 8, l1, l2, bm, rr, kt)) (fun L O P hP => ?_) (fun dd l1 l2 H L O => ⟨oc_end (by unfold q_e; simp) H.rel H.nxt rfl (fun j _ h => pk_un h), fun Q hQ => ?_⟩) (fun _ _ _ _ => rfl) (fun _ _ _ _ _ hs => ⟨by repeat first | exact hs | apply lo_upd, rfl, rfl, rfl⟩) (by first | exact Or.inr (fun _ _ => rfl) | exact Or.inl (by unfold q_e; decide)) (fun _ _ _ => rfl)
    · unfold wp_Pr_perform
      refine pr_op ?_
      rw [ho]
      repeat first | refine bq_t (by decide) ?_ | refine bq_f (by decide) ?_
      refine pr_rs ?_
      rw [hr]
      repeat first | refine bq_t (by decide) ?_ | refine bq_f (by decide) ?_
      refine pr_rt ⟨fI_in w 16, fun t et => ?_⟩
      subst et
      unfold wp_Fu_perform
      refine fun x ex => ?_
      have ex : x = 17 := ex.trans hr
      subst ex
      repeat first | refine bq_t (by decide) ?_ | refine bq_f (by decide) ?_
      refine fun y ey => ?_
      rw [hf] at ey
      subst ey
      repeat first | refine bq_t (by decide) ?_ | refine bq_f (by decide) ?_
      exact fu_compare ha hb ea eb (fun q => absurd q he) (fun _ => hP)
    · have qa := evx (w := w) ha ea
      have qb := evx (w := w) hb eb
      rcases Classical.em (fI w 11 &&& 1 = 1) with pa | na
      · rcases Classical.em (fI w 16 &&& 1 = 1) with pb | nb
        · unfold wp_Md_operate
          rw [ho]
          repeat first | refine bq_t (by decide) ?_ | refine bq_f (by decide) ?_
          unfold wp_Md_fractions
          refine md_field H.e9 (md_field H.e9 (md_field H.e9 ?_))
          rw [hr]
          repeat first | refine bq_t (by decide) ?_ | refine bq_f (by decide) ?_
          refine fun x ex => ?_
          rw [H.e9, hf] at ex
          subst ex
          repeat first | refine bq_t (by decide) ?_ | refine bq_f (by decide) ?_
          try unfold wj_Md_fractions_170
          refine md_field H.e9 ?_
          repeat first | refine bq_t (by decide) ?_ | refine bq_f (by decide) ?_ | refine bq_f na ?_ | refine bq_f nb ?_ | refine bq_f nd ?_ | refine bq_t pa (md_ends H.e5 ?_) | refine bq_t pa (md_ends_n (show ¬ (8 : Int32) = 0 by decide) ?_) | refine bq_t pb (md_ends H.e5 ?_) | refine bq_t pb (md_ends_n (show ¬ (8 : Int32) = 0 by decide) ?_) | refine bq_t pd (md_ends H.e5 ?_) | refine bq_t pd (md_ends_n (show ¬ (8 : Int32) = 0 by decide) ?_)
          exact bq_f (show ¬ (8 : Int32) ≤ 0 by decide) hQ
        · unfold wp_Md_operate
          rw [ho]
          repeat first | refine bq_t (by decide) ?_ | refine bq_f (by decide) ?_
          unfold wp_Md_fractions
          refine md_field H.e9 (md_field H.e9 (md_field H.e9 ?_))
          rw [hr]
          repeat first | refine bq_t (by decide) ?_ | refine bq_f (by decide) ?_
          refine fun x ex => ?_
          rw [H.e9, hf] at ex
          subst ex
          repeat first | refine bq_t (by decide) ?_ | refine bq_f (by decide) ?_
          try unfold wj_Md_fractions_170
          refine md_field H.e9 ?_
          repeat first | refine bq_t (by decide) ?_ | refine bq_f (by decide) ?_ | refine bq_f na ?_ | refine bq_f nb ?_ | refine bq_f nd ?_ | refine bq_t pa (md_ends H.e5 ?_) | refine bq_t pa (md_ends_n (show ¬ (8 : Int32) = 0 by decide) ?_) | refine bq_t pb (md_ends H.e5 ?_) | refine bq_t pb (md_ends_n (show ¬ (8 : Int32) = 0 by decide) ?_) | refine bq_t pd (md_ends H.e5 ?_) | refine bq_t pd (md_ends_n (show ¬ (8 : Int32) = 0 by decide) ?_)
          exact bq_f (show ¬ (8 : Int32) ≤ 0 by decide) hQ
      · rcases Classical.em (fI w 16 &&& 1 = 1) with pb | nb
        · unfold wp_Md_operate
          rw [ho]
          repeat first | refine bq_t (by decide) ?_ | refine bq_f (by decide) ?_
          unfold wp_Md_fractions
          refine md_field H.e9 (md_field H.e9 (md_field H.e9 ?_))
          rw [hr]
          repeat first | refine bq_t (by decide) ?_ | refine bq_f (by decide) ?_
          refine fun x ex => ?_
          rw [H.e9, hf] at ex
          subst ex
          repeat first | refine bq_t (by decide) ?_ | refine bq_f (by decide) ?_
          try unfold wj_Md_fractions_170
          refine md_field H.e9 ?_
          repeat first | refine bq_t (by decide) ?_ | refine bq_f (by decide) ?_ | refine bq_f na ?_ | refine bq_f nb ?_ | refine bq_f nd ?_ | refine bq_t pa (md_ends H.e5 ?_) | refine bq_t pa (md_ends_n (show ¬ (8 : Int32) = 0 by decide) ?_) | refine bq_t pb (md_ends H.e5 ?_) | refine bq_t pb (md_ends_n (show ¬ (8 : Int32) = 0 by decide) ?_) | refine bq_t pd (md_ends H.e5 ?_) | refine bq_t pd (md_ends_n (show ¬ (8 : Int32) = 0 by decide) ?_)
          exact bq_f (show ¬ (8 : Int32) ≤ 0 by decide) hQ
        · exact absurd (⟨qa.mpr na, qb.mpr nb⟩) he

theorem i_c56_d (H : pre mn g rg hq mf cd fg w dd bm rr kt) (ho : zz_ushr w 26 = 17) (hr : fI w 21 = 17) (hf : w &&& 63 = 56) : pfx ms mn g rg hq mf cd fg w dd bm rr kt := by
  obtain ⟨a, ha, ea⟩ := fI_n w 11
  obtain ⟨b, hb, eb⟩ := fI_n w 16
  obtain ⟨d, hd, ed⟩ := fI_n w 6
  by_cases he : evn 1 a ∧ evn 1 b
  · refine pfx_fr H (rg' := rg) (cd' := cdN cd w (cmpC 1 (fbt fg 1 a) (fbt fg 1 b))) (fg' := fg) (rr' := upd rr 66 (cdN cd w (cmpC 1 (fbt fg 1 a) (fbt fg 1 b)))) (q_cd H.rel) (fun L O P hP => ?_) (fun dd l1 l2 H Q hQ => ?_)
    · unfold wp_Pr_perform
      refine pr_op ?_
      rw [ho]
      repeat first | refine bq_t (by decide) ?_ | refine bq_f (by decide) ?_
      refine pr_rs ?_
      rw [hr]
      repeat first | refine bq_t (by decide) ?_ | refine bq_f (by decide) ?_
      refine pr_rt ⟨fI_in w 16, fun t et => ?_⟩
      subst et
      unfold wp_Fu_perform
      refine fun x ex => ?_
      have ex : x = 17 := ex.trans hr
      subst ex
      repeat first | refine bq_t (by decide) ?_ | refine bq_f (by decide) ?_
      refine fun y ey => ?_
      rw [hf] at ey
      subst ey
      repeat first | refine bq_t (by decide) ?_ | refine bq_f (by decide) ?_
      exact fu_compare ha hb ea eb (fun _ L' O' => hP L' O') (fun q => absurd he q)
    · unfold wp_Md_operate
      rw [ho]
      repeat first | refine bq_t (by decide) ?_ | refine bq_f (by decide) ?_
      unfold wp_Md_fractions
      refine md_field H.e9 (md_field H.e9 (md_field H.e9 ?_))
      rw [hr]
      repeat first | refine bq_t (by decide) ?_ | refine bq_f (by decide) ?_
      have na := (evx ha ea).mp he.1
      have nb := (evx hb eb).mp he.2
      refine fun x ex => ?_
      rw [H.e9, hf] at ex
      subst ex
      repeat first | refine bq_t (by decide) ?_ | refine bq_f (by decide) ?_
      try unfold wj_Md_fractions_170
      refine md_field H.e9 ?_
      repeat first | refine bq_t (by decide) ?_ | refine bq_f (by decide) ?_ | refine bq_f na ?_ | refine bq_f nb ?_ | refine bq_f nd ?_ | refine bq_t pa (md_ends H.e5 ?_) | refine bq_t pa (md_ends_n (show ¬ (8 : Int32) = 0 by decide) ?_) | refine bq_t pb (md_ends H.e5 ?_) | refine bq_t pb (md_ends_n (show ¬ (8 : Int32) = 0 by decide) ?_) | refine bq_t pd (md_ends H.e5 ?_) | refine bq_t pd (md_ends_n (show ¬ (8 : Int32) = 0 by decide) ?_)
      refine bq_t (show dd 5 ≤ (0 : Int32) by rw [H.e5]; decide) ?_
      refine md_bits H.rel ha ea he.1 ?_
      refine bq_f (by decide) ?_
      refine md_bits H.rel hb eb he.2 ?_
      exact md_compares H (fbt_fin _ _ _) (fbt_fin _ _ _) (by rw [hf]) hQ
  · refine pfx_mk H 8 (fun L O => (g, rg, hq, mf, cd, fg, L, O)) (fun dd l1 l2 => (upd dd 5 8, l1, l2, bm, rr, kt)) (fun L O P hP => ?_) (fun dd l1 l2 H L O => ⟨oc_end (by unfold q_e; simp) H.rel H.nxt rfl (fun j _ h => pk_un h), fun Q hQ => ?_⟩) (fun _ _ _ _ => rfl) (fun _ _ _ _ _ hs => ⟨by repeat first | exact hs | apply lo_upd, rfl, rfl, rfl⟩) (by first | exact Or.inr (fun _ _ => rfl) | exact Or.inl (by unfold q_e; decide)) (fun _ _ _ => rfl)
    · unfold wp_Pr_perform
      refine pr_op ?_
      rw [ho]
      repeat first | refine bq_t (by decide) ?_ | refine bq_f (by decide) ?_
      refine pr_rs ?_
      rw [hr]
      repeat first | refine bq_t (by decide) ?_ | refine bq_f (by decide) ?_
      refine pr_rt ⟨fI_in w 16, fun t et => ?_⟩
      subst et
      unfold wp_Fu_perform
      refine fun x ex => ?_
      have ex : x = 17 := ex.trans hr
      subst ex
      repeat first | refine bq_t (by decide) ?_ | refine bq_f (by decide) ?_
      refine fun y ey => ?_
      rw [hf] at ey
      subst ey
      repeat first | refine bq_t (by decide) ?_ | refine bq_f (by decide) ?_
      exact fu_compare ha hb ea eb (fun q => absurd q he) (fun _ => hP)
    · have qa := evx (w := w) ha ea
      have qb := evx (w := w) hb eb
      rcases Classical.em (fI w 11 &&& 1 = 1) with pa | na
      · rcases Classical.em (fI w 16 &&& 1 = 1) with pb | nb
        · unfold wp_Md_operate
          rw [ho]
          repeat first | refine bq_t (by decide) ?_ | refine bq_f (by decide) ?_
          unfold wp_Md_fractions
          refine md_field H.e9 (md_field H.e9 (md_field H.e9 ?_))
          rw [hr]
          repeat first | refine bq_t (by decide) ?_ | refine bq_f (by decide) ?_
          refine fun x ex => ?_
          rw [H.e9, hf] at ex
          subst ex
          repeat first | refine bq_t (by decide) ?_ | refine bq_f (by decide) ?_
          try unfold wj_Md_fractions_170
          refine md_field H.e9 ?_
          repeat first | refine bq_t (by decide) ?_ | refine bq_f (by decide) ?_ | refine bq_f na ?_ | refine bq_f nb ?_ | refine bq_f nd ?_ | refine bq_t pa (md_ends H.e5 ?_) | refine bq_t pa (md_ends_n (show ¬ (8 : Int32) = 0 by decide) ?_) | refine bq_t pb (md_ends H.e5 ?_) | refine bq_t pb (md_ends_n (show ¬ (8 : Int32) = 0 by decide) ?_) | refine bq_t pd (md_ends H.e5 ?_) | refine bq_t pd (md_ends_n (show ¬ (8 : Int32) = 0 by decide) ?_)
          exact bq_f (show ¬ (8 : Int32) ≤ 0 by decide) hQ
        · unfold wp_Md_operate
          rw [ho]
          repeat first | refine bq_t (by decide) ?_ | refine bq_f (by decide) ?_
          unfold wp_Md_fractions
          refine md_field H.e9 (md_field H.e9 (md_field H.e9 ?_))
          rw [hr]
          repeat first | refine bq_t (by decide) ?_ | refine bq_f (by decide) ?_
          refine fun x ex => ?_
          rw [H.e9, hf] at ex
          subst ex
          repeat first | refine bq_t (by decide) ?_ | refine bq_f (by decide) ?_
          try unfold wj_Md_fractions_170
          refine md_field H.e9 ?_
          repeat first | refine bq_t (by decide) ?_ | refine bq_f (by decide) ?_ | refine bq_f na ?_ | refine bq_f nb ?_ | refine bq_f nd ?_ | refine bq_t pa (md_ends H.e5 ?_) | refine bq_t pa (md_ends_n (show ¬ (8 : Int32) = 0 by decide) ?_) | refine bq_t pb (md_ends H.e5 ?_) | refine bq_t pb (md_ends_n (show ¬ (8 : Int32) = 0 by decide) ?_) | refine bq_t pd (md_ends H.e5 ?_) | refine bq_t pd (md_ends_n (show ¬ (8 : Int32) = 0 by decide) ?_)
          exact bq_f (show ¬ (8 : Int32) ≤ 0 by decide) hQ
      · rcases Classical.em (fI w 16 &&& 1 = 1) with pb | nb
        · unfold wp_Md_operate
          rw [ho]
          repeat first | refine bq_t (by decide) ?_ | refine bq_f (by decide) ?_
          unfold wp_Md_fractions
          refine md_field H.e9 (md_field H.e9 (md_field H.e9 ?_))
          rw [hr]
          repeat first | refine bq_t (by decide) ?_ | refine bq_f (by decide) ?_
          refine fun x ex => ?_
          rw [H.e9, hf] at ex
          subst ex
          repeat first | refine bq_t (by decide) ?_ | refine bq_f (by decide) ?_
          try unfold wj_Md_fractions_170
          refine md_field H.e9 ?_
          repeat first | refine bq_t (by decide) ?_ | refine bq_f (by decide) ?_ | refine bq_f na ?_ | refine bq_f nb ?_ | refine bq_f nd ?_ | refine bq_t pa (md_ends H.e5 ?_) | refine bq_t pa (md_ends_n (show ¬ (8 : Int32) = 0 by decide) ?_) | refine bq_t pb (md_ends H.e5 ?_) | refine bq_t pb (md_ends_n (show ¬ (8 : Int32) = 0 by decide) ?_) | refine bq_t pd (md_ends H.e5 ?_) | refine bq_t pd (md_ends_n (show ¬ (8 : Int32) = 0 by decide) ?_)
          exact bq_f (show ¬ (8 : Int32) ≤ 0 by decide) hQ
        · exact absurd (⟨qa.mpr na, qb.mpr nb⟩) he

theorem i_c57_d (H : pre mn g rg hq mf cd fg w dd bm rr kt) (ho : zz_ushr w 26 = 17) (hr : fI w 21 = 17) (hf : w &&& 63 = 57) : pfx ms mn g rg hq mf cd fg w dd bm rr kt := by
  obtain ⟨a, ha, ea⟩ := fI_n w 11
  obtain ⟨b, hb, eb⟩ := fI_n w 16
  obtain ⟨d, hd, ed⟩ := fI_n w 6
  by_cases he : evn 1 a ∧ evn 1 b
  · refine pfx_fr H (rg' := rg) (cd' := cdN cd w (cmpC 1 (fbt fg 1 a) (fbt fg 1 b))) (fg' := fg) (rr' := upd rr 66 (cdN cd w (cmpC 1 (fbt fg 1 a) (fbt fg 1 b)))) (q_cd H.rel) (fun L O P hP => ?_) (fun dd l1 l2 H Q hQ => ?_)
    · unfold wp_Pr_perform
      refine pr_op ?_
      rw [ho]
      repeat first | refine bq_t (by decide) ?_ | refine bq_f (by decide) ?_
      refine pr_rs ?_
      rw [hr]
      repeat first | refine bq_t (by decide) ?_ | refine bq_f (by decide) ?_
      refine pr_rt ⟨fI_in w 16, fun t et => ?_⟩
      subst et
      unfold wp_Fu_perform
      refine fun x ex => ?_
      have ex : x = 17 := ex.trans hr
      subst ex
      repeat first | refine bq_t (by decide) ?_ | refine bq_f (by decide) ?_
      refine fun y ey => ?_
      rw [hf] at ey
      subst ey
      repeat first | refine bq_t (by decide) ?_ | refine bq_f (by decide) ?_
      exact fu_compare ha hb ea eb (fun _ L' O' => hP L' O') (fun q => absurd he q)
    · unfold wp_Md_operate
      rw [ho]
      repeat first | refine bq_t (by decide) ?_ | refine bq_f (by decide) ?_
      unfold wp_Md_fractions
      refine md_field H.e9 (md_field H.e9 (md_field H.e9 ?_))
      rw [hr]
      repeat first | refine bq_t (by decide) ?_ | refine bq_f (by decide) ?_
      have na := (evx ha ea).mp he.1
      have nb := (evx hb eb).mp he.2
      refine fun x ex => ?_
      rw [H.e9, hf] at ex
      subst ex
      repeat first | refine bq_t (by decide) ?_ | refine bq_f (by decide) ?_
      try unfold wj_Md_fractions_170
      refine md_field H.e9 ?_
      repeat first | refine bq_t (by decide) ?_ | refine bq_f (by decide) ?_ | refine bq_f na ?_ | refine bq_f nb ?_ | refine bq_f nd ?_ | refine bq_t pa (md_ends H.e5 ?_) | refine bq_t pa (md_ends_n (show ¬ (8 : Int32) = 0 by decide) ?_) | refine bq_t pb (md_ends H.e5 ?_) | refine bq_t pb (md_ends_n (show ¬ (8 : Int32) = 0 by decide) ?_) | refine bq_t pd (md_ends H.e5 ?_) | refine bq_t pd (md_ends_n (show ¬ (8 : Int32) = 0 by decide) ?_)
      refine bq_t (show dd 5 ≤ (0 : Int32) by rw [H.e5]; decide) ?_
      refine md_bits H.rel ha ea he.1 ?_
      refine bq_f (by decide) ?_
      refine md_bits H.rel hb eb he.2 ?_
      exact md_compares H (fbt_fin _ _ _) (fbt_fin _ _ _) (by rw [hf]) hQ
  · refine pfx_mk H 8 (fun L O => (g, rg, hq, mf, cd, fg, L, O)) (fun dd l1 l2 => (upd dd 5 8, l1, l2, bm, rr, kt)) (fun L O P hP => ?_) (fun dd l1 l2 H L O => ⟨oc_end (by unfold q_e; simp) H.rel H.nxt rfl (fun j _ h => pk_un h), fun Q hQ => ?_⟩) (fun _ _ _ _ => rfl) (fun _ _ _ _ _ hs => ⟨by repeat first | exact hs | apply lo_upd, rfl, rfl, rfl⟩) (by first | exact Or.inr (fun _ _ => rfl) | exact Or.inl (by unfold q_e; decide)) (fun _ _ _ => rfl)
    · unfold wp_Pr_perform
      refine pr_op ?_
      rw [ho]
      repeat first | refine bq_t (by decide) ?_ | refine bq_f (by decide) ?_
      refine pr_rs ?_
      rw [hr]
      repeat first | refine bq_t (by decide) ?_ | refine bq_f (by decide) ?_
      refine pr_rt ⟨fI_in w 16, fun t et => ?_⟩
      subst et
      unfold wp_Fu_perform
      refine fun x ex => ?_
      have ex : x = 17 := ex.trans hr
      subst ex
      repeat first | refine bq_t (by decide) ?_ | refine bq_f (by decide) ?_
      refine fun y ey => ?_
      rw [hf] at ey
      subst ey
      repeat first | refine bq_t (by decide) ?_ | refine bq_f (by decide) ?_
      exact fu_compare ha hb ea eb (fun q => absurd q he) (fun _ => hP)
    · have qa := evx (w := w) ha ea
      have qb := evx (w := w) hb eb
      rcases Classical.em (fI w 11 &&& 1 = 1) with pa | na
      · rcases Classical.em (fI w 16 &&& 1 = 1) with pb | nb
        · unfold wp_Md_operate
          rw [ho]
          repeat first | refine bq_t (by decide) ?_ | refine bq_f (by decide) ?_
          unfold wp_Md_fractions
          refine md_field H.e9 (md_field H.e9 (md_field H.e9 ?_))
          rw [hr]
          repeat first | refine bq_t (by decide) ?_ | refine bq_f (by decide) ?_
          refine fun x ex => ?_
          rw [H.e9, hf] at ex
          subst ex
          repeat first | refine bq_t (by decide) ?_ | refine bq_f (by decide) ?_
          try unfold wj_Md_fractions_170
          refine md_field H.e9 ?_
          repeat first | refine bq_t (by decide) ?_ | refine bq_f (by decide) ?_ | refine bq_f na ?_ | refine bq_f nb ?_ | refine bq_f nd ?_ | refine bq_t pa (md_ends H.e5 ?_) | refine bq_t pa (md_ends_n (show ¬ (8 : Int32) = 0 by decide) ?_) | refine bq_t pb (md_ends H.e5 ?_) | refine bq_t pb (md_ends_n (show ¬ (8 : Int32) = 0 by decide) ?_) | refine bq_t pd (md_ends H.e5 ?_) | refine bq_t pd (md_ends_n (show ¬ (8 : Int32) = 0 by decide) ?_)
          exact bq_f (show ¬ (8 : Int32) ≤ 0 by decide) hQ
        · unfold wp_Md_operate
          rw [ho]
          repeat first | refine bq_t (by decide) ?_ | refine bq_f (by decide) ?_
          unfold wp_Md_fractions
          refine md_field H.e9 (md_field H.e9 (md_field H.e9 ?_))
          rw [hr]
          repeat first | refine bq_t (by decide) ?_ | refine bq_f (by decide) ?_
          refine fun x ex => ?_
          rw [H.e9, hf] at ex
          subst ex
          repeat first | refine bq_t (by decide) ?_ | refine bq_f (by decide) ?_
          try unfold wj_Md_fractions_170
          refine md_field H.e9 ?_
          repeat first | refine bq_t (by decide) ?_ | refine bq_f (by decide) ?_ | refine bq_f na ?_ | refine bq_f nb ?_ | refine bq_f nd ?_ | refine bq_t pa (md_ends H.e5 ?_) | refine bq_t pa (md_ends_n (show ¬ (8 : Int32) = 0 by decide) ?_) | refine bq_t pb (md_ends H.e5 ?_) | refine bq_t pb (md_ends_n (show ¬ (8 : Int32) = 0 by decide) ?_) | refine bq_t pd (md_ends H.e5 ?_) | refine bq_t pd (md_ends_n (show ¬ (8 : Int32) = 0 by decide) ?_)
          exact bq_f (show ¬ (8 : Int32) ≤ 0 by decide) hQ
      · rcases Classical.em (fI w 16 &&& 1 = 1) with pb | nb
        · unfold wp_Md_operate
          rw [ho]
          repeat first | refine bq_t (by decide) ?_ | refine bq_f (by decide) ?_
          unfold wp_Md_fractions
          refine md_field H.e9 (md_field H.e9 (md_field H.e9 ?_))
          rw [hr]
          repeat first | refine bq_t (by decide) ?_ | refine bq_f (by decide) ?_
          refine fun x ex => ?_
          rw [H.e9, hf] at ex
          subst ex
          repeat first | refine bq_t (by decide) ?_ | refine bq_f (by decide) ?_
          try unfold wj_Md_fractions_170
          refine md_field H.e9 ?_
          repeat first | refine bq_t (by decide) ?_ | refine bq_f (by decide) ?_ | refine bq_f na ?_ | refine bq_f nb ?_ | refine bq_f nd ?_ | refine bq_t pa (md_ends H.e5 ?_) | refine bq_t pa (md_ends_n (show ¬ (8 : Int32) = 0 by decide) ?_) | refine bq_t pb (md_ends H.e5 ?_) | refine bq_t pb (md_ends_n (show ¬ (8 : Int32) = 0 by decide) ?_) | refine bq_t pd (md_ends H.e5 ?_) | refine bq_t pd (md_ends_n (show ¬ (8 : Int32) = 0 by decide) ?_)
          exact bq_f (show ¬ (8 : Int32) ≤ 0 by decide) hQ
        · exact absurd (⟨qa.mpr na, qb.mpr nb⟩) he

theorem i_c58_d (H : pre mn g rg hq mf cd fg w dd bm rr kt) (ho : zz_ushr w 26 = 17) (hr : fI w 21 = 17) (hf : w &&& 63 = 58) : pfx ms mn g rg hq mf cd fg w dd bm rr kt := by
  obtain ⟨a, ha, ea⟩ := fI_n w 11
  obtain ⟨b, hb, eb⟩ := fI_n w 16
  obtain ⟨d, hd, ed⟩ := fI_n w 6
  by_cases he : evn 1 a ∧ evn 1 b
  · refine pfx_fr H (rg' := rg) (cd' := cdN cd w (cmpC 1 (fbt fg 1 a) (fbt fg 1 b))) (fg' := fg) (rr' := upd rr 66 (cdN cd w (cmpC 1 (fbt fg 1 a) (fbt fg 1 b)))) (q_cd H.rel) (fun L O P hP => ?_) (fun dd l1 l2 H Q hQ => ?_)
    · unfold wp_Pr_perform
      refine pr_op ?_
      rw [ho]
      repeat first | refine bq_t (by decide) ?_ | refine bq_f (by decide) ?_
      refine pr_rs ?_
      rw [hr]
      repeat first | refine bq_t (by decide) ?_ | refine bq_f (by decide) ?_
      refine pr_rt ⟨fI_in w 16, fun t et => ?_⟩
      subst et
      unfold wp_Fu_perform
      refine fun x ex => ?_
      have ex : x = 17 := ex.trans hr
      subst ex
      repeat first | refine bq_t (by decide) ?_ | refine bq_f (by decide) ?_
      refine fun y ey => ?_
      rw [hf] at ey
      subst ey
      repeat first | refine bq_t (by decide) ?_ | refine bq_f (by decide) ?_
      exact fu_compare ha hb ea eb (fun _ L' O' => hP L' O') (fun q => absurd he q)
    · unfold wp_Md_operate
      rw [ho]
      repeat first | refine bq_t (by decide) ?_ | refine bq_f (by decide) ?_
      unfold wp_Md_fractions
      refine md_field H.e9 (md_field H.e9 (md_field H.e9 ?_))
      rw [hr]
      repeat first | refine bq_t (by decide) ?_ | refine bq_f (by decide) ?_
      have na := (evx ha ea).mp he.1
      have nb := (evx hb eb).mp he.2
      refine fun x ex => ?_
      rw [H.e9, hf] at ex
      subst ex
      repeat first | refine bq_t (by decide) ?_ | refine bq_f (by decide) ?_
      try unfold wj_Md_fractions_170
      refine md_field H.e9 ?_
      repeat first | refine bq_t (by decide) ?_ | refine bq_f (by decide) ?_ | refine bq_f na ?_ | refine bq_f nb ?_ | refine bq_f nd ?_ | refine bq_t pa (md_ends H.e5 ?_) | refine bq_t pa (md_ends_n (show ¬ (8 : Int32) = 0 by decide) ?_) | refine bq_t pb (md_ends H.e5 ?_) | refine bq_t pb (md_ends_n (show ¬ (8 : Int32) = 0 by decide) ?_) | refine bq_t pd (md_ends H.e5 ?_) | refine bq_t pd (md_ends_n (show ¬ (8 : Int32) = 0 by decide) ?_)
      refine bq_t (show dd 5 ≤ (0 : Int32) by rw [H.e5]; decide) ?_
      refine md_bits H.rel ha ea he.1 ?_
      refine bq_f (by decide) ?_
      refine md_bits H.rel hb eb he.2 ?_
      exact md_compares H (fbt_fin _ _ _) (fbt_fin _ _ _) (by rw [hf]) hQ
  · refine pfx_mk H 8 (fun L O => (g, rg, hq, mf, cd, fg, L, O)) (fun dd l1 l2 => (upd dd 5 8, l1, l2, bm, rr, kt)) (fun L O P hP => ?_) (fun dd l1 l2 H L O => ⟨oc_end (by unfold q_e; simp) H.rel H.nxt rfl (fun j _ h => pk_un h), fun Q hQ => ?_⟩) (fun _ _ _ _ => rfl) (fun _ _ _ _ _ hs => ⟨by repeat first | exact hs | apply lo_upd, rfl, rfl, rfl⟩) (by first | exact Or.inr (fun _ _ => rfl) | exact Or.inl (by unfold q_e; decide)) (fun _ _ _ => rfl)
    · unfold wp_Pr_perform
      refine pr_op ?_
      rw [ho]
      repeat first | refine bq_t (by decide) ?_ | refine bq_f (by decide) ?_
      refine pr_rs ?_
      rw [hr]
      repeat first | refine bq_t (by decide) ?_ | refine bq_f (by decide) ?_
      refine pr_rt ⟨fI_in w 16, fun t et => ?_⟩
      subst et
      unfold wp_Fu_perform
      refine fun x ex => ?_
      have ex : x = 17 := ex.trans hr
      subst ex
      repeat first | refine bq_t (by decide) ?_ | refine bq_f (by decide) ?_
      refine fun y ey => ?_
      rw [hf] at ey
      subst ey
      repeat first | refine bq_t (by decide) ?_ | refine bq_f (by decide) ?_
      exact fu_compare ha hb ea eb (fun q => absurd q he) (fun _ => hP)
    · have qa := evx (w := w) ha ea
      have qb := evx (w := w) hb eb
      rcases Classical.em (fI w 11 &&& 1 = 1) with pa | na
      · rcases Classical.em (fI w 16 &&& 1 = 1) with pb | nb
        · unfold wp_Md_operate
          rw [ho]
          repeat first | refine bq_t (by decide) ?_ | refine bq_f (by decide) ?_
          unfold wp_Md_fractions
          refine md_field H.e9 (md_field H.e9 (md_field H.e9 ?_))
          rw [hr]
          repeat first | refine bq_t (by decide) ?_ | refine bq_f (by decide) ?_
          refine fun x ex => ?_
          rw [H.e9, hf] at ex
          subst ex
          repeat first | refine bq_t (by decide) ?_ | refine bq_f (by decide) ?_
          try unfold wj_Md_fractions_170
          refine md_field H.e9 ?_
          repeat first | refine bq_t (by decide) ?_ | refine bq_f (by decide) ?_ | refine bq_f na ?_ | refine bq_f nb ?_ | refine bq_f nd ?_ | refine bq_t pa (md_ends H.e5 ?_) | refine bq_t pa (md_ends_n (show ¬ (8 : Int32) = 0 by decide) ?_) | refine bq_t pb (md_ends H.e5 ?_) | refine bq_t pb (md_ends_n (show ¬ (8 : Int32) = 0 by decide) ?_) | refine bq_t pd (md_ends H.e5 ?_) | refine bq_t pd (md_ends_n (show ¬ (8 : Int32) = 0 by decide) ?_)
          exact bq_f (show ¬ (8 : Int32) ≤ 0 by decide) hQ
        · unfold wp_Md_operate
          rw [ho]
          repeat first | refine bq_t (by decide) ?_ | refine bq_f (by decide) ?_
          unfold wp_Md_fractions
          refine md_field H.e9 (md_field H.e9 (md_field H.e9 ?_))
          rw [hr]
          repeat first | refine bq_t (by decide) ?_ | refine bq_f (by decide) ?_
          refine fun x ex => ?_
          rw [H.e9, hf] at ex
          subst ex
          repeat first | refine bq_t (by decide) ?_ | refine bq_f (by decide) ?_
          try unfold wj_Md_fractions_170
          refine md_field H.e9 ?_
          repeat first | refine bq_t (by decide) ?_ | refine bq_f (by decide) ?_ | refine bq_f na ?_ | refine bq_f nb ?_ | refine bq_f nd ?_ | refine bq_t pa (md_ends H.e5 ?_) | refine bq_t pa (md_ends_n (show ¬ (8 : Int32) = 0 by decide) ?_) | refine bq_t pb (md_ends H.e5 ?_) | refine bq_t pb (md_ends_n (show ¬ (8 : Int32) = 0 by decide) ?_) | refine bq_t pd (md_ends H.e5 ?_) | refine bq_t pd (md_ends_n (show ¬ (8 : Int32) = 0 by decide) ?_)
          exact bq_f (show ¬ (8 : Int32) ≤ 0 by decide) hQ
      · rcases Classical.em (fI w 16 &&& 1 = 1) with pb | nb
        · unfold wp_Md_operate
          rw [ho]
          repeat first | refine bq_t (by decide) ?_ | refine bq_f (by decide) ?_
          unfold wp_Md_fractions
          refine md_field H.e9 (md_field H.e9 (md_field H.e9 ?_))
          rw [hr]
          repeat first | refine bq_t (by decide) ?_ | refine bq_f (by decide) ?_
          refine fun x ex => ?_
          rw [H.e9, hf] at ex
          subst ex
          repeat first | refine bq_t (by decide) ?_ | refine bq_f (by decide) ?_
          try unfold wj_Md_fractions_170
          refine md_field H.e9 ?_
          repeat first | refine bq_t (by decide) ?_ | refine bq_f (by decide) ?_ | refine bq_f na ?_ | refine bq_f nb ?_ | refine bq_f nd ?_ | refine bq_t pa (md_ends H.e5 ?_) | refine bq_t pa (md_ends_n (show ¬ (8 : Int32) = 0 by decide) ?_) | refine bq_t pb (md_ends H.e5 ?_) | refine bq_t pb (md_ends_n (show ¬ (8 : Int32) = 0 by decide) ?_) | refine bq_t pd (md_ends H.e5 ?_) | refine bq_t pd (md_ends_n (show ¬ (8 : Int32) = 0 by decide) ?_)
          exact bq_f (show ¬ (8 : Int32) ≤ 0 by decide) hQ
        · exact absurd (⟨qa.mpr na, qb.mpr nb⟩) he

theorem i_c59_d (H : pre mn g rg hq mf cd fg w dd bm rr kt) (ho : zz_ushr w 26 = 17) (hr : fI w 21 = 17) (hf : w &&& 63 = 59) : pfx ms mn g rg hq mf cd fg w dd bm rr kt := by
  obtain ⟨a, ha, ea⟩ := fI_n w 11
  obtain ⟨b, hb, eb⟩ := fI_n w 16
  obtain ⟨d, hd, ed⟩ := fI_n w 6
  by_cases he : evn 1 a ∧ evn 1 b
  · refine pfx_fr H (rg' := rg) (cd' := cdN cd w (cmpC 1 (fbt fg 1 a) (fbt fg 1 b))) (fg' := fg) (rr' := upd rr 66 (cdN cd w (cmpC 1 (fbt fg 1 a) (fbt fg 1 b)))) (q_cd H.rel) (fun L O P hP => ?_) (fun dd l1 l2 H Q hQ => ?_)
    · unfold wp_Pr_perform
      refine pr_op ?_
      rw [ho]
      repeat first | refine bq_t (by decide) ?_ | refine bq_f (by decide) ?_
      refine pr_rs ?_
      rw [hr]
      repeat first | refine bq_t (by decide) ?_ | refine bq_f (by decide) ?_
      refine pr_rt ⟨fI_in w 16, fun t et => ?_⟩
      subst et
      unfold wp_Fu_perform
      refine fun x ex => ?_
      have ex : x = 17 := ex.trans hr
      subst ex
      repeat first | refine bq_t (by decide) ?_ | refine bq_f (by decide) ?_
      refine fun y ey => ?_
      rw [hf] at ey
      subst ey
      repeat first | refine bq_t (by decide) ?_ | refine bq_f (by decide) ?_
      exact fu_compare ha hb ea eb (fun _ L' O' => hP L' O') (fun q => absurd he q)
    · unfold wp_Md_operate
      rw [ho]
      repeat first | refine bq_t (by decide) ?_ | refine bq_f (by decide) ?_
      unfold wp_Md_fractions
      refine md_field H.e9 (md_field H.e9 (md_field H.e9 ?_))
      rw [hr]
      repeat first | refine bq_t (by decide) ?_ | refine bq_f (by decide) ?_
      have na := (evx ha ea).mp he.1
      have nb := (evx hb eb).mp he.2
      refine fun x ex => ?_
      rw [H.e9, hf] at ex
      subst ex
      repeat first | refine bq_t (by decide) ?_ | refine bq_f (by decide) ?_
      try unfold wj_Md_fractions_170
      refine md_field H.e9 ?_
      repeat first | refine bq_t (by decide) ?_ | refine bq_f (by decide) ?_ | refine bq_f na ?_ | refine bq_f nb ?_ | refine bq_f nd ?_ | refine bq_t pa (md_ends H.e5 ?_) | refine bq_t pa (md_ends_n (show ¬ (8 : Int32) = 0 by decide) ?_) | refine bq_t pb (md_ends H.e5 ?_) | refine bq_t pb (md_ends_n (show ¬ (8 : Int32) = 0 by decide) ?_) | refine bq_t pd (md_ends H.e5 ?_) | refine bq_t pd (md_ends_n (show ¬ (8 : Int32) = 0 by decide) ?_)
      refine bq_t (show dd 5 ≤ (0 : Int32) by rw [H.e5]; decide) ?_
      refine md_bits H.rel ha ea he.1 ?_
      refine bq_f (by decide) ?_
      refine md_bits H.rel hb eb he.2 ?_
      exact md_compares H (fbt_fin _ _ _) (fbt_fin _ _ _) (by rw [hf]) hQ
  · refine pfx_mk H 8 (fun L O => (g, rg, hq, mf, cd, fg, L, O)) (fun dd l1 l2 => (upd dd 5 8, l1, l2, bm, rr, kt)) (fun L O P hP => ?_) (fun dd l1 l2 H L O => ⟨oc_end (by unfold q_e; simp) H.rel H.nxt rfl (fun j _ h => pk_un h), fun Q hQ => ?_⟩) (fun _ _ _ _ => rfl) (fun _ _ _ _ _ hs => ⟨by repeat first | exact hs | apply lo_upd, rfl, rfl, rfl⟩) (by first | exact Or.inr (fun _ _ => rfl) | exact Or.inl (by unfold q_e; decide)) (fun _ _ _ => rfl)
    · unfold wp_Pr_perform
      refine pr_op ?_
      rw [ho]
      repeat first | refine bq_t (by decide) ?_ | refine bq_f (by decide) ?_
      refine pr_rs ?_
      rw [hr]
      repeat first | refine bq_t (by decide) ?_ | refine bq_f (by decide) ?_
      refine pr_rt ⟨fI_in w 16, fun t et => ?_⟩
      subst et
      unfold wp_Fu_perform
      refine fun x ex => ?_
      have ex : x = 17 := ex.trans hr
      subst ex
      repeat first | refine bq_t (by decide) ?_ | refine bq_f (by decide) ?_
      refine fun y ey => ?_
      rw [hf] at ey
      subst ey
      repeat first | refine bq_t (by decide) ?_ | refine bq_f (by decide) ?_
      exact fu_compare ha hb ea eb (fun q => absurd q he) (fun _ => hP)
    · have qa := evx (w := w) ha ea
      have qb := evx (w := w) hb eb
      rcases Classical.em (fI w 11 &&& 1 = 1) with pa | na
      · rcases Classical.em (fI w 16 &&& 1 = 1) with pb | nb
        · unfold wp_Md_operate
          rw [ho]
          repeat first | refine bq_t (by decide) ?_ | refine bq_f (by decide) ?_
          unfold wp_Md_fractions
          refine md_field H.e9 (md_field H.e9 (md_field H.e9 ?_))
          rw [hr]
          repeat first | refine bq_t (by decide) ?_ | refine bq_f (by decide) ?_
          refine fun x ex => ?_
          rw [H.e9, hf] at ex
          subst ex
          repeat first | refine bq_t (by decide) ?_ | refine bq_f (by decide) ?_
          try unfold wj_Md_fractions_170
          refine md_field H.e9 ?_
          repeat first | refine bq_t (by decide) ?_ | refine bq_f (by decide) ?_ | refine bq_f na ?_ | refine bq_f nb ?_ | refine bq_f nd ?_ | refine bq_t pa (md_ends H.e5 ?_) | refine bq_t pa (md_ends_n (show ¬ (8 : Int32) = 0 by decide) ?_) | refine bq_t pb (md_ends H.e5 ?_) | refine bq_t pb (md_ends_n (show ¬ (8 : Int32) = 0 by decide) ?_) | refine bq_t pd (md_ends H.e5 ?_) | refine bq_t pd (md_ends_n (show ¬ (8 : Int32) = 0 by decide) ?_)
          exact bq_f (show ¬ (8 : Int32) ≤ 0 by decide) hQ
        · unfold wp_Md_operate
          rw [ho]
          repeat first | refine bq_t (by decide) ?_ | refine bq_f (by decide) ?_
          unfold wp_Md_fractions
          refine md_field H.e9 (md_field H.e9 (md_field H.e9 ?_))
          rw [hr]
          repeat first | refine bq_t (by decide) ?_ | refine bq_f (by decide) ?_
          refine fun x ex => ?_
          rw [H.e9, hf] at ex
          subst ex
          repeat first | refine bq_t (by decide) ?_ | refine bq_f (by decide) ?_
          try unfold wj_Md_fractions_170
          refine md_field H.e9 ?_
          repeat first | refine bq_t (by decide) ?_ | refine bq_f (by decide) ?_ | refine bq_f na ?_ | refine bq_f nb ?_ | refine bq_f nd ?_ | refine bq_t pa (md_ends H.e5 ?_) | refine bq_t pa (md_ends_n (show ¬ (8 : Int32) = 0 by decide) ?_) | refine bq_t pb (md_ends H.e5 ?_) | refine bq_t pb (md_ends_n (show ¬ (8 : Int32) = 0 by decide) ?_) | refine bq_t pd (md_ends H.e5 ?_) | refine bq_t pd (md_ends_n (show ¬ (8 : Int32) = 0 by decide) ?_)
          exact bq_f (show ¬ (8 : Int32) ≤ 0 by decide) hQ
      · rcases Classical.em (fI w 16 &&& 1 = 1) with pb | nb
        · unfold wp_Md_operate
          rw [ho]
          repeat first | refine bq_t (by decide) ?_ | refine bq_f (by decide) ?_
          unfold wp_Md_fractions
          refine md_field H.e9 (md_field H.e9 (md_field H.e9 ?_))
          rw [hr]
          repeat first | refine bq_t (by decide) ?_ | refine bq_f (by decide) ?_
          refine fun x ex => ?_
          rw [H.e9, hf] at ex
          subst ex
          repeat first | refine bq_t (by decide) ?_ | refine bq_f (by decide) ?_
          try unfold wj_Md_fractions_170
          refine md_field H.e9 ?_
          repeat first | refine bq_t (by decide) ?_ | refine bq_f (by decide) ?_ | refine bq_f na ?_ | refine bq_f nb ?_ | refine bq_f nd ?_ | refine bq_t pa (md_ends H.e5 ?_) | refine bq_t pa (md_ends_n (show ¬ (8 : Int32) = 0 by decide) ?_) | refine bq_t pb (md_ends H.e5 ?_) | refine bq_t pb (md_ends_n (show ¬ (8 : Int32) = 0 by decide) ?_) | refine bq_t pd (md_ends H.e5 ?_) | refine bq_t pd (md_ends_n (show ¬ (8 : Int32) = 0 by decide) ?_)
          exact bq_f (show ¬ (8 : Int32) ≤ 0 by decide) hQ
        · exact absurd (⟨qa.mpr na, qb.mpr nb⟩) he

theorem i_c60_d (H : pre mn g rg hq mf cd fg w dd bm rr kt) (ho : zz_ushr w 26 = 17) (hr : fI w 21 = 17) (hf : w &&& 63 = 60) : pfx ms mn g rg hq mf cd fg w dd bm rr kt := by
  obtain ⟨a, ha, ea⟩ := fI_n w 11
  obtain ⟨b, hb, eb⟩ := fI_n w 16
  obtain ⟨d, hd, ed⟩ := fI_n w 6
  by_cases he : evn 1 a ∧ evn 1 b
  · refine pfx_fr H (rg' := rg) (cd' := cdN cd w (cmpC 1 (fbt fg 1 a) (fbt fg 1 b))) (fg' := fg) (rr' := upd rr 66 (cdN cd w (cmpC 1 (fbt fg 1 a) (fbt fg 1 b)))) (q_cd H.rel) (fun L O P hP => ?_) (fun dd l1 l2 H Q hQ => ?_)
    · unfold wp_Pr_perform
      refine pr_op ?_
      rw [ho]
      repeat first | refine bq_t (by decide) ?_ | refine bq_f (by decide) ?_
      refine pr_rs ?_
      rw [hr]
      repeat first | refine bq_t (by decide) ?_ | refine bq_f (by decide) ?_
      refine pr_rt ⟨fI_in w 16, fun t et => ?_⟩
      subst et
      unfold wp_Fu_perform
      refine fun x ex => ?_
      have ex : x = 17 := ex.trans hr
      subst ex
      repeat first | refine bq_t (by decide) ?_ | refine bq_f (by decide) ?_
      refine fun y ey => ?_
      rw [hf] at ey
      subst ey
      repeat first | refine bq_t (by decide) ?_ | refine bq_f (by decide) ?_
      exact fu_compare ha hb ea eb (fun _ L' O' => hP L' O') (fun q => absurd he q)
    · unfold wp_Md_operate
      rw [ho]
      repeat first | refine bq_t (by decide) ?_ | refine bq_f (by decide) ?_
      unfold wp_Md_fractions
      refine md_field H.e9 (md_field H.e9 (md_field H.e9 ?_))
      rw [hr]
      repeat first | refine bq_t (by decide) ?_ | refine bq_f (by decide) ?_
      have na := (evx ha ea).mp he.1
      have nb := (evx hb eb).mp he.2
      refine fun x ex => ?_
      rw [H.e9, hf] at ex
      subst ex
      repeat first | refine bq_t (by decide) ?_ | refine bq_f (by decide) ?_
      try unfold wj_Md_fractions_170
      refine md_field H.e9 ?_
      repeat first | refine bq_t (by decide) ?_ | refine bq_f (by decide) ?_ | refine bq_f na ?_ | refine bq_f nb ?_ | refine bq_f nd ?_ | refine bq_t pa (md_ends H.e5 ?_) | refine bq_t pa (md_ends_n (show ¬ (8 : Int32) = 0 by decide) ?_) | refine bq_t pb (md_ends H.e5 ?_) | refine bq_t pb (md_ends_n (show ¬ (8 : Int32) = 0 by decide) ?_) | refine bq_t pd (md_ends H.e5 ?_) | refine bq_t pd (md_ends_n (show ¬ (8 : Int32) = 0 by decide) ?_)
      refine bq_t (show dd 5 ≤ (0 : Int32) by rw [H.e5]; decide) ?_
      refine md_bits H.rel ha ea he.1 ?_
      refine bq_f (by decide) ?_
      refine md_bits H.rel hb eb he.2 ?_
      exact md_compares H (fbt_fin _ _ _) (fbt_fin _ _ _) (by rw [hf]) hQ
  · refine pfx_mk H 8 (fun L O => (g, rg, hq, mf, cd, fg, L, O)) (fun dd l1 l2 => (upd dd 5 8, l1, l2, bm, rr, kt)) (fun L O P hP => ?_) (fun dd l1 l2 H L O => ⟨oc_end (by unfold q_e; simp) H.rel H.nxt rfl (fun j _ h => pk_un h), fun Q hQ => ?_⟩) (fun _ _ _ _ => rfl) (fun _ _ _ _ _ hs => ⟨by repeat first | exact hs | apply lo_upd, rfl, rfl, rfl⟩) (by first | exact Or.inr (fun _ _ => rfl) | exact Or.inl (by unfold q_e; decide)) (fun _ _ _ => rfl)
    · unfold wp_Pr_perform
      refine pr_op ?_
      rw [ho]
      repeat first | refine bq_t (by decide) ?_ | refine bq_f (by decide) ?_
      refine pr_rs ?_
      rw [hr]
      repeat first | refine bq_t (by decide) ?_ | refine bq_f (by decide) ?_
      refine pr_rt ⟨fI_in w 16, fun t et => ?_⟩
      subst et
      unfold wp_Fu_perform
      refine fun x ex => ?_
      have ex : x = 17 := ex.trans hr
      subst ex
      repeat first | refine bq_t (by decide) ?_ | refine bq_f (by decide) ?_
      refine fun y ey => ?_
      rw [hf] at ey
      subst ey
      repeat first | refine bq_t (by decide) ?_ | refine bq_f (by decide) ?_
      exact fu_compare ha hb ea eb (fun q => absurd q he) (fun _ => hP)
    · have qa := evx (w := w) ha ea
      have qb := evx (w := w) hb eb
      rcases Classical.em (fI w 11 &&& 1 = 1) with pa | na
      · rcases Classical.em (fI w 16 &&& 1 = 1) with pb | nb
        · unfold wp_Md_operate
          rw [ho]
          repeat first | refine bq_t (by decide) ?_ | refine bq_f (by decide) ?_
          unfold wp_Md_fractions
          refine md_field H.e9 (md_field H.e9 (md_field H.e9 ?_))
          rw [hr]
          repeat first | refine bq_t (by decide) ?_ | refine bq_f (by decide) ?_
          refine fun x ex => ?_
          rw [H.e9, hf] at ex
          subst ex
          repeat first | refine bq_t (by decide) ?_ | refine bq_f (by decide) ?_
          try unfold wj_Md_fractions_170
          refine md_field H.e9 ?_
          repeat first | refine bq_t (by decide) ?_ | refine bq_f (by decide) ?_ | refine bq_f na ?_ | refine bq_f nb ?_ | refine bq_f nd ?_ | refine bq_t pa (md_ends H.e5 ?_) | refine bq_t pa (md_ends_n (show ¬ (8 : Int32) = 0 by decide) ?_) | refine bq_t pb (md_ends H.e5 ?_) | refine bq_t pb (md_ends_n (show ¬ (8 : Int32) = 0 by decide) ?_) | refine bq_t pd (md_ends H.e5 ?_) | refine bq_t pd (md_ends_n (show ¬ (8 : Int32) = 0 by decide) ?_)
          exact bq_f (show ¬ (8 : Int32) ≤ 0 by decide) hQ
        · unfold wp_Md_operate
          rw [ho]
          repeat first | refine bq_t (by decide) ?_ | refine bq_f (by decide) ?_
          unfold wp_Md_fractions
          refine md_field H.e9 (md_field H.e9 (md_field H.e9 ?_))
          rw [hr]
          repeat first | refine bq_t (by decide) ?_ | refine bq_f (by decide) ?_
          refine fun x ex => ?_
          rw [H.e9, hf] at ex
          subst ex
          repeat first | refine bq_t (by decide) ?_ | refine bq_f (by decide) ?_
          try unfold wj_Md_fractions_170
          refine md_field H.e9 ?_
          repeat first | refine bq_t (by decide) ?_ | refine bq_f (by decide) ?_ | refine bq_f na ?_ | refine bq_f nb ?_ | refine bq_f nd ?_ | refine bq_t pa (md_ends H.e5 ?_) | refine bq_t pa (md_ends_n (show ¬ (8 : Int32) = 0 by decide) ?_) | refine bq_t pb (md_ends H.e5 ?_) | refine bq_t pb (md_ends_n (show ¬ (8 : Int32) = 0 by decide) ?_) | refine bq_t pd (md_ends H.e5 ?_) | refine bq_t pd (md_ends_n (show ¬ (8 : Int32) = 0 by decide) ?_)
          exact bq_f (show ¬ (8 : Int32) ≤ 0 by decide) hQ
      · rcases Classical.em (fI w 16 &&& 1 = 1) with pb | nb
        · unfold wp_Md_operate
          rw [ho]
          repeat first | refine bq_t (by decide) ?_ | refine bq_f (by decide) ?_
          unfold wp_Md_fractions
          refine md_field H.e9 (md_field H.e9 (md_field H.e9 ?_))
          rw [hr]
          repeat first | refine bq_t (by decide) ?_ | refine bq_f (by decide) ?_
          refine fun x ex => ?_
          rw [H.e9, hf] at ex
          subst ex
          repeat first | refine bq_t (by decide) ?_ | refine bq_f (by decide) ?_
          try unfold wj_Md_fractions_170
          refine md_field H.e9 ?_
          repeat first | refine bq_t (by decide) ?_ | refine bq_f (by decide) ?_ | refine bq_f na ?_ | refine bq_f nb ?_ | refine bq_f nd ?_ | refine bq_t pa (md_ends H.e5 ?_) | refine bq_t pa (md_ends_n (show ¬ (8 : Int32) = 0 by decide) ?_) | refine bq_t pb (md_ends H.e5 ?_) | refine bq_t pb (md_ends_n (show ¬ (8 : Int32) = 0 by decide) ?_) | refine bq_t pd (md_ends H.e5 ?_) | refine bq_t pd (md_ends_n (show ¬ (8 : Int32) = 0 by decide) ?_)
          exact bq_f (show ¬ (8 : Int32) ≤ 0 by decide) hQ
        · exact absurd (⟨qa.mpr na, qb.mpr nb⟩) he

theorem i_c61_d (H : pre mn g rg hq mf cd fg w dd bm rr kt) (ho : zz_ushr w 26 = 17) (hr : fI w 21 = 17) (hf : w &&& 63 = 61) : pfx ms mn g rg hq mf cd fg w dd bm rr kt := by
  obtain ⟨a, ha, ea⟩ := fI_n w 11
  obtain ⟨b, hb, eb⟩ := fI_n w 16
  obtain ⟨d, hd, ed⟩ := fI_n w 6
  by_cases he : evn 1 a ∧ evn 1 b
  · refine pfx_fr H (rg' := rg) (cd' := cdN cd w (cmpC 1 (fbt fg 1 a) (fbt fg 1 b))) (fg' := fg) (rr' := upd rr 66 (cdN cd w (cmpC 1 (fbt fg 1 a) (fbt fg 1 b)))) (q_cd H.rel) (fun L O P hP => ?_) (fun dd l1 l2 H Q hQ => ?_)
    · unfold wp_Pr_perform
      refine pr_op ?_
      rw [ho]
      repeat first | refine bq_t (by decide) ?_ | refine bq_f (by decide) ?_
      refine pr_rs ?_
      rw [hr]
      repeat first | refine bq_t (by decide) ?_ | refine bq_f (by decide) ?_
      refine pr_rt ⟨fI_in w 16, fun t et => ?_⟩
      subst et
      unfold wp_Fu_perform
      refine fun x ex => ?_
      have ex : x = 17 := ex.trans hr
      subst ex
      repeat first | refine bq_t (by decide) ?_ | refine bq_f (by decide) ?_
      refine fun y ey => ?_
      rw [hf] at ey
      subst ey
      repeat first | refine bq_t (by decide) ?_ | refine bq_f (by decide) ?_
      exact fu_compare ha hb ea eb (fun _ L' O' => hP L' O') (fun q => absurd he q)
    · unfold wp_Md_operate
      rw [ho]
      repeat first | refine bq_t (by decide) ?_ | refine bq_f (by decide) ?_
      unfold wp_Md_fractions
      refine md_field H.e9 (md_field H.e9 (md_field H.e9 ?_))
      rw [hr]
      repeat first | refine bq_t (by decide) ?_ | refine bq_f (by decide) ?_
      have na := (evx ha ea).mp he.1
      have nb := (evx hb eb).mp he.2
      refine fun x ex => ?_
      rw [H.e9, hf] at ex
      subst ex
      repeat first | refine bq_t (by decide) ?_ | refine bq_f (by decide) ?_
      try unfold wj_Md_fractions_170
      refine md_field H.e9 ?_
      repeat first | refine bq_t (by decide) ?_ | refine bq_f (by decide) ?_ | refine bq_f na ?_ | refine bq_f nb ?_ | refine bq_f nd ?_ | refine bq_t pa (md_ends H.e5 ?_) | refine bq_t pa (md_ends_n (show ¬ (8 : Int32) = 0 by decide) ?_) | refine bq_t pb (md_ends H.e5 ?_) | refine bq_t pb (md_ends_n (show ¬ (8 : Int32) = 0 by decide) ?_) | refine bq_t pd (md_ends H.e5 ?_) | refine bq_t pd (md_ends_n (show ¬ (8 : Int32) = 0 by decide) ?_)
      refine bq_t (show dd 5 ≤ (0 : Int32) by rw [H.e5]; decide) ?_
      refine md_bits H.rel ha ea he.1 ?_
      refine bq_f (by decide) ?_
      refine md_bits H.rel hb eb he.2 ?_
      exact md_compares H (fbt_fin _ _ _) (fbt_fin _ _ _) (by rw [hf]) hQ
  · refine pfx_mk H 8 (fun L O => (g, rg, hq, mf, cd, fg, L, O)) (fun dd l1 l2 => (upd dd 5 8, l1, l2, bm, rr, kt)) (fun L O P hP => ?_) (fun dd l1 l2 H L O => ⟨oc_end (by unfold q_e; simp) H.rel H.nxt rfl (fun j _ h => pk_un h), fun Q hQ => ?_⟩) (fun _ _ _ _ => rfl) (fun _ _ _ _ _ hs => ⟨by repeat first | exact hs | apply lo_upd, rfl, rfl, rfl⟩) (by first | exact Or.inr (fun _ _ => rfl) | exact Or.inl (by unfold q_e; decide)) (fun _ _ _ => rfl)
    · unfold wp_Pr_perform
      refine pr_op ?_
      rw [ho]
      repeat first | refine bq_t (by decide) ?_ | refine bq_f (by decide) ?_
      refine pr_rs ?_
      rw [hr]
      repeat first | refine bq_t (by decide) ?_ | refine bq_f (by decide) ?_
      refine pr_rt ⟨fI_in w 16, fun t et => ?_⟩
      subst et
      unfold wp_Fu_perform
      refine fun x ex => ?_
      have ex : x = 17 := ex.trans hr
      subst ex
      repeat first | refine bq_t (by decide) ?_ | refine bq_f (by decide) ?_
      refine fun y ey => ?_
      rw [hf] at ey
      subst ey
      repeat first | refine bq_t (by decide) ?_ | refine bq_f (by decide) ?_
      exact fu_compare ha hb ea eb (fun q => absurd q he) (fun _ => hP)
    · have qa := evx (w := w) ha ea
      have qb := evx (w := w) hb eb
      rcases Classical.em (fI w 11 &&& 1 = 1) with pa | na
      · rcases Classical.em (fI w 16 &&& 1 = 1) with pb | nb
        · unfold wp_Md_operate
          rw [ho]
          repeat first | refine bq_t (by decide) ?_ | refine bq_f (by decide) ?_
          unfold wp_Md_fractions
          refine md_field H.e9 (md_field H.e9 (md_field H.e9 ?_))
          rw [hr]
          repeat first | refine bq_t (by decide) ?_ | refine bq_f (by decide) ?_
          refine fun x ex => ?_
          rw [H.e9, hf] at ex
          subst ex
          repeat first | refine bq_t (by decide) ?_ | refine bq_f (by decide) ?_
          try unfold wj_Md_fractions_170
          refine md_field H.e9 ?_
          repeat first | refine bq_t (by decide) ?_ | refine bq_f (by decide) ?_ | refine bq_f na ?_ | refine bq_f nb ?_ | refine bq_f nd ?_ | refine bq_t pa (md_ends H.e5 ?_) | refine bq_t pa (md_ends_n (show ¬ (8 : Int32) = 0 by decide) ?_) | refine bq_t pb (md_ends H.e5 ?_) | refine bq_t pb (md_ends_n (show ¬ (8 : Int32) = 0 by decide) ?_) | refine bq_t pd (md_ends H.e5 ?_) | refine bq_t pd (md_ends_n (show ¬ (8 : Int32) = 0 by decide) ?_)
          exact bq_f (show ¬ (8 : Int32) ≤ 0 by decide) hQ
        · unfold wp_Md_operate
          rw [ho]
          repeat first | refine bq_t (by decide) ?_ | refine bq_f (by decide) ?_
          unfold wp_Md_fractions
          refine md_field H.e9 (md_field H.e9 (md_field H.e9 ?_))
          rw [hr]
          repeat first | refine bq_t (by decide) ?_ | refine bq_f (by decide) ?_
          refine fun x ex => ?_
          rw [H.e9, hf] at ex
          subst ex
          repeat first | refine bq_t (by decide) ?_ | refine bq_f (by decide) ?_
          try unfold wj_Md_fractions_170
          refine md_field H.e9 ?_
          repeat first | refine bq_t (by decide) ?_ | refine bq_f (by decide) ?_ | refine bq_f na ?_ | refine bq_f nb ?_ | refine bq_f nd ?_ | refine bq_t pa (md_ends H.e5 ?_) | refine bq_t pa (md_ends_n (show ¬ (8 : Int32) = 0 by decide) ?_) | refine bq_t pb (md_ends H.e5 ?_) | refine bq_t pb (md_ends_n (show ¬ (8 : Int32) = 0 by decide) ?_) | refine bq_t pd (md_ends H.e5 ?_) | refine bq_t pd (md_ends_n (show ¬ (8 : Int32) = 0 by decide) ?_)
          exact bq_f (show ¬ (8 : Int32) ≤ 0 by decide) hQ
      · rcases Classical.em (fI w 16 &&& 1 = 1) with pb | nb
        · unfold wp_Md_operate
          rw [ho]
          repeat first | refine bq_t (by decide) ?_ | refine bq_f (by decide) ?_
          unfold wp_Md_fractions
          refine md_field H.e9 (md_field H.e9 (md_field H.e9 ?_))
          rw [hr]
          repeat first | refine bq_t (by decide) ?_ | refine bq_f (by decide) ?_
          refine fun x ex => ?_
          rw [H.e9, hf] at ex
          subst ex
          repeat first | refine bq_t (by decide) ?_ | refine bq_f (by decide) ?_
          try unfold wj_Md_fractions_170
          refine md_field H.e9 ?_
          repeat first | refine bq_t (by decide) ?_ | refine bq_f (by decide) ?_ | refine bq_f na ?_ | refine bq_f nb ?_ | refine bq_f nd ?_ | refine bq_t pa (md_ends H.e5 ?_) | refine bq_t pa (md_ends_n (show ¬ (8 : Int32) = 0 by decide) ?_) | refine bq_t pb (md_ends H.e5 ?_) | refine bq_t pb (md_ends_n (show ¬ (8 : Int32) = 0 by decide) ?_) | refine bq_t pd (md_ends H.e5 ?_) | refine bq_t pd (md_ends_n (show ¬ (8 : Int32) = 0 by decide) ?_)
          exact bq_f (show ¬ (8 : Int32) ≤ 0 by decide) hQ
        · exact absurd (⟨qa.mpr na, qb.mpr nb⟩) he

theorem i_c62_d (H : pre mn g rg hq mf cd fg w dd bm rr kt) (ho : zz_ushr w 26 = 17) (hr : fI w 21 = 17) (hf : w &&& 63 = 62) : pfx ms mn g rg hq mf cd fg w dd bm rr kt := by
  obtain ⟨a, ha, ea⟩ := fI_n w 11
  obtain ⟨b, hb, eb⟩ := fI_n w 16
  obtain ⟨d, hd, ed⟩ := fI_n w 6
  by_cases he : evn 1 a ∧ evn 1 b
  · refine pfx_fr H (rg' := rg) (cd' := cdN cd w (cmpC 1 (fbt fg 1 a) (fbt fg 1 b))) (fg' := fg) (rr' := upd rr 66 (cdN cd w (cmpC 1 (fbt fg 1 a) (fbt fg 1 b)))) (q_cd H.rel) (fun L O P hP => ?_) (fun dd l1 l2 H Q hQ => ?_)
    · unfold wp_Pr_perform
      refine pr_op ?_
      rw [ho]
      repeat first | refine bq_t (by decide) ?_ | refine bq_f (by decide) ?_
      refine pr_rs ?_
      rw [hr]
      repeat first | refine bq_t (by decide) ?_ | refine bq_f (by decide) ?_
      refine pr_rt ⟨fI_in w 16, fun t et => ?_⟩
      subst et
      unfold wp_Fu_perform
      refine fun x ex => ?_
      have ex : x = 17 := ex.trans hr
      subst ex
      repeat first | refine bq_t (by decide) ?_ | refine bq_f (by decide) ?_
      refine fun y ey => ?_
      rw [hf] at ey
      subst ey
      repeat first | refine bq_t (by decide) ?_ | refine bq_f (by decide) ?_
      exact fu_compare ha hb ea eb (fun _ L' O' => hP L' O') (fun q => absurd he q)
    · unfold wp_Md_operate
      rw [ho]
      repeat first | refine bq_t (by decide) ?_ | refine bq_f (by decide) ?_
      unfold wp_Md_fractions
      refine md_field H.e9 (md_field H.e9 (md_field H.e9 ?_))
      rw [hr]
      repeat first | refine bq_t (by decide) ?_ | refine bq_f (by decide) ?_
      have na := (evx ha ea).mp he.1
      have nb := (evx hb eb).mp he.2
      refine fun x ex => ?_
      rw [H.e9, hf] at ex
      subst ex
      repeat first | refine bq_t (by decide) ?_ | refine bq_f (by decide) ?_
      try unfold wj_Md_fractions_170
      refine md_field H.e9 ?_
      repeat first | refine bq_t (by decide) ?_ | refine bq_f (by decide) ?_ | refine bq_f na ?_ | refine bq_f nb ?_ | refine bq_f nd ?_ | refine bq_t pa (md_ends H.e5 ?_) | refine bq_t pa (md_ends_n (show ¬ (8 : Int32) = 0 by decide) ?_) | refine bq_t pb (md_ends H.e5 ?_) | refine bq_t pb (md_ends_n (show ¬ (8 : Int32) = 0 by decide) ?_) | refine bq_t pd (md_ends H.e5 ?_) | refine bq_t pd (md_ends_n (show ¬ (8 : Int32) = 0 by decide) ?_)
      refine bq_t (show dd 5 ≤ (0 : Int32) by rw [H.e5]; decide) ?_
      refine md_bits H.rel ha ea he.1 ?_
      refine bq_f (by decide) ?_
      refine md_bits H.rel hb eb he.2 ?_
      exact md_compares H (fbt_fin _ _ _) (fbt_fin _ _ _) (by rw [hf]) hQ
  · refine pfx_mk H 8 (fun L O => (g, rg, hq, mf, cd, fg, L, O)) (fun dd l1 l2 => (upd dd 5 8, l1, l2, bm, rr, kt)) (fun L O P hP => ?_) (fun dd l1 l2 H L O => ⟨oc_end (by unfold q_e; simp) H.rel H.nxt rfl (fun j _ h => pk_un h), fun Q hQ => ?_⟩) (fun _ _ _ _ => rfl) (fun _ _ _ _ _ hs => ⟨by repeat first | exact hs | apply lo_upd, rfl, rfl, rfl⟩) (by first | exact Or.inr (fun _ _ => rfl) | exact Or.inl (by unfold q_e; decide)) (fun _ _ _ => rfl)
    · unfold wp_Pr_perform
      refine pr_op ?_
      rw [ho]
      repeat first | refine bq_t (by decide) ?_ | refine bq_f (by decide) ?_
      refine pr_rs ?_
      rw [hr]
      repeat first | refine bq_t (by decide) ?_ | refine bq_f (by decide) ?_
      refine pr_rt ⟨fI_in w 16, fun t et => ?_⟩
      subst et
      unfold wp_Fu_perform
      refine fun x ex => ?_
      have ex : x = 17 := ex.trans hr
      subst ex
      repeat first | refine bq_t (by decide) ?_ | refine bq_f (by decide) ?_
      refine fun y ey => ?_
      rw [hf] at ey
      subst ey
      repeat first | refine bq_t (by decide) ?_ | refine bq_f (by decide) ?_
      exact fu_compare ha hb ea eb (fun q => absurd q he) (fun _ => hP)
    · have qa := evx (w := w) ha ea
      have qb := evx (w := w) hb eb
      rcases Classical.em (fI w 11 &&& 1 = 1) with pa | na
      · rcases Classical.em (fI w 16 &&& 1 = 1) with pb | nb
        · unfold wp_Md_operate
          rw [ho]
          repeat first | refine bq_t (by decide) ?_ | refine bq_f (by decide) ?_
          unfold wp_Md_fractions
          refine md_field H.e9 (md_field H.e9 (md_field H.e9 ?_))
          rw [hr]
          repeat first | refine bq_t (by decide) ?_ | refine bq_f (by decide) ?_
          refine fun x ex => ?_
          rw [H.e9, hf] at ex
          subst ex
          repeat first | refine bq_t (by decide) ?_ | refine bq_f (by decide) ?_
          try unfold wj_Md_fractions_170
          refine md_field H.e9 ?_
          repeat first | refine bq_t (by decide) ?_ | refine bq_f (by decide) ?_ | refine bq_f na ?_ | refine bq_f nb ?_ | refine bq_f nd ?_ | refine bq_t pa (md_ends H.e5 ?_) | refine bq_t pa (md_ends_n (show ¬ (8 : Int32) = 0 by decide) ?_) | refine bq_t pb (md_ends H.e5 ?_) | refine bq_t pb (md_ends_n (show ¬ (8 : Int32) = 0 by decide) ?_) | refine bq_t pd (md_ends H.e5 ?_) | refine bq_t pd (md_ends_n (show ¬ (8 : Int32) = 0 by decide) ?_)
          exact bq_f (show ¬ (8 : Int32) ≤ 0 by decide) hQ
        · unfold wp_Md_operate
          rw [ho]
          repeat first | refine bq_t (by decide) ?_ | refine bq_f (by decide) ?_
          unfold wp_Md_fractions
          refine md_field H.e9 (md_field H.e9 (md_field H.e9 ?_))
          rw [hr]
          repeat first | refine bq_t (by decide) ?_ | refine bq_f (by decide) ?_
          refine fun x ex => ?_
          rw [H.e9, hf] at ex
          subst ex
          repeat first | refine bq_t (by decide) ?_ | refine bq_f (by decide) ?_
          try unfold wj_Md_fractions_170
          refine md_field H.e9 ?_
          repeat first | refine bq_t (by decide) ?_ | refine bq_f (by decide) ?_ | refine bq_f na ?_ | refine bq_f nb ?_ | refine bq_f nd ?_ | refine bq_t pa (md_ends H.e5 ?_) | refine bq_t pa (md_ends_n (show ¬ (8 : Int32) = 0 by decide) ?_) | refine bq_t pb (md_ends H.e5 ?_) | refine bq_t pb (md_ends_n (show ¬ (8 : Int32) = 0 by decide) ?_) | refine bq_t pd (md_ends H.e5 ?_) | refine bq_t pd (md_ends_n (show ¬ (8 : Int32) = 0 by decide) ?_)
          exact bq_f (show ¬ (8 : Int32) ≤ 0 by decide) hQ
      · rcases Classical.em (fI w 16 &&& 1 = 1) with pb | nb
        · unfold wp_Md_operate
          rw [ho]
          repeat first | refine bq_t (by decide) ?_ | refine bq_f (by decide) ?_
          unfold wp_Md_fractions
          refine md_field H.e9 (md_field H.e9 (md_field H.e9 ?_))
          rw [hr]
          repeat first | refine bq_t (by decide) ?_ | refine bq_f (by decide) ?_
          refine fun x ex => ?_
          rw [H.e9, hf] at ex
          subst ex
          repeat first | refine bq_t (by decide) ?_ | refine bq_f (by decide) ?_
          try unfold wj_Md_fractions_170
          refine md_field H.e9 ?_
          repeat first | refine bq_t (by decide) ?_ | refine bq_f (by decide) ?_ | refine bq_f na ?_ | refine bq_f nb ?_ | refine bq_f nd ?_ | refine bq_t pa (md_ends H.e5 ?_) | refine bq_t pa (md_ends_n (show ¬ (8 : Int32) = 0 by decide) ?_) | refine bq_t pb (md_ends H.e5 ?_) | refine bq_t pb (md_ends_n (show ¬ (8 : Int32) = 0 by decide) ?_) | refine bq_t pd (md_ends H.e5 ?_) | refine bq_t pd (md_ends_n (show ¬ (8 : Int32) = 0 by decide) ?_)
          exact bq_f (show ¬ (8 : Int32) ≤ 0 by decide) hQ
        · exact absurd (⟨qa.mpr na, qb.mpr nb⟩) he

theorem i_c63_d (H : pre mn g rg hq mf cd fg w dd bm rr kt) (ho : zz_ushr w 26 = 17) (hr : fI w 21 = 17) (hf : w &&& 63 = 63) : pfx ms mn g rg hq mf cd fg w dd bm rr kt := by
  obtain ⟨a, ha, ea⟩ := fI_n w 11
  obtain ⟨b, hb, eb⟩ := fI_n w 16
  obtain ⟨d, hd, ed⟩ := fI_n w 6
  by_cases he : evn 1 a ∧ evn 1 b
  · refine pfx_fr H (rg' := rg) (cd' := cdN cd w (cmpC 1 (fbt fg 1 a) (fbt fg 1 b))) (fg' := fg) (rr' := upd rr 66 (cdN cd w (cmpC 1 (fbt fg 1 a) (fbt fg 1 b)))) (q_cd H.rel) (fun L O P hP => ?_) (fun dd l1 l2 H Q hQ => ?_)
    · unfold wp_Pr_perform
      refine pr_op ?_
      rw [ho]
      repeat first | refine bq_t (by decide) ?_ | refine bq_f (by decide) ?_
      refine pr_rs ?_
      rw [hr]
      repeat first | refine bq_t (by decide) ?_ | refine bq_f (by decide) ?_
      refine pr_rt ⟨fI_in w 16, fun t et => ?_⟩
      subst et
      unfold wp_Fu_perform
      refine fun x ex => ?_
      have ex : x = 17 := ex.trans hr
      subst ex
      repeat first | refine bq_t (by decide) ?_ | refine bq_f (by decide) ?_
      refine fun y ey => ?_
      rw [hf] at ey
      subst ey
      repeat first | refine bq_t (by decide) ?_ | refine bq_f (by decide) ?_
      exact fu_compare ha hb ea eb (fun _ L' O' => hP L' O') (fun q => absurd he q)
    · unfold wp_Md_operate
      rw [ho]
      repeat first | refine bq_t (by decide) ?_ | refine bq_f (by decide) ?_
      unfold wp_Md_fractions
      refine md_field H.e9 (md_field H.e9 (md_field H.e9 ?_))
      rw [hr]
      repeat first | refine bq_t (by decide) ?_ | refine bq_f (by decide) ?_
      have na := (evx ha ea).mp he.1
      have nb := (evx hb eb).mp he.2
      refine fun x ex => ?_
      rw [H.e9, hf] at ex
      subst ex
      repeat first | refine bq_t (by decide) ?_ | refine bq_f (by decide) ?_
      try unfold wj_Md_fractions_170
      refine md_field H.e9 ?_
      repeat first | refine bq_t (by decide) ?_ | refine bq_f (by decide) ?_ | refine bq_f na ?_ | refine bq_f nb ?_ | refine bq_f nd ?_ | refine bq_t pa (md_ends H.e5 ?_) | refine bq_t pa (md_ends_n (show ¬ (8 : Int32) = 0 by decide) ?_) | refine bq_t pb (md_ends H.e5 ?_) | refine bq_t pb (md_ends_n (show ¬ (8 : Int32) = 0 by decide) ?_) | refine bq_t pd (md_ends H.e5 ?_) | refine bq_t pd (md_ends_n (show ¬ (8 : Int32) = 0 by decide) ?_)
      refine bq_t (show dd 5 ≤ (0 : Int32) by rw [H.e5]; decide) ?_
      refine md_bits H.rel ha ea he.1 ?_
      refine bq_f (by decide) ?_
      refine md_bits H.rel hb eb he.2 ?_
      exact md_compares H (fbt_fin _ _ _) (fbt_fin _ _ _) (by rw [hf]) hQ
  · refine pfx_mk H 8 (fun L O => (g, rg, hq, mf, cd, fg, L, O)) (fun dd l1 l2 => (upd dd 5 8, l1, l2, bm, rr, kt)) (fun L O P hP => ?_) (fun dd l1 l2 H L O => ⟨oc_end (by unfold q_e; simp) H.rel H.nxt rfl (fun j _ h => pk_un h), fun Q hQ => ?_⟩) (fun _ _ _ _ => rfl) (fun _ _ _ _ _ hs => ⟨by repeat first | exact hs | apply lo_upd, rfl, rfl, rfl⟩) (by first | exact Or.inr (fun _ _ => rfl) | exact Or.inl (by unfold q_e; decide)) (fun _ _ _ => rfl)
    · unfold wp_Pr_perform
      refine pr_op ?_
      rw [ho]
      repeat first | refine bq_t (by decide) ?_ | refine bq_f (by decide) ?_
      refine pr_rs ?_
      rw [hr]
      repeat first | refine bq_t (by decide) ?_ | refine bq_f (by decide) ?_
      refine pr_rt ⟨fI_in w 16, fun t et => ?_⟩
      subst et
      unfold wp_Fu_perform
      refine fun x ex => ?_
      have ex : x = 17 := ex.trans hr
      subst ex
      repeat first | refine bq_t (by decide) ?_ | refine bq_f (by decide) ?_
      refine fun y ey => ?_
      rw [hf] at ey
      subst ey
      repeat first | refine bq_t (by decide) ?_ | refine bq_f (by decide) ?_
      exact fu_compare ha hb ea eb (fun q => absurd q he) (fun _ => hP)
    · have qa := evx (w := w) ha ea
      have qb := evx (w := w) hb eb
      rcases Classical.em (fI w 11 &&& 1 = 1) with pa | na
      · rcases Classical.em (fI w 16 &&& 1 = 1) with pb | nb
        · unfold wp_Md_operate
          rw [ho]
          repeat first | refine bq_t (by decide) ?_ | refine bq_f (by decide) ?_
          unfold wp_Md_fractions
          refine md_field H.e9 (md_field H.e9 (md_field H.e9 ?_))
          rw [hr]
          repeat first | refine bq_t (by decide) ?_ | refine bq_f (by decide) ?_
          refine fun x ex => ?_
          rw [H.e9, hf] at ex
          subst ex
          repeat first | refine bq_t (by decide) ?_ | refine bq_f (by decide) ?_
          try unfold wj_Md_fractions_170
          refine md_field H.e9 ?_
          repeat first | refine bq_t (by decide) ?_ | refine bq_f (by decide) ?_ | refine bq_f na ?_ | refine bq_f nb ?_ | refine bq_f nd ?_ | refine bq_t pa (md_ends H.e5 ?_) | refine bq_t pa (md_ends_n (show ¬ (8 : Int32) = 0 by decide) ?_) | refine bq_t pb (md_ends H.e5 ?_) | refine bq_t pb (md_ends_n (show ¬ (8 : Int32) = 0 by decide) ?_) | refine bq_t pd (md_ends H.e5 ?_) | refine bq_t pd (md_ends_n (show ¬ (8 : Int32) = 0 by decide) ?_)
          exact bq_f (show ¬ (8 : Int32) ≤ 0 by decide) hQ
        · unfold wp_Md_operate
          rw [ho]
          repeat first | refine bq_t (by decide) ?_ | refine bq_f (by decide) ?_
          unfold wp_Md_fractions
          refine md_field H.e9 (md_field H.e9 (md_field H.e9 ?_))
          rw [hr]
          repeat first | refine bq_t (by decide) ?_ | refine bq_f (by decide) ?_
          refine fun x ex => ?_
          rw [H.e9, hf] at ex
          subst ex
          repeat first | refine bq_t (by decide) ?_ | refine bq_f (by decide) ?_
          try unfold wj_Md_fractions_170
          refine md_field H.e9 ?_
          repeat first | refine bq_t (by decide) ?_ | refine bq_f (by decide) ?_ | refine bq_f na ?_ | refine bq_f nb ?_ | refine bq_f nd ?_ | refine bq_t pa (md_ends H.e5 ?_) | refine bq_t pa (md_ends_n (show ¬ (8 : Int32) = 0 by decide) ?_) | refine bq_t pb (md_ends H.e5 ?_) | refine bq_t pb (md_ends_n (show ¬ (8 : Int32) = 0 by decide) ?_) | refine bq_t pd (md_ends H.e5 ?_) | refine bq_t pd (md_ends_n (show ¬ (8 : Int32) = 0 by decide) ?_)
          exact bq_f (show ¬ (8 : Int32) ≤ 0 by decide) hQ
      · rcases Classical.em (fI w 16 &&& 1 = 1) with pb | nb
        · unfold wp_Md_operate
          rw [ho]
          repeat first | refine bq_t (by decide) ?_ | refine bq_f (by decide) ?_
          unfold wp_Md_fractions
          refine md_field H.e9 (md_field H.e9 (md_field H.e9 ?_))
          rw [hr]
          repeat first | refine bq_t (by decide) ?_ | refine bq_f (by decide) ?_
          refine fun x ex => ?_
          rw [H.e9, hf] at ex
          subst ex
          repeat first | refine bq_t (by decide) ?_ | refine bq_f (by decide) ?_
          try unfold wj_Md_fractions_170
          refine md_field H.e9 ?_
          repeat first | refine bq_t (by decide) ?_ | refine bq_f (by decide) ?_ | refine bq_f na ?_ | refine bq_f nb ?_ | refine bq_f nd ?_ | refine bq_t pa (md_ends H.e5 ?_) | refine bq_t pa (md_ends_n (show ¬ (8 : Int32) = 0 by decide) ?_) | refine bq_t pb (md_ends H.e5 ?_) | refine bq_t pb (md_ends_n (show ¬ (8 : Int32) = 0 by decide) ?_) | refine bq_t pd (md_ends H.e5 ?_) | refine bq_t pd (md_ends_n (show ¬ (8 : Int32) = 0 by decide) ?_)
          exact bq_f (show ¬ (8 : Int32) ≤ 0 by decide) hQ
        · exact absurd (⟨qa.mpr na, qb.mpr nb⟩) he

theorem i_x8_d (H : pre mn g rg hq mf cd fg w dd bm rr kt) (ho : zz_ushr w 26 = 17) (hr : fI w 21 = 17) (hf : w &&& 63 = 8) : pfx ms mn g rg hq mf cd fg w dd bm rr kt := by
  refine pfx_mk H 3 (fun L O => (g, rg, hq, mf, cd, fg, L, O)) (fun dd l1 l2 => (upd dd 5 3, l1, l2, bm, rr, kt)) (fun L O P hP => ?_) (fun dd l1 l2 H L O => ⟨oc_end (by unfold q_e; simp) H.rel H.nxt rfl (fun j _ h => pk_un h), fun Q hQ => ?_⟩) (fun _ _ _ _ => rfl) (fun _ _ _ _ _ hs => ⟨by repeat first | exact hs | apply lo_upd, rfl, rfl, rfl⟩) (by first | exact Or.inr (fun _ _ => rfl) | exact Or.inl (by unfold q_e; decide)) (fun _ _ _ => rfl)
  · unfold wp_Pr_perform
    refine pr_op ?_
    rw [ho]
    repeat first | refine bq_t (by decide) ?_ | refine bq_f (by decide) ?_
    refine pr_rs ?_
    rw [hr]
    repeat first | refine bq_t (by decide) ?_ | refine bq_f (by decide) ?_
    refine pr_rt ⟨fI_in w 16, fun t et => ?_⟩
    subst et
    unfold wp_Fu_perform
    refine fun x ex => ?_
    have ex : x = 17 := ex.trans hr
    subst ex
    repeat first | refine bq_t (by decide) ?_ | refine bq_f (by decide) ?_
    refine fun y ey => ?_
    rw [hf] at ey
    subst ey
    repeat first | refine bq_t (by decide) ?_ | refine bq_f (by decide) ?_
    exact hP
  · unfold wp_Md_operate
    rw [ho]
    repeat first | refine bq_t (by decide) ?_ | refine bq_f (by decide) ?_
    unfold wp_Md_fractions
    refine md_field H.e9 (md_field H.e9 (md_field H.e9 ?_))
    rw [hr]
    repeat first | refine bq_t (by decide) ?_ | refine bq_f (by decide) ?_
    refine fun x ex => ?_
    rw [H.e9, hf] at ex
    subst ex
    repeat first | refine bq_t (by decide) ?_ | refine bq_f (by decide) ?_
    try unfold wj_Md_fractions_170
    refine md_field H.e9 ?_
    repeat first | refine bq_t (by decide) ?_ | refine bq_f (by decide) ?_ | refine bq_f na ?_ | refine bq_f nb ?_ | refine bq_f nd ?_ | refine bq_t pa (md_ends H.e5 ?_) | refine bq_t pa (md_ends_n (show ¬ (8 : Int32) = 0 by decide) ?_) | refine bq_t pb (md_ends H.e5 ?_) | refine bq_t pb (md_ends_n (show ¬ (8 : Int32) = 0 by decide) ?_) | refine bq_t pd (md_ends H.e5 ?_) | refine bq_t pd (md_ends_n (show ¬ (8 : Int32) = 0 by decide) ?_)
    exact md_ends H.e5 hQ

theorem i_x9_d (H : pre mn g rg hq mf cd fg w dd bm rr kt) (ho : zz_ushr w 26 = 17) (hr : fI w 21 = 17) (hf : w &&& 63 = 9) : pfx ms mn g rg hq mf cd fg w dd bm rr kt := by
  refine pfx_mk H 3 (fun L O => (g, rg, hq, mf, cd, fg, L, O)) (fun dd l1 l2 => (upd dd 5 3, l1, l2, bm, rr, kt)) (fun L O P hP => ?_) (fun dd l1 l2 H L O => ⟨oc_end (by unfold q_e; simp) H.rel H.nxt rfl (fun j _ h => pk_un h), fun Q hQ => ?_⟩) (fun _ _ _ _ => rfl) (fun _ _ _ _ _ hs => ⟨by repeat first | exact hs | apply lo_upd, rfl, rfl, rfl⟩) (by first | exact Or.inr (fun _ _ => rfl) | exact Or.inl (by unfold q_e; decide)) (fun _ _ _ => rfl)
  · unfold wp_Pr_perform
    refine pr_op ?_
    rw [ho]
    repeat first | refine bq_t (by decide) ?_ | refine bq_f (by decide) ?_
    refine pr_rs ?_
    rw [hr]
    repeat first | refine bq_t (by decide) ?_ | refine bq_f (by decide) ?_
    refine pr_rt ⟨fI_in w 16, fun t et => ?_⟩
    subst et
    unfold wp_Fu_perform
    refine fun x ex => ?_
    have ex : x = 17 := ex.trans hr
    subst ex
    repeat first | refine bq_t (by decide) ?_ | refine bq_f (by decide) ?_
    refine fun y ey => ?_
    rw [hf] at ey
    subst ey
    repeat first | refine bq_t (by decide) ?_ | refine bq_f (by decide) ?_
    exact hP
  · unfold wp_Md_operate
    rw [ho]
    repeat first | refine bq_t (by decide) ?_ | refine bq_f (by decide) ?_
    unfold wp_Md_fractions
    refine md_field H.e9 (md_field H.e9 (md_field H.e9 ?_))
    rw [hr]
    repeat first | refine bq_t (by decide) ?_ | refine bq_f (by decide) ?_
    refine fun x ex => ?_
    rw [H.e9, hf] at ex
    subst ex
    repeat first | refine bq_t (by decide) ?_ | refine bq_f (by decide) ?_
    try unfold wj_Md_fractions_170
    refine md_field H.e9 ?_
    repeat first | refine bq_t (by decide) ?_ | refine bq_f (by decide) ?_ | refine bq_f na ?_ | refine bq_f nb ?_ | refine bq_f nd ?_ | refine bq_t pa (md_ends H.e5 ?_) | refine bq_t pa (md_ends_n (show ¬ (8 : Int32) = 0 by decide) ?_) | refine bq_t pb (md_ends H.e5 ?_) | refine bq_t pb (md_ends_n (show ¬ (8 : Int32) = 0 by decide) ?_) | refine bq_t pd (md_ends H.e5 ?_) | refine bq_t pd (md_ends_n (show ¬ (8 : Int32) = 0 by decide) ?_)
    exact md_ends H.e5 hQ

theorem i_x10_d (H : pre mn g rg hq mf cd fg w dd bm rr kt) (ho : zz_ushr w 26 = 17) (hr : fI w 21 = 17) (hf : w &&& 63 = 10) : pfx ms mn g rg hq mf cd fg w dd bm rr kt := by
  refine pfx_mk H 3 (fun L O => (g, rg, hq, mf, cd, fg, L, O)) (fun dd l1 l2 => (upd dd 5 3, l1, l2, bm, rr, kt)) (fun L O P hP => ?_) (fun dd l1 l2 H L O => ⟨oc_end (by unfold q_e; simp) H.rel H.nxt rfl (fun j _ h => pk_un h), fun Q hQ => ?_⟩) (fun _ _ _ _ => rfl) (fun _ _ _ _ _ hs => ⟨by repeat first | exact hs | apply lo_upd, rfl, rfl, rfl⟩) (by first | exact Or.inr (fun _ _ => rfl) | exact Or.inl (by unfold q_e; decide)) (fun _ _ _ => rfl)
  · unfold wp_Pr_perform
    refine pr_op ?_
    rw [ho]
    repeat first | refine bq_t (by decide) ?_ | refine bq_f (by decide) ?_
    refine pr_rs ?_
    rw [hr]
    repeat first | refine bq_t (by decide) ?_ | refine bq_f (by decide) ?_
    refine pr_rt ⟨fI_in w 16, fun t et => ?_⟩
    subst et
    unfold wp_Fu_perform
    refine fun x ex => ?_
    have ex : x = 17 := ex.trans hr
    subst ex
    repeat first | refine bq_t (by decide) ?_ | refine bq_f (by decide) ?_
    refine fun y ey => ?_
    rw [hf] at ey
    subst ey
    repeat first | refine bq_t (by decide) ?_ | refine bq_f (by decide) ?_
    exact hP
  · unfold wp_Md_operate
    rw [ho]
    repeat first | refine bq_t (by decide) ?_ | refine bq_f (by decide) ?_
    unfold wp_Md_fractions
    refine md_field H.e9 (md_field H.e9 (md_field H.e9 ?_))
    rw [hr]
    repeat first | refine bq_t (by decide) ?_ | refine bq_f (by decide) ?_
    refine fun x ex => ?_
    rw [H.e9, hf] at ex
    subst ex
    repeat first | refine bq_t (by decide) ?_ | refine bq_f (by decide) ?_
    try unfold wj_Md_fractions_170
    refine md_field H.e9 ?_
    repeat first | refine bq_t (by decide) ?_ | refine bq_f (by decide) ?_ | refine bq_f na ?_ | refine bq_f nb ?_ | refine bq_f nd ?_ | refine bq_t pa (md_ends H.e5 ?_) | refine bq_t pa (md_ends_n (show ¬ (8 : Int32) = 0 by decide) ?_) | refine bq_t pb (md_ends H.e5 ?_) | refine bq_t pb (md_ends_n (show ¬ (8 : Int32) = 0 by decide) ?_) | refine bq_t pd (md_ends H.e5 ?_) | refine bq_t pd (md_ends_n (show ¬ (8 : Int32) = 0 by decide) ?_)
    exact md_ends H.e5 hQ

theorem i_x11_d (H : pre mn g rg hq mf cd fg w dd bm rr kt) (ho : zz_ushr w 26 = 17) (hr : fI w 21 = 17) (hf : w &&& 63 = 11) : pfx ms mn g rg hq mf cd fg w dd bm rr kt := by
  refine pfx_mk H 3 (fun L O => (g, rg, hq, mf, cd, fg, L, O)) (fun dd l1 l2 => (upd dd 5 3, l1, l2, bm, rr, kt)) (fun L O P hP => ?_) (fun dd l1 l2 H L O => ⟨oc_end (by unfold q_e; simp) H.rel H.nxt rfl (fun j _ h => pk_un h), fun Q hQ => ?_⟩) (fun _ _ _ _ => rfl) (fun _ _ _ _ _ hs => ⟨by repeat first | exact hs | apply lo_upd, rfl, rfl, rfl⟩) (by first | exact Or.inr (fun _ _ => rfl) | exact Or.inl (by unfold q_e; decide)) (fun _ _ _ => rfl)
  · unfold wp_Pr_perform
    refine pr_op ?_
    rw [ho]
    repeat first | refine bq_t (by decide) ?_ | refine bq_f (by decide) ?_
    refine pr_rs ?_
    rw [hr]
    repeat first | refine bq_t (by decide) ?_ | refine bq_f (by decide) ?_
    refine pr_rt ⟨fI_in w 16, fun t et => ?_⟩
    subst et
    unfold wp_Fu_perform
    refine fun x ex => ?_
    have ex : x = 17 := ex.trans hr
    subst ex
    repeat first | refine bq_t (by decide) ?_ | refine bq_f (by decide) ?_
    refine fun y ey => ?_
    rw [hf] at ey
    subst ey
    repeat first | refine bq_t (by decide) ?_ | refine bq_f (by decide) ?_
    exact hP
  · unfold wp_Md_operate
    rw [ho]
    repeat first | refine bq_t (by decide) ?_ | refine bq_f (by decide) ?_
    unfold wp_Md_fractions
    refine md_field H.e9 (md_field H.e9 (md_field H.e9 ?_))
    rw [hr]
    repeat first | refine bq_t (by decide) ?_ | refine bq_f (by decide) ?_
    refine fun x ex => ?_
    rw [H.e9, hf] at ex
    subst ex
    repeat first | refine bq_t (by decide) ?_ | refine bq_f (by decide) ?_
    try unfold wj_Md_fractions_170
    refine md_field H.e9 ?_
    repeat first | refine bq_t (by decide) ?_ | refine bq_f (by decide) ?_ | refine bq_f na ?_ | refine bq_f nb ?_ | refine bq_f nd ?_ | refine bq_t pa (md_ends H.e5 ?_) | refine bq_t pa (md_ends_n (show ¬ (8 : Int32) = 0 by decide) ?_) | refine bq_t pb (md_ends H.e5 ?_) | refine bq_t pb (md_ends_n (show ¬ (8 : Int32) = 0 by decide) ?_) | refine bq_t pd (md_ends H.e5 ?_) | refine bq_t pd (md_ends_n (show ¬ (8 : Int32) = 0 by decide) ?_)
    exact md_ends H.e5 hQ

theorem i_x16_d (H : pre mn g rg hq mf cd fg w dd bm rr kt) (ho : zz_ushr w 26 = 17) (hr : fI w 21 = 17) (hf : w &&& 63 = 16) : pfx ms mn g rg hq mf cd fg w dd bm rr kt := by
  refine pfx_mk H 3 (fun L O => (g, rg, hq, mf, cd, fg, L, O)) (fun dd l1 l2 => (upd dd 5 3, l1, l2, bm, rr, kt)) (fun L O P hP => ?_) (fun dd l1 l2 H L O => ⟨oc_end (by unfold q_e; simp) H.rel H.nxt rfl (fun j _ h => pk_un h), fun Q hQ => ?_⟩) (fun _ _ _ _ => rfl) (fun _ _ _ _ _ hs => ⟨by repeat first | exact hs | apply lo_upd, rfl, rfl, rfl⟩) (by first | exact Or.inr (fun _ _ => rfl) | exact Or.inl (by unfold q_e; decide)) (fun _ _ _ => rfl)
  · unfold wp_Pr_perform
    refine pr_op ?_
    rw [ho]
    repeat first | refine bq_t (by decide) ?_ | refine bq_f (by decide) ?_
    refine pr_rs ?_
    rw [hr]
    repeat first | refine bq_t (by decide) ?_ | refine bq_f (by decide) ?_
    refine pr_rt ⟨fI_in w 16, fun t et => ?_⟩
    subst et
    unfold wp_Fu_perform
    refine fun x ex => ?_
    have ex : x = 17 := ex.trans hr
    subst ex
    repeat first | refine bq_t (by decide) ?_ | refine bq_f (by decide) ?_
    refine fun y ey => ?_
    rw [hf] at ey
    subst ey
    repeat first | refine bq_t (by decide) ?_ | refine bq_f (by decide) ?_
    exact hP
  · unfold wp_Md_operate
    rw [ho]
    repeat first | refine bq_t (by decide) ?_ | refine bq_f (by decide) ?_
    unfold wp_Md_fractions
    refine md_field H.e9 (md_field H.e9 (md_field H.e9 ?_))
    rw [hr]
    repeat first | refine bq_t (by decide) ?_ | refine bq_f (by decide) ?_
    refine fun x ex => ?_
    rw [H.e9, hf] at ex
    subst ex
    repeat first | refine bq_t (by decide) ?_ | refine bq_f (by decide) ?_
    try unfold wj_Md_fractions_170
    refine md_field H.e9 ?_
    repeat first | refine bq_t (by decide) ?_ | refine bq_f (by decide) ?_ | refine bq_f na ?_ | refine bq_f nb ?_ | refine bq_f nd ?_ | refine bq_t pa (md_ends H.e5 ?_) | refine bq_t pa (md_ends_n (show ¬ (8 : Int32) = 0 by decide) ?_) | refine bq_t pb (md_ends H.e5 ?_) | refine bq_t pb (md_ends_n (show ¬ (8 : Int32) = 0 by decide) ?_) | refine bq_t pd (md_ends H.e5 ?_) | refine bq_t pd (md_ends_n (show ¬ (8 : Int32) = 0 by decide) ?_)
    exact md_ends H.e5 hQ

theorem i_x20_d (H : pre mn g rg hq mf cd fg w dd bm rr kt) (ho : zz_ushr w 26 = 17) (hr : fI w 21 = 17) (hf : w &&& 63 = 20) : pfx ms mn g rg hq mf cd fg w dd bm rr kt := by
  refine pfx_mk H 3 (fun L O => (g, rg, hq, mf, cd, fg, L, O)) (fun dd l1 l2 => (upd dd 5 3, l1, l2, bm, rr, kt)) (fun L O P hP => ?_) (fun dd l1 l2 H L O => ⟨oc_end (by unfold q_e; simp) H.rel H.nxt rfl (fun j _ h => pk_un h), fun Q hQ => ?_⟩) (fun _ _ _ _ => rfl) (fun _ _ _ _ _ hs => ⟨by repeat first | exact hs | apply lo_upd, rfl, rfl, rfl⟩) (by first | exact Or.inr (fun _ _ => rfl) | exact Or.inl (by unfold q_e; decide)) (fun _ _ _ => rfl)
  · unfold wp_Pr_perform
    refine pr_op ?_
    rw [ho]
    repeat first | refine bq_t (by decide) ?_ | refine bq_f (by decide) ?_
    refine pr_rs ?_
    rw [hr]
    repeat first | refine bq_t (by decide) ?_ | refine bq_f (by decide) ?_
    refine pr_rt ⟨fI_in w 16, fun t et => ?_⟩
    subst et
    unfold wp_Fu_perform
    refine fun x ex => ?_
    have ex : x = 17 := ex.trans hr
    subst ex
    repeat first | refine bq_t (by decide) ?_ | refine bq_f (by decide) ?_
    refine fun y ey => ?_
    rw [hf] at ey
    subst ey
    repeat first | refine bq_t (by decide) ?_ | refine bq_f (by decide) ?_
    exact hP
  · unfold wp_Md_operate
    rw [ho]
    repeat first | refine bq_t (by decide) ?_ | refine bq_f (by decide) ?_
    unfold wp_Md_fractions
    refine md_field H.e9 (md_field H.e9 (md_field H.e9 ?_))
    rw [hr]
    repeat first | refine bq_t (by decide) ?_ | refine bq_f (by decide) ?_
    refine fun x ex => ?_
    rw [H.e9, hf] at ex
    subst ex
    repeat first | refine bq_t (by decide) ?_ | refine bq_f (by decide) ?_
    try unfold wj_Md_fractions_170
    refine md_field H.e9 ?_
    repeat first | refine bq_t (by decide) ?_ | refine bq_f (by decide) ?_ | refine bq_f na ?_ | refine bq_f nb ?_ | refine bq_f nd ?_ | refine bq_t pa (md_ends H.e5 ?_) | refine bq_t pa (md_ends_n (show ¬ (8 : Int32) = 0 by decide) ?_) | refine bq_t pb (md_ends H.e5 ?_) | refine bq_t pb (md_ends_n (show ¬ (8 : Int32) = 0 by decide) ?_) | refine bq_t pd (md_ends H.e5 ?_) | refine bq_t pd (md_ends_n (show ¬ (8 : Int32) = 0 by decide) ?_)
    exact md_ends H.e5 hQ

theorem i_x21_d (H : pre mn g rg hq mf cd fg w dd bm rr kt) (ho : zz_ushr w 26 = 17) (hr : fI w 21 = 17) (hf : w &&& 63 = 21) : pfx ms mn g rg hq mf cd fg w dd bm rr kt := by
  refine pfx_mk H 3 (fun L O => (g, rg, hq, mf, cd, fg, L, O)) (fun dd l1 l2 => (upd dd 5 3, l1, l2, bm, rr, kt)) (fun L O P hP => ?_) (fun dd l1 l2 H L O => ⟨oc_end (by unfold q_e; simp) H.rel H.nxt rfl (fun j _ h => pk_un h), fun Q hQ => ?_⟩) (fun _ _ _ _ => rfl) (fun _ _ _ _ _ hs => ⟨by repeat first | exact hs | apply lo_upd, rfl, rfl, rfl⟩) (by first | exact Or.inr (fun _ _ => rfl) | exact Or.inl (by unfold q_e; decide)) (fun _ _ _ => rfl)
  · unfold wp_Pr_perform
    refine pr_op ?_
    rw [ho]
    repeat first | refine bq_t (by decide) ?_ | refine bq_f (by decide) ?_
    refine pr_rs ?_
    rw [hr]
    repeat first | refine bq_t (by decide) ?_ | refine bq_f (by decide) ?_
    refine pr_rt ⟨fI_in w 16, fun t et => ?_⟩
    subst et
    unfold wp_Fu_perform
    refine fun x ex => ?_
    have ex : x = 17 := ex.trans hr
    subst ex
    repeat first | refine bq_t (by decide) ?_ | refine bq_f (by decide) ?_
    refine fun y ey => ?_
    rw [hf] at ey
    subst ey
    repeat first | refine bq_t (by decide) ?_ | refine bq_f (by decide) ?_
    exact hP
  · unfold wp_Md_operate
    rw [ho]
    repeat first | refine bq_t (by decide) ?_ | refine bq_f (by decide) ?_
    unfold wp_Md_fractions
    refine md_field H.e9 (md_field H.e9 (md_field H.e9 ?_))
    rw [hr]
    repeat first | refine bq_t (by decide) ?_ | refine bq_f (by decide) ?_
    refine fun x ex => ?_
    rw [H.e9, hf] at ex
    subst ex
    repeat first | refine bq_t (by decide) ?_ | refine bq_f (by decide) ?_
    try unfold wj_Md_fractions_170
    refine md_field H.e9 ?_
    repeat first | refine bq_t (by decide) ?_ | refine bq_f (by decide) ?_ | refine bq_f na ?_ | refine bq_f nb ?_ | refine bq_f nd ?_ | refine bq_t pa (md_ends H.e5 ?_) | refine bq_t pa (md_ends_n (show ¬ (8 : Int32) = 0 by decide) ?_) | refine bq_t pb (md_ends H.e5 ?_) | refine bq_t pb (md_ends_n (show ¬ (8 : Int32) = 0 by decide) ?_) | refine bq_t pd (md_ends H.e5 ?_) | refine bq_t pd (md_ends_n (show ¬ (8 : Int32) = 0 by decide) ?_)
    exact md_ends H.e5 hQ

theorem i_x22_d (H : pre mn g rg hq mf cd fg w dd bm rr kt) (ho : zz_ushr w 26 = 17) (hr : fI w 21 = 17) (hf : w &&& 63 = 22) : pfx ms mn g rg hq mf cd fg w dd bm rr kt := by
  refine pfx_mk H 3 (fun L O => (g, rg, hq, mf, cd, fg, L, O)) (fun dd l1 l2 => (upd dd 5 3, l1, l2, bm, rr, kt)) (fun L O P hP => ?_) (fun dd l1 l2 H L O => ⟨oc_end (by unfold q_e; simp) H.rel H.nxt rfl (fun j _ h => pk_un h), fun Q hQ => ?_⟩) (fun _ _ _ _ => rfl) (fun _ _ _ _ _ hs => ⟨by repeat first | exact hs | apply lo_upd, rfl, rfl, rfl⟩) (by first | exact Or.inr (fun _ _ => rfl) | exact Or.inl (by unfold q_e; decide)) (fun _ _ _ => rfl)
  · unfold wp_Pr_perform
    refine pr_op ?_
    rw [ho]
    repeat first | refine bq_t (by decide) ?_ | refine bq_f (by decide) ?_
    refine pr_rs ?_
    rw [hr]
    repeat first | refine bq_t (by decide) ?_ | refine bq_f (by decide) ?_
    refine pr_rt ⟨fI_in w 16, fun t et => ?_⟩
    subst et
    unfold wp_Fu_perform
    refine fun x ex => ?_
    have ex : x = 17 := ex.trans hr
    subst ex
    repeat first | refine bq_t (by decide) ?_ | refine bq_f (by decide) ?_
    refine fun y ey => ?_
    rw [hf] at ey
    subst ey
    repeat first | refine bq_t (by decide) ?_ | refine bq_f (by decide) ?_
    exact hP
  · unfold wp_Md_operate
    rw [ho]
    repeat first | refine bq_t (by decide) ?_ | refine bq_f (by decide) ?_
    unfold wp_Md_fractions
    refine md_field H.e9 (md_field H.e9 (md_field H.e9 ?_))
    rw [hr]
    repeat first | refine bq_t (by decide) ?_ | refine bq_f (by decide) ?_
    refine fun x ex => ?_
    rw [H.e9, hf] at ex
    subst ex
    repeat first | refine bq_t (by decide) ?_ | refine bq_f (by decide) ?_
    try unfold wj_Md_fractions_170
    refine md_field H.e9 ?_
    repeat first | refine bq_t (by decide) ?_ | refine bq_f (by decide) ?_ | refine bq_f na ?_ | refine bq_f nb ?_ | refine bq_f nd ?_ | refine bq_t pa (md_ends H.e5 ?_) | refine bq_t pa (md_ends_n (show ¬ (8 : Int32) = 0 by decide) ?_) | refine bq_t pb (md_ends H.e5 ?_) | refine bq_t pb (md_ends_n (show ¬ (8 : Int32) = 0 by decide) ?_) | refine bq_t pd (md_ends H.e5 ?_) | refine bq_t pd (md_ends_n (show ¬ (8 : Int32) = 0 by decide) ?_)
    exact md_ends H.e5 hQ

theorem i_x23_d (H : pre mn g rg hq mf cd fg w dd bm rr kt) (ho : zz_ushr w 26 = 17) (hr : fI w 21 = 17) (hf : w &&& 63 = 23) : pfx ms mn g rg hq mf cd fg w dd bm rr kt := by
  refine pfx_mk H 3 (fun L O => (g, rg, hq, mf, cd, fg, L, O)) (fun dd l1 l2 => (upd dd 5 3, l1, l2, bm, rr, kt)) (fun L O P hP => ?_) (fun dd l1 l2 H L O => ⟨oc_end (by unfold q_e; simp) H.rel H.nxt rfl (fun j _ h => pk_un h), fun Q hQ => ?_⟩) (fun _ _ _ _ => rfl) (fun _ _ _ _ _ hs => ⟨by repeat first | exact hs | apply lo_upd, rfl, rfl, rfl⟩) (by first | exact Or.inr (fun _ _ => rfl) | exact Or.inl (by unfold q_e; decide)) (fun _ _ _ => rfl)
  · unfold wp_Pr_perform
    refine pr_op ?_
    rw [ho]
    repeat first | refine bq_t (by decide) ?_ | refine bq_f (by decide) ?_
    refine pr_rs ?_
    rw [hr]
    repeat first | refine bq_t (by decide) ?_ | refine bq_f (by decide) ?_
    refine pr_rt ⟨fI_in w 16, fun t et => ?_⟩
    subst et
    unfold wp_Fu_perform
    refine fun x ex => ?_
    have ex : x = 17 := ex.trans hr
    subst ex
    repeat first | refine bq_t (by decide) ?_ | refine bq_f (by decide) ?_
    refine fun y ey => ?_
    rw [hf] at ey
    subst ey
    repeat first | refine bq_t (by decide) ?_ | refine bq_f (by decide) ?_
    exact hP
  · unfold wp_Md_operate
    rw [ho]
    repeat first | refine bq_t (by decide) ?_ | refine bq_f (by decide) ?_
    unfold wp_Md_fractions
    refine md_field H.e9 (md_field H.e9 (md_field H.e9 ?_))
    rw [hr]
    repeat first | refine bq_t (by decide) ?_ | refine bq_f (by decide) ?_
    refine fun x ex => ?_
    rw [H.e9, hf] at ex
    subst ex
    repeat first | refine bq_t (by decide) ?_ | refine bq_f (by decide) ?_
    try unfold wj_Md_fractions_170
    refine md_field H.e9 ?_
    repeat first | refine bq_t (by decide) ?_ | refine bq_f (by decide) ?_ | refine bq_f na ?_ | refine bq_f nb ?_ | refine bq_f nd ?_ | refine bq_t pa (md_ends H.e5 ?_) | refine bq_t pa (md_ends_n (show ¬ (8 : Int32) = 0 by decide) ?_) | refine bq_t pb (md_ends H.e5 ?_) | refine bq_t pb (md_ends_n (show ¬ (8 : Int32) = 0 by decide) ?_) | refine bq_t pd (md_ends H.e5 ?_) | refine bq_t pd (md_ends_n (show ¬ (8 : Int32) = 0 by decide) ?_)
    exact md_ends H.e5 hQ

theorem i_x24_d (H : pre mn g rg hq mf cd fg w dd bm rr kt) (ho : zz_ushr w 26 = 17) (hr : fI w 21 = 17) (hf : w &&& 63 = 24) : pfx ms mn g rg hq mf cd fg w dd bm rr kt := by
  refine pfx_mk H 3 (fun L O => (g, rg, hq, mf, cd, fg, L, O)) (fun dd l1 l2 => (upd dd 5 3, l1, l2, bm, rr, kt)) (fun L O P hP => ?_) (fun dd l1 l2 H L O => ⟨oc_end (by unfold q_e; simp) H.rel H.nxt rfl (fun j _ h => pk_un h), fun Q hQ => ?_⟩) (fun _ _ _ _ => rfl) (fun _ _ _ _ _ hs => ⟨by repeat first | exact hs | apply lo_upd, rfl, rfl, rfl⟩) (by first | exact Or.inr (fun _ _ => rfl) | exact Or.inl (by unfold q_e; decide)) (fun _ _ _ => rfl)
  · unfold wp_Pr_perform
    refine pr_op ?_
    rw [ho]
    repeat first | refine bq_t (by decide) ?_ | refine bq_f (by decide) ?_
    refine pr_rs ?_
    rw [hr]
    repeat first | refine bq_t (by decide) ?_ | refine bq_f (by decide) ?_
    refine pr_rt ⟨fI_in w 16, fun t et => ?_⟩
    subst et
    unfold wp_Fu_perform
    refine fun x ex => ?_
    have ex : x = 17 := ex.trans hr
    subst ex
    repeat first | refine bq_t (by decide) ?_ | refine bq_f (by decide) ?_
    refine fun y ey => ?_
    rw [hf] at ey
    subst ey
    repeat first | refine bq_t (by decide) ?_ | refine bq_f (by decide) ?_
    exact hP
  · unfold wp_Md_operate
    rw [ho]
    repeat first | refine bq_t (by decide) ?_ | refine bq_f (by decide) ?_
    unfold wp_Md_fractions
    refine md_field H.e9 (md_field H.e9 (md_field H.e9 ?_))
    rw [hr]
    repeat first | refine bq_t (by decide) ?_ | refine bq_f (by decide) ?_
    refine fun x ex => ?_
    rw [H.e9, hf] at ex
    subst ex
    repeat first | refine bq_t (by decide) ?_ | refine bq_f (by decide) ?_
    try unfold wj_Md_fractions_170
    refine md_field H.e9 ?_
    repeat first | refine bq_t (by decide) ?_ | refine bq_f (by decide) ?_ | refine bq_f na ?_ | refine bq_f nb ?_ | refine bq_f nd ?_ | refine bq_t pa (md_ends H.e5 ?_) | refine bq_t pa (md_ends_n (show ¬ (8 : Int32) = 0 by decide) ?_) | refine bq_t pb (md_ends H.e5 ?_) | refine bq_t pb (md_ends_n (show ¬ (8 : Int32) = 0 by decide) ?_) | refine bq_t pd (md_ends H.e5 ?_) | refine bq_t pd (md_ends_n (show ¬ (8 : Int32) = 0 by decide) ?_)
    exact md_ends H.e5 hQ

theorem i_x25_d (H : pre mn g rg hq mf cd fg w dd bm rr kt) (ho : zz_ushr w 26 = 17) (hr : fI w 21 = 17) (hf : w &&& 63 = 25) : pfx ms mn g rg hq mf cd fg w dd bm rr kt := by
  refine pfx_mk H 3 (fun L O => (g, rg, hq, mf, cd, fg, L, O)) (fun dd l1 l2 => (upd dd 5 3, l1, l2, bm, rr, kt)) (fun L O P hP => ?_) (fun dd l1 l2 H L O => ⟨oc_end (by unfold q_e; simp) H.rel H.nxt rfl (fun j _ h => pk_un h), fun Q hQ => ?_⟩) (fun _ _ _ _ => rfl) (fun _ _ _ _ _ hs => ⟨by repeat first | exact hs | apply lo_upd, rfl, rfl, rfl⟩) (by first | exact Or.inr (fun _ _ => rfl) | exact Or.inl (by unfold q_e; decide)) (fun _ _ _ => rfl)
  · unfold wp_Pr_perform
    refine pr_op ?_
    rw [ho]
    repeat first | refine bq_t (by decide) ?_ | refine bq_f (by decide) ?_
    refine pr_rs ?_
    rw [hr]
    repeat first | refine bq_t (by decide) ?_ | refine bq_f (by decide) ?_
    refine pr_rt ⟨fI_in w 16, fun t et => ?_⟩
    subst et
    unfold wp_Fu_perform
    refine fun x ex => ?_
    have ex : x = 17 := ex.trans hr
    subst ex
    repeat first | refine bq_t (by decide) ?_ | refine bq_f (by decide) ?_
    refine fun y ey => ?_
    rw [hf] at ey
    subst ey
    repeat first | refine bq_t (by decide) ?_ | refine bq_f (by decide) ?_
    exact hP
  · unfold wp_Md_operate
    rw [ho]
    repeat first | refine bq_t (by decide) ?_ | refine bq_f (by decide) ?_
    unfold wp_Md_fractions
    refine md_field H.e9 (md_field H.e9 (md_field H.e9 ?_))
    rw [hr]
    repeat first | refine bq_t (by decide) ?_ | refine bq_f (by decide) ?_
    refine fun x ex => ?_
    rw [H.e9, hf] at ex
    subst ex
    repeat first | refine bq_t (by decide) ?_ | refine bq_f (by decide) ?_
    try unfold wj_Md_fractions_170
    refine md_field H.e9 ?_
    repeat first | refine bq_t (by decide) ?_ | refine bq_f (by decide) ?_ | refine bq_f na ?_ | refine bq_f nb ?_ | refine bq_f nd ?_ | refine bq_t pa (md_ends H.e5 ?_) | refine bq_t pa (md_ends_n (show ¬ (8 : Int32) = 0 by decide) ?_) | refine bq_t pb (md_ends H.e5 ?_) | refine bq_t pb (md_ends_n (show ¬ (8 : Int32) = 0 by decide) ?_) | refine bq_t pd (md_ends H.e5 ?_) | refine bq_t pd (md_ends_n (show ¬ (8 : Int32) = 0 by decide) ?_)
    exact md_ends H.e5 hQ

theorem i_x26_d (H : pre mn g rg hq mf cd fg w dd bm rr kt) (ho : zz_ushr w 26 = 17) (hr : fI w 21 = 17) (hf : w &&& 63 = 26) : pfx ms mn g rg hq mf cd fg w dd bm rr kt := by
  refine pfx_mk H 3 (fun L O => (g, rg, hq, mf, cd, fg, L, O)) (fun dd l1 l2 => (upd dd 5 3, l1, l2, bm, rr, kt)) (fun L O P hP => ?_) (fun dd l1 l2 H L O => ⟨oc_end (by unfold q_e; simp) H.rel H.nxt rfl (fun j _ h => pk_un h), fun Q hQ => ?_⟩) (fun _ _ _ _ => rfl) (fun _ _ _ _ _ hs => ⟨by repeat first | exact hs | apply lo_upd, rfl, rfl, rfl⟩) (by first | exact Or.inr (fun _ _ => rfl) | exact Or.inl (by unfold q_e; decide)) (fun _ _ _ => rfl)
  · unfold wp_Pr_perform
    refine pr_op ?_
    rw [ho]
    repeat first | refine bq_t (by decide) ?_ | refine bq_f (by decide) ?_
    refine pr_rs ?_
    rw [hr]
    repeat first | refine bq_t (by decide) ?_ | refine bq_f (by decide) ?_
    refine pr_rt ⟨fI_in w 16, fun t et => ?_⟩
    subst et
    unfold wp_Fu_perform
    refine fun x ex => ?_
    have ex : x = 17 := ex.trans hr
    subst ex
    repeat first | refine bq_t (by decide) ?_ | refine bq_f (by decide) ?_
    refine fun y ey => ?_
    rw [hf] at ey
    subst ey
    repeat first | refine bq_t (by decide) ?_ | refine bq_f (by decide) ?_
    exact hP
  · unfold wp_Md_operate
    rw [ho]
    repeat first | refine bq_t (by decide) ?_ | refine bq_f (by decide) ?_
    unfold wp_Md_fractions
    refine md_field H.e9 (md_field H.e9 (md_field H.e9 ?_))
    rw [hr]
    repeat first | refine bq_t (by decide) ?_ | refine bq_f (by decide) ?_
    refine fun x ex => ?_
    rw [H.e9, hf] at ex
    subst ex
    repeat first | refine bq_t (by decide) ?_ | refine bq_f (by decide) ?_
    try unfold wj_Md_fractions_170
    refine md_field H.e9 ?_
    repeat first | refine bq_t (by decide) ?_ | refine bq_f (by decide) ?_ | refine bq_f na ?_ | refine bq_f nb ?_ | refine bq_f nd ?_ | refine bq_t pa (md_ends H.e5 ?_) | refine bq_t pa (md_ends_n (show ¬ (8 : Int32) = 0 by decide) ?_) | refine bq_t pb (md_ends H.e5 ?_) | refine bq_t pb (md_ends_n (show ¬ (8 : Int32) = 0 by decide) ?_) | refine bq_t pd (md_ends H.e5 ?_) | refine bq_t pd (md_ends_n (show ¬ (8 : Int32) = 0 by decide) ?_)
    exact md_ends H.e5 hQ

theorem i_x27_d (H : pre mn g rg hq mf cd fg w dd bm rr kt) (ho : zz_ushr w 26 = 17) (hr : fI w 21 = 17) (hf : w &&& 63 = 27) : pfx ms mn g rg hq mf cd fg w dd bm rr kt := by
  refine pfx_mk H 3 (fun L O => (g, rg, hq, mf, cd, fg, L, O)) (fun dd l1 l2 => (upd dd 5 3, l1, l2, bm, rr, kt)) (fun L O P hP => ?_) (fun dd l1 l2 H L O => ⟨oc_end (by unfold q_e; simp) H.rel H.nxt rfl (fun j _ h => pk_un h), fun Q hQ => ?_⟩) (fun _ _ _ _ => rfl) (fun _ _ _ _ _ hs => ⟨by repeat first | exact hs | apply lo_upd, rfl, rfl, rfl⟩) (by first | exact Or.inr (fun _ _ => rfl) | exact Or.inl (by unfold q_e; decide)) (fun _ _ _ => rfl)
  · unfold wp_Pr_perform
    refine pr_op ?_
    rw [ho]
    repeat first | refine bq_t (by decide) ?_ | refine bq_f (by decide) ?_
    refine pr_rs ?_
    rw [hr]
    repeat first | refine bq_t (by decide) ?_ | refine bq_f (by decide) ?_
    refine pr_rt ⟨fI_in w 16, fun t et => ?_⟩
    subst et
    unfold wp_Fu_perform
    refine fun x ex => ?_
    have ex : x = 17 := ex.trans hr
    subst ex
    repeat first | refine bq_t (by decide) ?_ | refine bq_f (by decide) ?_
    refine fun y ey => ?_
    rw [hf] at ey
    subst ey
    repeat first | refine bq_t (by decide) ?_ | refine bq_f (by decide) ?_
    exact hP
  · unfold wp_Md_operate
    rw [ho]
    repeat first | refine bq_t (by decide) ?_ | refine bq_f (by decide) ?_
    unfold wp_Md_fractions
    refine md_field H.e9 (md_field H.e9 (md_field H.e9 ?_))
    rw [hr]
    repeat first | refine bq_t (by decide) ?_ | refine bq_f (by decide) ?_
    refine fun x ex => ?_
    rw [H.e9, hf] at ex
    subst ex
    repeat first | refine bq_t (by decide) ?_ | refine bq_f (by decide) ?_
    try unfold wj_Md_fractions_170
    refine md_field H.e9 ?_
    repeat first | refine bq_t (by decide) ?_ | refine bq_f (by decide) ?_ | refine bq_f na ?_ | refine bq_f nb ?_ | refine bq_f nd ?_ | refine bq_t pa (md_ends H.e5 ?_) | refine bq_t pa (md_ends_n (show ¬ (8 : Int32) = 0 by decide) ?_) | refine bq_t pb (md_ends H.e5 ?_) | refine bq_t pb (md_ends_n (show ¬ (8 : Int32) = 0 by decide) ?_) | refine bq_t pd (md_ends H.e5 ?_) | refine bq_t pd (md_ends_n (show ¬ (8 : Int32) = 0 by decide) ?_)
    exact md_ends H.e5 hQ

theorem i_x28_d (H : pre mn g rg hq mf cd fg w dd bm rr kt) (ho : zz_ushr w 26 = 17) (hr : fI w 21 = 17) (hf : w &&& 63 = 28) : pfx ms mn g rg hq mf cd fg w dd bm rr kt := by
  refine pfx_mk H 3 (fun L O => (g, rg, hq, mf, cd, fg, L, O)) (fun dd l1 l2 => (upd dd 5 3, l1, l2, bm, rr, kt)) (fun L O P hP => ?_) (fun dd l1 l2 H L O => ⟨oc_end (by unfold q_e; simp) H.rel H.nxt rfl (fun j _ h => pk_un h), fun Q hQ => ?_⟩) (fun _ _ _ _ => rfl) (fun _ _ _ _ _ hs => ⟨by repeat first | exact hs | apply lo_upd, rfl, rfl, rfl⟩) (by first | exact Or.inr (fun _ _ => rfl) | exact Or.inl (by unfold q_e; decide)) (fun _ _ _ => rfl)
  · unfold wp_Pr_perform
    refine pr_op ?_
    rw [ho]
    repeat first | refine bq_t (by decide) ?_ | refine bq_f (by decide) ?_
    refine pr_rs ?_
    rw [hr]
    repeat first | refine bq_t (by decide) ?_ | refine bq_f (by decide) ?_
    refine pr_rt ⟨fI_in w 16, fun t et => ?_⟩
    subst et
    unfold wp_Fu_perform
    refine fun x ex => ?_
    have ex : x = 17 := ex.trans hr
    subst ex
    repeat first | refine bq_t (by decide) ?_ | refine bq_f (by decide) ?_
    refine fun y ey => ?_
    rw [hf] at ey
    subst ey
    repeat first | refine bq_t (by decide) ?_ | refine bq_f (by decide) ?_
    exact hP
  · unfold wp_Md_operate
    rw [ho]
    repeat first | refine bq_t (by decide) ?_ | refine bq_f (by decide) ?_
    unfold wp_Md_fractions
    refine md_field H.e9 (md_field H.e9 (md_field H.e9 ?_))
    rw [hr]
    repeat first | refine bq_t (by decide) ?_ | refine bq_f (by decide) ?_
    refine fun x ex => ?_
    rw [H.e9, hf] at ex
    subst ex
    repeat first | refine bq_t (by decide) ?_ | refine bq_f (by decide) ?_
    try unfold wj_Md_fractions_170
    refine md_field H.e9 ?_
    repeat first | refine bq_t (by decide) ?_ | refine bq_f (by decide) ?_ | refine bq_f na ?_ | refine bq_f nb ?_ | refine bq_f nd ?_ | refine bq_t pa (md_ends H.e5 ?_) | refine bq_t pa (md_ends_n (show ¬ (8 : Int32) = 0 by decide) ?_) | refine bq_t pb (md_ends H.e5 ?_) | refine bq_t pb (md_ends_n (show ¬ (8 : Int32) = 0 by decide) ?_) | refine bq_t pd (md_ends H.e5 ?_) | refine bq_t pd (md_ends_n (show ¬ (8 : Int32) = 0 by decide) ?_)
    exact md_ends H.e5 hQ

theorem i_x29_d (H : pre mn g rg hq mf cd fg w dd bm rr kt) (ho : zz_ushr w 26 = 17) (hr : fI w 21 = 17) (hf : w &&& 63 = 29) : pfx ms mn g rg hq mf cd fg w dd bm rr kt := by
  refine pfx_mk H 3 (fun L O => (g, rg, hq, mf, cd, fg, L, O)) (fun dd l1 l2 => (upd dd 5 3, l1, l2, bm, rr, kt)) (fun L O P hP => ?_) (fun dd l1 l2 H L O => ⟨oc_end (by unfold q_e; simp) H.rel H.nxt rfl (fun j _ h => pk_un h), fun Q hQ => ?_⟩) (fun _ _ _ _ => rfl) (fun _ _ _ _ _ hs => ⟨by repeat first | exact hs | apply lo_upd, rfl, rfl, rfl⟩) (by first | exact Or.inr (fun _ _ => rfl) | exact Or.inl (by unfold q_e; decide)) (fun _ _ _ => rfl)
  · unfold wp_Pr_perform
    refine pr_op ?_
    rw [ho]
    repeat first | refine bq_t (by decide) ?_ | refine bq_f (by decide) ?_
    refine pr_rs ?_
    rw [hr]
    repeat first | refine bq_t (by decide) ?_ | refine bq_f (by decide) ?_
    refine pr_rt ⟨fI_in w 16, fun t et => ?_⟩
    subst et
    unfold wp_Fu_perform
    refine fun x ex => ?_
    have ex : x = 17 := ex.trans hr
    subst ex
    repeat first | refine bq_t (by decide) ?_ | refine bq_f (by decide) ?_
    refine fun y ey => ?_
    rw [hf] at ey
    subst ey
    repeat first | refine bq_t (by decide) ?_ | refine bq_f (by decide) ?_
    exact hP
  · unfold wp_Md_operate
    rw [ho]
    repeat first | refine bq_t (by decide) ?_ | refine bq_f (by decide) ?_
    unfold wp_Md_fractions
    refine md_field H.e9 (md_field H.e9 (md_field H.e9 ?_))
    rw [hr]
    repeat first | refine bq_t (by decide) ?_ | refine bq_f (by decide) ?_
    refine fun x ex => ?_
    rw [H.e9, hf] at ex
    subst ex
    repeat first | refine bq_t (by decide) ?_ | refine bq_f (by decide) ?_
    try unfold wj_Md_fractions_170
    refine md_field H.e9 ?_
    repeat first | refine bq_t (by decide) ?_ | refine bq_f (by decide) ?_ | refine bq_f na ?_ | refine bq_f nb ?_ | refine bq_f nd ?_ | refine bq_t pa (md_ends H.e5 ?_) | refine bq_t pa (md_ends_n (show ¬ (8 : Int32) = 0 by decide) ?_) | refine bq_t pb (md_ends H.e5 ?_) | refine bq_t pb (md_ends_n (show ¬ (8 : Int32) = 0 by decide) ?_) | refine bq_t pd (md_ends H.e5 ?_) | refine bq_t pd (md_ends_n (show ¬ (8 : Int32) = 0 by decide) ?_)
    exact md_ends H.e5 hQ

theorem i_x30_d (H : pre mn g rg hq mf cd fg w dd bm rr kt) (ho : zz_ushr w 26 = 17) (hr : fI w 21 = 17) (hf : w &&& 63 = 30) : pfx ms mn g rg hq mf cd fg w dd bm rr kt := by
  refine pfx_mk H 3 (fun L O => (g, rg, hq, mf, cd, fg, L, O)) (fun dd l1 l2 => (upd dd 5 3, l1, l2, bm, rr, kt)) (fun L O P hP => ?_) (fun dd l1 l2 H L O => ⟨oc_end (by unfold q_e; simp) H.rel H.nxt rfl (fun j _ h => pk_un h), fun Q hQ => ?_⟩) (fun _ _ _ _ => rfl) (fun _ _ _ _ _ hs => ⟨by repeat first | exact hs | apply lo_upd, rfl, rfl, rfl⟩) (by first | exact Or.inr (fun _ _ => rfl) | exact Or.inl (by unfold q_e; decide)) (fun _ _ _ => rfl)
  · unfold wp_Pr_perform
    refine pr_op ?_
    rw [ho]
    repeat first | refine bq_t (by decide) ?_ | refine bq_f (by decide) ?_
    refine pr_rs ?_
    rw [hr]
    repeat first | refine bq_t (by decide) ?_ | refine bq_f (by decide) ?_
    refine pr_rt ⟨fI_in w 16, fun t et => ?_⟩
    subst et
    unfold wp_Fu_perform
    refine fun x ex => ?_
    have ex : x = 17 := ex.trans hr
    subst ex
    repeat first | refine bq_t (by decide) ?_ | refine bq_f (by decide) ?_
    refine fun y ey => ?_
    rw [hf] at ey
    subst ey
    repeat first | refine bq_t (by decide) ?_ | refine bq_f (by decide) ?_
    exact hP
  · unfold wp_Md_operate
    rw [ho]
    repeat first | refine bq_t (by decide) ?_ | refine bq_f (by decide) ?_
    unfold wp_Md_fractions
    refine md_field H.e9 (md_field H.e9 (md_field H.e9 ?_))
    rw [hr]
    repeat first | refine bq_t (by decide) ?_ | refine bq_f (by decide) ?_
    refine fun x ex => ?_
    rw [H.e9, hf] at ex
    subst ex
    repeat first | refine bq_t (by decide) ?_ | refine bq_f (by decide) ?_
    try unfold wj_Md_fractions_170
    refine md_field H.e9 ?_
    repeat first | refine bq_t (by decide) ?_ | refine bq_f (by decide) ?_ | refine bq_f na ?_ | refine bq_f nb ?_ | refine bq_f nd ?_ | refine bq_t pa (md_ends H.e5 ?_) | refine bq_t pa (md_ends_n (show ¬ (8 : Int32) = 0 by decide) ?_) | refine bq_t pb (md_ends H.e5 ?_) | refine bq_t pb (md_ends_n (show ¬ (8 : Int32) = 0 by decide) ?_) | refine bq_t pd (md_ends H.e5 ?_) | refine bq_t pd (md_ends_n (show ¬ (8 : Int32) = 0 by decide) ?_)
    exact md_ends H.e5 hQ

theorem i_x31_d (H : pre mn g rg hq mf cd fg w dd bm rr kt) (ho : zz_ushr w 26 = 17) (hr : fI w 21 = 17) (hf : w &&& 63 = 31) : pfx ms mn g rg hq mf cd fg w dd bm rr kt := by
  refine pfx_mk H 3 (fun L O => (g, rg, hq, mf, cd, fg, L, O)) (fun dd l1 l2 => (upd dd 5 3, l1, l2, bm, rr, kt)) (fun L O P hP => ?_) (fun dd l1 l2 H L O => ⟨oc_end (by unfold q_e; simp) H.rel H.nxt rfl (fun j _ h => pk_un h), fun Q hQ => ?_⟩) (fun _ _ _ _ => rfl) (fun _ _ _ _ _ hs => ⟨by repeat first | exact hs | apply lo_upd, rfl, rfl, rfl⟩) (by first | exact Or.inr (fun _ _ => rfl) | exact Or.inl (by unfold q_e; decide)) (fun _ _ _ => rfl)
  · unfold wp_Pr_perform
    refine pr_op ?_
    rw [ho]
    repeat first | refine bq_t (by decide) ?_ | refine bq_f (by decide) ?_
    refine pr_rs ?_
    rw [hr]
    repeat first | refine bq_t (by decide) ?_ | refine bq_f (by decide) ?_
    refine pr_rt ⟨fI_in w 16, fun t et => ?_⟩
    subst et
    unfold wp_Fu_perform
    refine fun x ex => ?_
    have ex : x = 17 := ex.trans hr
    subst ex
    repeat first | refine bq_t (by decide) ?_ | refine bq_f (by decide) ?_
    refine fun y ey => ?_
    rw [hf] at ey
    subst ey
    repeat first | refine bq_t (by decide) ?_ | refine bq_f (by decide) ?_
    exact hP
  · unfold wp_Md_operate
    rw [ho]
    repeat first | refine bq_t (by decide) ?_ | refine bq_f (by decide) ?_
    unfold wp_Md_fractions
    refine md_field H.e9 (md_field H.e9 (md_field H.e9 ?_))
    rw [hr]
    repeat first | refine bq_t (by decide) ?_ | refine bq_f (by decide) ?_
    refine fun x ex => ?_
    rw [H.e9, hf] at ex
    subst ex
    repeat first | refine bq_t (by decide) ?_ | refine bq_f (by decide) ?_
    try unfold wj_Md_fractions_170
    refine md_field H.e9 ?_
    repeat first | refine bq_t (by decide) ?_ | refine bq_f (by decide) ?_ | refine bq_f na ?_ | refine bq_f nb ?_ | refine bq_f nd ?_ | refine bq_t pa (md_ends H.e5 ?_) | refine bq_t pa (md_ends_n (show ¬ (8 : Int32) = 0 by decide) ?_) | refine bq_t pb (md_ends H.e5 ?_) | refine bq_t pb (md_ends_n (show ¬ (8 : Int32) = 0 by decide) ?_) | refine bq_t pd (md_ends H.e5 ?_) | refine bq_t pd (md_ends_n (show ¬ (8 : Int32) = 0 by decide) ?_)
    exact md_ends H.e5 hQ

theorem i_x33_d (H : pre mn g rg hq mf cd fg w dd bm rr kt) (ho : zz_ushr w 26 = 17) (hr : fI w 21 = 17) (hf : w &&& 63 = 33) : pfx ms mn g rg hq mf cd fg w dd bm rr kt := by
  refine pfx_mk H 3 (fun L O => (g, rg, hq, mf, cd, fg, L, O)) (fun dd l1 l2 => (upd dd 5 3, l1, l2, bm, rr, kt)) (fun L O P hP => ?_) (fun dd l1 l2 H L O => ⟨oc_end (by unfold q_e; simp) H.rel H.nxt rfl (fun j _ h => pk_un h), fun Q hQ => ?_⟩) (fun _ _ _ _ => rfl) (fun _ _ _ _ _ hs => ⟨by repeat first | exact hs | apply lo_upd, rfl, rfl, rfl⟩) (by first | exact Or.inr (fun _ _ => rfl) | exact Or.inl (by unfold q_e; decide)) (fun _ _ _ => rfl)
  · unfold wp_Pr_perform
    refine pr_op ?_
    rw [ho]
    repeat first | refine bq_t (by decide) ?_ | refine bq_f (by decide) ?_
    refine pr_rs ?_
    rw [hr]
    repeat first | refine bq_t (by decide) ?_ | refine bq_f (by decide) ?_
    refine pr_rt ⟨fI_in w 16, fun t et => ?_⟩
    subst et
    unfold wp_Fu_perform
    refine fun x ex => ?_
    have ex : x = 17 := ex.trans hr
    subst ex
    repeat first | refine bq_t (by decide) ?_ | refine bq_f (by decide) ?_
    refine fun y ey => ?_
    rw [hf] at ey
    subst ey
    repeat first | refine bq_t (by decide) ?_ | refine bq_f (by decide) ?_
    exact hP
  · unfold wp_Md_operate
    rw [ho]
    repeat first | refine bq_t (by decide) ?_ | refine bq_f (by decide) ?_
    unfold wp_Md_fractions
    refine md_field H.e9 (md_field H.e9 (md_field H.e9 ?_))
    rw [hr]
    repeat first | refine bq_t (by decide) ?_ | refine bq_f (by decide) ?_
    refine fun x ex => ?_
    rw [H.e9, hf] at ex
    subst ex
    repeat first | refine bq_t (by decide) ?_ | refine bq_f (by decide) ?_
    try unfold wj_Md_fractions_170
    refine md_field H.e9 ?_
    repeat first | refine bq_t (by decide) ?_ | refine bq_f (by decide) ?_ | refine bq_f na ?_ | refine bq_f nb ?_ | refine bq_f nd ?_ | refine bq_t pa (md_ends H.e5 ?_) | refine bq_t pa (md_ends_n (show ¬ (8 : Int32) = 0 by decide) ?_) | refine bq_t pb (md_ends H.e5 ?_) | refine bq_t pb (md_ends_n (show ¬ (8 : Int32) = 0 by decide) ?_) | refine bq_t pd (md_ends H.e5 ?_) | refine bq_t pd (md_ends_n (show ¬ (8 : Int32) = 0 by decide) ?_)
    exact md_ends H.e5 hQ

theorem i_x34_d (H : pre mn g rg hq mf cd fg w dd bm rr kt) (ho : zz_ushr w 26 = 17) (hr : fI w 21 = 17) (hf : w &&& 63 = 34) : pfx ms mn g rg hq mf cd fg w dd bm rr kt := by
  refine pfx_mk H 3 (fun L O => (g, rg, hq, mf, cd, fg, L, O)) (fun dd l1 l2 => (upd dd 5 3, l1, l2, bm, rr, kt)) (fun L O P hP => ?_) (fun dd l1 l2 H L O => ⟨oc_end (by unfold q_e; simp) H.rel H.nxt rfl (fun j _ h => pk_un h), fun Q hQ => ?_⟩) (fun _ _ _ _ => rfl) (fun _ _ _ _ _ hs => ⟨by repeat first | exact hs | apply lo_upd, rfl, rfl, rfl⟩) (by first | exact Or.inr (fun _ _ => rfl) | exact Or.inl (by unfold q_e; decide)) (fun _ _ _ => rfl)
  · unfold wp_Pr_perform
    refine pr_op ?_
    rw [ho]
    repeat first | refine bq_t (by decide) ?_ | refine bq_f (by decide) ?_
    refine pr_rs ?_
    rw [hr]
    repeat first | refine bq_t (by decide) ?_ | refine bq_f (by decide) ?_
    refine pr_rt ⟨fI_in w 16, fun t et => ?_⟩
    subst et
    unfold wp_Fu_perform
    refine fun x ex => ?_
    have ex : x = 17 := ex.trans hr
    subst ex
    repeat first | refine bq_t (by decide) ?_ | refine bq_f (by decide) ?_
    refine fun y ey => ?_
    rw [hf] at ey
    subst ey
    repeat first | refine bq_t (by decide) ?_ | refine bq_f (by decide) ?_
    exact hP
  · unfold wp_Md_operate
    rw [ho]
    repeat first | refine bq_t (by decide) ?_ | refine bq_f (by decide) ?_
    unfold wp_Md_fractions
    refine md_field H.e9 (md_field H.e9 (md_field H.e9 ?_))
    rw [hr]
    repeat first | refine bq_t (by decide) ?_ | refine bq_f (by decide) ?_
    refine fun x ex => ?_
    rw [H.e9, hf] at ex
    subst ex
    repeat first | refine bq_t (by decide) ?_ | refine bq_f (by decide) ?_
    try unfold wj_Md_fractions_170
    refine md_field H.e9 ?_
    repeat first | refine bq_t (by decide) ?_ | refine bq_f (by decide) ?_ | refine bq_f na ?_ | refine bq_f nb ?_ | refine bq_f nd ?_ | refine bq_t pa (md_ends H.e5 ?_) | refine bq_t pa (md_ends_n (show ¬ (8 : Int32) = 0 by decide) ?_) | refine bq_t pb (md_ends H.e5 ?_) | refine bq_t pb (md_ends_n (show ¬ (8 : Int32) = 0 by decide) ?_) | refine bq_t pd (md_ends H.e5 ?_) | refine bq_t pd (md_ends_n (show ¬ (8 : Int32) = 0 by decide) ?_)
    exact md_ends H.e5 hQ

theorem i_x35_d (H : pre mn g rg hq mf cd fg w dd bm rr kt) (ho : zz_ushr w 26 = 17) (hr : fI w 21 = 17) (hf : w &&& 63 = 35) : pfx ms mn g rg hq mf cd fg w dd bm rr kt := by
  refine pfx_mk H 3 (fun L O => (g, rg, hq, mf, cd, fg, L, O)) (fun dd l1 l2 => (upd dd 5 3, l1, l2, bm, rr, kt)) (fun L O P hP => ?_) (fun dd l1 l2 H L O => ⟨oc_end (by unfold q_e; simp) H.rel H.nxt rfl (fun j _ h => pk_un h), fun Q hQ => ?_⟩) (fun _ _ _ _ => rfl) (fun _ _ _ _ _ hs => ⟨by repeat first | exact hs | apply lo_upd, rfl, rfl, rfl⟩) (by first | exact Or.inr (fun _ _ => rfl) | exact Or.inl (by unfold q_e; decide)) (fun _ _ _ => rfl)
  · unfold wp_Pr_perform
    refine pr_op ?_
    rw [ho]
    repeat first | refine bq_t (by decide) ?_ | refine bq_f (by decide) ?_
    refine pr_rs ?_
    rw [hr]
    repeat first | refine bq_t (by decide) ?_ | refine bq_f (by decide) ?_
    refine pr_rt ⟨fI_in w 16, fun t et => ?_⟩
    subst et
    unfold wp_Fu_perform
    refine fun x ex => ?_
    have ex : x = 17 := ex.trans hr
    subst ex
    repeat first | refine bq_t (by decide) ?_ | refine bq_f (by decide) ?_
    refine fun y ey => ?_
    rw [hf] at ey
    subst ey
    repeat first | refine bq_t (by decide) ?_ | refine bq_f (by decide) ?_
    exact hP
  · unfold wp_Md_operate
    rw [ho]
    repeat first | refine bq_t (by decide) ?_ | refine bq_f (by decide) ?_
    unfold wp_Md_fractions
    refine md_field H.e9 (md_field H.e9 (md_field H.e9 ?_))
    rw [hr]
    repeat first | refine bq_t (by decide) ?_ | refine bq_f (by decide) ?_
    refine fun x ex => ?_
    rw [H.e9, hf] at ex
    subst ex
    repeat first | refine bq_t (by decide) ?_ | refine bq_f (by decide) ?_
    try unfold wj_Md_fractions_170
    refine md_field H.e9 ?_
    repeat first | refine bq_t (by decide) ?_ | refine bq_f (by decide) ?_ | refine bq_f na ?_ | refine bq_f nb ?_ | refine bq_f nd ?_ | refine bq_t pa (md_ends H.e5 ?_) | refine bq_t pa (md_ends_n (show ¬ (8 : Int32) = 0 by decide) ?_) | refine bq_t pb (md_ends H.e5 ?_) | refine bq_t pb (md_ends_n (show ¬ (8 : Int32) = 0 by decide) ?_) | refine bq_t pd (md_ends H.e5 ?_) | refine bq_t pd (md_ends_n (show ¬ (8 : Int32) = 0 by decide) ?_)
    exact md_ends H.e5 hQ

theorem i_x37_d (H : pre mn g rg hq mf cd fg w dd bm rr kt) (ho : zz_ushr w 26 = 17) (hr : fI w 21 = 17) (hf : w &&& 63 = 37) : pfx ms mn g rg hq mf cd fg w dd bm rr kt := by
  refine pfx_mk H 3 (fun L O => (g, rg, hq, mf, cd, fg, L, O)) (fun dd l1 l2 => (upd dd 5 3, l1, l2, bm, rr, kt)) (fun L O P hP => ?_) (fun dd l1 l2 H L O => ⟨oc_end (by unfold q_e; simp) H.rel H.nxt rfl (fun j _ h => pk_un h), fun Q hQ => ?_⟩) (fun _ _ _ _ => rfl) (fun _ _ _ _ _ hs => ⟨by repeat first | exact hs | apply lo_upd, rfl, rfl, rfl⟩) (by first | exact Or.inr (fun _ _ => rfl) | exact Or.inl (by unfold q_e; decide)) (fun _ _ _ => rfl)
  · unfold wp_Pr_perform
    refine pr_op ?_
    rw [ho]
    repeat first | refine bq_t (by decide) ?_ | refine bq_f (by decide) ?_
    refine pr_rs ?_
    rw [hr]
    repeat first | refine bq_t (by decide) ?_ | refine bq_f (by decide) ?_
    refine pr_rt ⟨fI_in w 16, fun t et => ?_⟩
    subst et
    unfold wp_Fu_perform
    refine fun x ex => ?_
    have ex : x = 17 := ex.trans hr
    subst ex
    repeat first | refine bq_t (by decide) ?_ | refine bq_f (by decide) ?_
    refine fun y ey => ?_
    rw [hf] at ey
    subst ey
    repeat first | refine bq_t (by decide) ?_ | refine bq_f (by decide) ?_
    exact hP
  · unfold wp_Md_operate
    rw [ho]
    repeat first | refine bq_t (by decide) ?_ | refine bq_f (by decide) ?_
    unfold wp_Md_fractions
    refine md_field H.e9 (md_field H.e9 (md_field H.e9 ?_))
    rw [hr]
    repeat first | refine bq_t (by decide) ?_ | refine bq_f (by decide) ?_
    refine fun x ex => ?_
    rw [H.e9, hf] at ex
    subst ex
    repeat first | refine bq_t (by decide) ?_ | refine bq_f (by decide) ?_
    try unfold wj_Md_fractions_170
    refine md_field H.e9 ?_
    repeat first | refine bq_t (by decide) ?_ | refine bq_f (by decide) ?_ | refine bq_f na ?_ | refine bq_f nb ?_ | refine bq_f nd ?_ | refine bq_t pa (md_ends H.e5 ?_) | refine bq_t pa (md_ends_n (show ¬ (8 : Int32) = 0 by decide) ?_) | refine bq_t pb (md_ends H.e5 ?_) | refine bq_t pb (md_ends_n (show ¬ (8 : Int32) = 0 by decide) ?_) | refine bq_t pd (md_ends H.e5 ?_) | refine bq_t pd (md_ends_n (show ¬ (8 : Int32) = 0 by decide) ?_)
    exact md_ends H.e5 hQ

theorem i_x38_d (H : pre mn g rg hq mf cd fg w dd bm rr kt) (ho : zz_ushr w 26 = 17) (hr : fI w 21 = 17) (hf : w &&& 63 = 38) : pfx ms mn g rg hq mf cd fg w dd bm rr kt := by
  refine pfx_mk H 3 (fun L O => (g, rg, hq, mf, cd, fg, L, O)) (fun dd l1 l2 => (upd dd 5 3, l1, l2, bm, rr, kt)) (fun L O P hP => ?_) (fun dd l1 l2 H L O => ⟨oc_end (by unfold q_e; simp) H.rel H.nxt rfl (fun j _ h => pk_un h), fun Q hQ => ?_⟩) (fun _ _ _ _ => rfl) (fun _ _ _ _ _ hs => ⟨by repeat first | exact hs | apply lo_upd, rfl, rfl, rfl⟩) (by first | exact Or.inr (fun _ _ => rfl) | exact Or.inl (by unfold q_e; decide)) (fun _ _ _ => rfl)
  · unfold wp_Pr_perform
    refine pr_op ?_
    rw [ho]
    repeat first | refine bq_t (by decide) ?_ | refine bq_f (by decide) ?_
    refine pr_rs ?_
    rw [hr]
    repeat first | refine bq_t (by decide) ?_ | refine bq_f (by decide) ?_
    refine pr_rt ⟨fI_in w 16, fun t et => ?_⟩
    subst et
    unfold wp_Fu_perform
    refine fun x ex => ?_
    have ex : x = 17 := ex.trans hr
    subst ex
    repeat first | refine bq_t (by decide) ?_ | refine bq_f (by decide) ?_
    refine fun y ey => ?_
    rw [hf] at ey
    subst ey
    repeat first | refine bq_t (by decide) ?_ | refine bq_f (by decide) ?_
    exact hP
  · unfold wp_Md_operate
    rw [ho]
    repeat first | refine bq_t (by decide) ?_ | refine bq_f (by decide) ?_
    unfold wp_Md_fractions
    refine md_field H.e9 (md_field H.e9 (md_field H.e9 ?_))
    rw [hr]
    repeat first | refine bq_t (by decide) ?_ | refine bq_f (by decide) ?_
    refine fun x ex => ?_
    rw [H.e9, hf] at ex
    subst ex
    repeat first | refine bq_t (by decide) ?_ | refine bq_f (by decide) ?_
    try unfold wj_Md_fractions_170
    refine md_field H.e9 ?_
    repeat first | refine bq_t (by decide) ?_ | refine bq_f (by decide) ?_ | refine bq_f na ?_ | refine bq_f nb ?_ | refine bq_f nd ?_ | refine bq_t pa (md_ends H.e5 ?_) | refine bq_t pa (md_ends_n (show ¬ (8 : Int32) = 0 by decide) ?_) | refine bq_t pb (md_ends H.e5 ?_) | refine bq_t pb (md_ends_n (show ¬ (8 : Int32) = 0 by decide) ?_) | refine bq_t pd (md_ends H.e5 ?_) | refine bq_t pd (md_ends_n (show ¬ (8 : Int32) = 0 by decide) ?_)
    exact md_ends H.e5 hQ

theorem i_x39_d (H : pre mn g rg hq mf cd fg w dd bm rr kt) (ho : zz_ushr w 26 = 17) (hr : fI w 21 = 17) (hf : w &&& 63 = 39) : pfx ms mn g rg hq mf cd fg w dd bm rr kt := by
  refine pfx_mk H 3 (fun L O => (g, rg, hq, mf, cd, fg, L, O)) (fun dd l1 l2 => (upd dd 5 3, l1, l2, bm, rr, kt)) (fun L O P hP => ?_) (fun dd l1 l2 H L O => ⟨oc_end (by unfold q_e; simp) H.rel H.nxt rfl (fun j _ h => pk_un h), fun Q hQ => ?_⟩) (fun _ _ _ _ => rfl) (fun _ _ _ _ _ hs => ⟨by repeat first | exact hs | apply lo_upd, rfl, rfl, rfl⟩) (by first | exact Or.inr (fun _ _ => rfl) | exact Or.inl (by unfold q_e; decide)) (fun _ _ _ => rfl)
  · unfold wp_Pr_perform
    refine pr_op ?_
    rw [ho]
    repeat first | refine bq_t (by decide) ?_ | refine bq_f (by decide) ?_
    refine pr_rs ?_
    rw [hr]
    repeat first | refine bq_t (by decide) ?_ | refine bq_f (by decide) ?_
    refine pr_rt ⟨fI_in w 16, fun t et => ?_⟩
    subst et
    unfold wp_Fu_perform
    refine fun x ex => ?_
    have ex : x = 17 := ex.trans hr
    subst ex
    repeat first | refine bq_t (by decide) ?_ | refine bq_f (by decide) ?_
    refine fun y ey => ?_
    rw [hf] at ey
    subst ey
    repeat first | refine bq_t (by decide) ?_ | refine bq_f (by decide) ?_
    exact hP
  · unfold wp_Md_operate
    rw [ho]
    repeat first | refine bq_t (by decide) ?_ | refine bq_f (by decide) ?_
    unfold wp_Md_fractions
    refine md_field H.e9 (md_field H.e9 (md_field H.e9 ?_))
    rw [hr]
    repeat first | refine bq_t (by decide) ?_ | refine bq_f (by decide) ?_
    refine fun x ex => ?_
    rw [H.e9, hf] at ex
    subst ex
    repeat first | refine bq_t (by decide) ?_ | refine bq_f (by decide) ?_
    try unfold wj_Md_fractions_170
    refine md_field H.e9 ?_
    repeat first | refine bq_t (by decide) ?_ | refine bq_f (by decide) ?_ | refine bq_f na ?_ | refine bq_f nb ?_ | refine bq_f nd ?_ | refine bq_t pa (md_ends H.e5 ?_) | refine bq_t pa (md_ends_n (show ¬ (8 : Int32) = 0 by decide) ?_) | refine bq_t pb (md_ends H.e5 ?_) | refine bq_t pb (md_ends_n (show ¬ (8 : Int32) = 0 by decide) ?_) | refine bq_t pd (md_ends H.e5 ?_) | refine bq_t pd (md_ends_n (show ¬ (8 : Int32) = 0 by decide) ?_)
    exact md_ends H.e5 hQ

theorem i_x40_d (H : pre mn g rg hq mf cd fg w dd bm rr kt) (ho : zz_ushr w 26 = 17) (hr : fI w 21 = 17) (hf : w &&& 63 = 40) : pfx ms mn g rg hq mf cd fg w dd bm rr kt := by
  refine pfx_mk H 3 (fun L O => (g, rg, hq, mf, cd, fg, L, O)) (fun dd l1 l2 => (upd dd 5 3, l1, l2, bm, rr, kt)) (fun L O P hP => ?_) (fun dd l1 l2 H L O => ⟨oc_end (by unfold q_e; simp) H.rel H.nxt rfl (fun j _ h => pk_un h), fun Q hQ => ?_⟩) (fun _ _ _ _ => rfl) (fun _ _ _ _ _ hs => ⟨by repeat first | exact hs | apply lo_upd, rfl, rfl, rfl⟩) (by first | exact Or.inr (fun _ _ => rfl) | exact Or.inl (by unfold q_e; decide)) (fun _ _ _ => rfl)
  · unfold wp_Pr_perform
    refine pr_op ?_
    rw [ho]
    repeat first | refine bq_t (by decide) ?_ | refine bq_f (by decide) ?_
    refine pr_rs ?_
    rw [hr]
    repeat first | refine bq_t (by decide) ?_ | refine bq_f (by decide) ?_
    refine pr_rt ⟨fI_in w 16, fun t et => ?_⟩
    subst et
    unfold wp_Fu_perform
    refine fun x ex => ?_
    have ex : x = 17 := ex.trans hr
    subst ex
    repeat first | refine bq_t (by decide) ?_ | refine bq_f (by decide) ?_
    refine fun y ey => ?_
    rw [hf] at ey
    subst ey
    repeat first | refine bq_t (by decide) ?_ | refine bq_f (by decide) ?_
    exact hP
  · unfold wp_Md_operate
    rw [ho]
    repeat first | refine bq_t (by decide) ?_ | refine bq_f (by decide) ?_
    unfold wp_Md_fractions
    refine md_field H.e9 (md_field H.e9 (md_field H.e9 ?_))
    rw [hr]
    repeat first | refine bq_t (by decide) ?_ | refine bq_f (by decide) ?_
    refine fun x ex => ?_
    rw [H.e9, hf] at ex
    subst ex
    repeat first | refine bq_t (by decide) ?_ | refine bq_f (by decide) ?_
    try unfold wj_Md_fractions_170
    refine md_field H.e9 ?_
    repeat first | refine bq_t (by decide) ?_ | refine bq_f (by decide) ?_ | refine bq_f na ?_ | refine bq_f nb ?_ | refine bq_f nd ?_ | refine bq_t pa (md_ends H.e5 ?_) | refine bq_t pa (md_ends_n (show ¬ (8 : Int32) = 0 by decide) ?_) | refine bq_t pb (md_ends H.e5 ?_) | refine bq_t pb (md_ends_n (show ¬ (8 : Int32) = 0 by decide) ?_) | refine bq_t pd (md_ends H.e5 ?_) | refine bq_t pd (md_ends_n (show ¬ (8 : Int32) = 0 by decide) ?_)
    exact md_ends H.e5 hQ

theorem i_x41_d (H : pre mn g rg hq mf cd fg w dd bm rr kt) (ho : zz_ushr w 26 = 17) (hr : fI w 21 = 17) (hf : w &&& 63 = 41) : pfx ms mn g rg hq mf cd fg w dd bm rr kt := by
  refine pfx_mk H 3 (fun L O => (g, rg, hq, mf, cd, fg, L, O)) (fun dd l1 l2 => (upd dd 5 3, l1, l2, bm, rr, kt)) (fun L O P hP => ?_) (fun dd l1 l2 H L O => ⟨oc_end (by unfold q_e; simp) H.rel H.nxt rfl (fun j _ h => pk_un h), fun Q hQ => ?_⟩) (fun _ _ _ _ => rfl) (fun _ _ _ _ _ hs => ⟨by repeat first | exact hs | apply lo_upd, rfl, rfl, rfl⟩) (by first | exact Or.inr (fun _ _ => rfl) | exact Or.inl (by unfold q_e; decide)) (fun _ _ _ => rfl)
  · unfold wp_Pr_perform
    refine pr_op ?_
    rw [ho]
    repeat first | refine bq_t (by decide) ?_ | refine bq_f (by decide) ?_
    refine pr_rs ?_
    rw [hr]
    repeat first | refine bq_t (by decide) ?_ | refine bq_f (by decide) ?_
    refine pr_rt ⟨fI_in w 16, fun t et => ?_⟩
    subst et
    unfold wp_Fu_perform
    refine fun x ex => ?_
    have ex : x = 17 := ex.trans hr
    subst ex
    repeat first | refine bq_t (by decide) ?_ | refine bq_f (by decide) ?_
    refine fun y ey => ?_
    rw [hf] at ey
    subst ey
    repeat first | refine bq_t (by decide) ?_ | refine bq_f (by decide) ?_
    exact hP
  · unfold wp_Md_operate
    rw [ho]
    repeat first | refine bq_t (by decide) ?_ | refine bq_f (by decide) ?_
    unfold wp_Md_fractions
    refine md_field H.e9 (md_field H.e9 (md_field H.e9 ?_))
    rw [hr]
    repeat first | refine bq_t (by decide) ?_ | refine bq_f (by decide) ?_
    refine fun x ex => ?_
    rw [H.e9, hf] at ex
    subst ex
    repeat first | refine bq_t (by decide) ?_ | refine bq_f (by decide) ?_
    try unfold wj_Md_fractions_170
    refine md_field H.e9 ?_
    repeat first | refine bq_t (by decide) ?_ | refine bq_f (by decide) ?_ | refine bq_f na ?_ | refine bq_f nb ?_ | refine bq_f nd ?_ | refine bq_t pa (md_ends H.e5 ?_) | refine bq_t pa (md_ends_n (show ¬ (8 : Int32) = 0 by decide) ?_) | refine bq_t pb (md_ends H.e5 ?_) | refine bq_t pb (md_ends_n (show ¬ (8 : Int32) = 0 by decide) ?_) | refine bq_t pd (md_ends H.e5 ?_) | refine bq_t pd (md_ends_n (show ¬ (8 : Int32) = 0 by decide) ?_)
    exact md_ends H.e5 hQ

theorem i_x42_d (H : pre mn g rg hq mf cd fg w dd bm rr kt) (ho : zz_ushr w 26 = 17) (hr : fI w 21 = 17) (hf : w &&& 63 = 42) : pfx ms mn g rg hq mf cd fg w dd bm rr kt := by
  refine pfx_mk H 3 (fun L O => (g, rg, hq, mf, cd, fg, L, O)) (fun dd l1 l2 => (upd dd 5 3, l1, l2, bm, rr, kt)) (fun L O P hP => ?_) (fun dd l1 l2 H L O => ⟨oc_end (by unfold q_e; simp) H.rel H.nxt rfl (fun j _ h => pk_un h), fun Q hQ => ?_⟩) (fun _ _ _ _ => rfl) (fun _ _ _ _ _ hs => ⟨by repeat first | exact hs | apply lo_upd, rfl, rfl, rfl⟩) (by first | exact Or.inr (fun _ _ => rfl) | exact Or.inl (by unfold q_e; decide)) (fun _ _ _ => rfl)
  · unfold wp_Pr_perform
    refine pr_op ?_
    rw [ho]
    repeat first | refine bq_t (by decide) ?_ | refine bq_f (by decide) ?_
    refine pr_rs ?_
    rw [hr]
    repeat first | refine bq_t (by decide) ?_ | refine bq_f (by decide) ?_
    refine pr_rt ⟨fI_in w 16, fun t et => ?_⟩
    subst et
    unfold wp_Fu_perform
    refine fun x ex => ?_
    have ex : x = 17 := ex.trans hr
    subst ex
    repeat first | refine bq_t (by decide) ?_ | refine bq_f (by decide) ?_
    refine fun y ey => ?_
    rw [hf] at ey
    subst ey
    repeat first | refine bq_t (by decide) ?_ | refine bq_f (by decide) ?_
    exact hP
  · unfold wp_Md_operate
    rw [ho]
    repeat first | refine bq_t (by decide) ?_ | refine bq_f (by decide) ?_
    unfold wp_Md_fractions
    refine md_field H.e9 (md_field H.e9 (md_field H.e9 ?_))
    rw [hr]
    repeat first | refine bq_t (by decide) ?_ | refine bq_f (by decide) ?_
    refine fun x ex => ?_
    rw [H.e9, hf] at ex
    subst ex
    repeat first | refine bq_t (by decide) ?_ | refine bq_f (by decide) ?_
    try unfold wj_Md_fractions_170
    refine md_field H.e9 ?_
    repeat first | refine bq_t (by decide) ?_ | refine bq_f (by decide) ?_ | refine bq_f na ?_ | refine bq_f nb ?_ | refine bq_f nd ?_ | refine bq_t pa (md_ends H.e5 ?_) | refine bq_t pa (md_ends_n (show ¬ (8 : Int32) = 0 by decide) ?_) | refine bq_t pb (md_ends H.e5 ?_) | refine bq_t pb (md_ends_n (show ¬ (8 : Int32) = 0 by decide) ?_) | refine bq_t pd (md_ends H.e5 ?_) | refine bq_t pd (md_ends_n (show ¬ (8 : Int32) = 0 by decide) ?_)
    exact md_ends H.e5 hQ

theorem i_x43_d (H : pre mn g rg hq mf cd fg w dd bm rr kt) (ho : zz_ushr w 26 = 17) (hr : fI w 21 = 17) (hf : w &&& 63 = 43) : pfx ms mn g rg hq mf cd fg w dd bm rr kt := by
  refine pfx_mk H 3 (fun L O => (g, rg, hq, mf, cd, fg, L, O)) (fun dd l1 l2 => (upd dd 5 3, l1, l2, bm, rr, kt)) (fun L O P hP => ?_) (fun dd l1 l2 H L O => ⟨oc_end (by unfold q_e; simp) H.rel H.nxt rfl (fun j _ h => pk_un h), fun Q hQ => ?_⟩) (fun _ _ _ _ => rfl) (fun _ _ _ _ _ hs => ⟨by repeat first | exact hs | apply lo_upd, rfl, rfl, rfl⟩) (by first | exact Or.inr (fun _ _ => rfl) | exact Or.inl (by unfold q_e; decide)) (fun _ _ _ => rfl)
  · unfold wp_Pr_perform
    refine pr_op ?_
    rw [ho]
    repeat first | refine bq_t (by decide) ?_ | refine bq_f (by decide) ?_
    refine pr_rs ?_
    rw [hr]
    repeat first | refine bq_t (by decide) ?_ | refine bq_f (by decide) ?_
    refine pr_rt ⟨fI_in w 16, fun t et => ?_⟩
    subst et
    unfold wp_Fu_perform
    refine fun x ex => ?_
    have ex : x = 17 := ex.trans hr
    subst ex
    repeat first | refine bq_t (by decide) ?_ | refine bq_f (by decide) ?_
    refine fun y ey => ?_
    rw [hf] at ey
    subst ey
    repeat first | refine bq_t (by decide) ?_ | refine bq_f (by decide) ?_
    exact hP
  · unfold wp_Md_operate
    rw [ho]
    repeat first | refine bq_t (by decide) ?_ | refine bq_f (by decide) ?_
    unfold wp_Md_fractions
    refine md_field H.e9 (md_field H.e9 (md_field H.e9 ?_))
    rw [hr]
    repeat first | refine bq_t (by decide) ?_ | refine bq_f (by decide) ?_
    refine fun x ex => ?_
    rw [H.e9, hf] at ex
    subst ex
    repeat first | refine bq_t (by decide) ?_ | refine bq_f (by decide) ?_
    try unfold wj_Md_fractions_170
    refine md_field H.e9 ?_
    repeat first | refine bq_t (by decide) ?_ | refine bq_f (by decide) ?_ | refine bq_f na ?_ | refine bq_f nb ?_ | refine bq_f nd ?_ | refine bq_t pa (md_ends H.e5 ?_) | refine bq_t pa (md_ends_n (show ¬ (8 : Int32) = 0 by decide) ?_) | refine bq_t pb (md_ends H.e5 ?_) | refine bq_t pb (md_ends_n (show ¬ (8 : Int32) = 0 by decide) ?_) | refine bq_t pd (md_ends H.e5 ?_) | refine bq_t pd (md_ends_n (show ¬ (8 : Int32) = 0 by decide) ?_)
    exact md_ends H.e5 hQ

theorem i_x44_d (H : pre mn g rg hq mf cd fg w dd bm rr kt) (ho : zz_ushr w 26 = 17) (hr : fI w 21 = 17) (hf : w &&& 63 = 44) : pfx ms mn g rg hq mf cd fg w dd bm rr kt := by
  refine pfx_mk H 3 (fun L O => (g, rg, hq, mf, cd, fg, L, O)) (fun dd l1 l2 => (upd dd 5 3, l1, l2, bm, rr, kt)) (fun L O P hP => ?_) (fun dd l1 l2 H L O => ⟨oc_end (by unfold q_e; simp) H.rel H.nxt rfl (fun j _ h => pk_un h), fun Q hQ => ?_⟩) (fun _ _ _ _ => rfl) (fun _ _ _ _ _ hs => ⟨by repeat first | exact hs | apply lo_upd, rfl, rfl, rfl⟩) (by first | exact Or.inr (fun _ _ => rfl) | exact Or.inl (by unfold q_e; decide)) (fun _ _ _ => rfl)
  · unfold wp_Pr_perform
    refine pr_op ?_
    rw [ho]
    repeat first | refine bq_t (by decide) ?_ | refine bq_f (by decide) ?_
    refine pr_rs ?_
    rw [hr]
    repeat first | refine bq_t (by decide) ?_ | refine bq_f (by decide) ?_
    refine pr_rt ⟨fI_in w 16, fun t et => ?_⟩
    subst et
    unfold wp_Fu_perform
    refine fun x ex => ?_
    have ex : x = 17 := ex.trans hr
    subst ex
    repeat first | refine bq_t (by decide) ?_ | refine bq_f (by decide) ?_
    refine fun y ey => ?_
    rw [hf] at ey
    subst ey
    repeat first | refine bq_t (by decide) ?_ | refine bq_f (by decide) ?_
    exact hP
  · unfold wp_Md_operate
    rw [ho]
    repeat first | refine bq_t (by decide) ?_ | refine bq_f (by decide) ?_
    unfold wp_Md_fractions
    refine md_field H.e9 (md_field H.e9 (md_field H.e9 ?_))
    rw [hr]
    repeat first | refine bq_t (by decide) ?_ | refine bq_f (by decide) ?_
    refine fun x ex => ?_
    rw [H.e9, hf] at ex
    subst ex
    repeat first | refine bq_t (by decide) ?_ | refine bq_f (by decide) ?_
    try unfold wj_Md_fractions_170
    refine md_field H.e9 ?_
    repeat first | refine bq_t (by decide) ?_ | refine bq_f (by decide) ?_ | refine bq_f na ?_ | refine bq_f nb ?_ | refine bq_f nd ?_ | refine bq_t pa (md_ends H.e5 ?_) | refine bq_t pa (md_ends_n (show ¬ (8 : Int32) = 0 by decide) ?_) | refine bq_t pb (md_ends H.e5 ?_) | refine bq_t pb (md_ends_n (show ¬ (8 : Int32) = 0 by decide) ?_) | refine bq_t pd (md_ends H.e5 ?_) | refine bq_t pd (md_ends_n (show ¬ (8 : Int32) = 0 by decide) ?_)
    exact md_ends H.e5 hQ

theorem i_x45_d (H : pre mn g rg hq mf cd fg w dd bm rr kt) (ho : zz_ushr w 26 = 17) (hr : fI w 21 = 17) (hf : w &&& 63 = 45) : pfx ms mn g rg hq mf cd fg w dd bm rr kt := by
  refine pfx_mk H 3 (fun L O => (g, rg, hq, mf, cd, fg, L, O)) (fun dd l1 l2 => (upd dd 5 3, l1, l2, bm, rr, kt)) (fun L O P hP => ?_) (fun dd l1 l2 H L O => ⟨oc_end (by unfold q_e; simp) H.rel H.nxt rfl (fun j _ h => pk_un h), fun Q hQ => ?_⟩) (fun _ _ _ _ => rfl) (fun _ _ _ _ _ hs => ⟨by repeat first | exact hs | apply lo_upd, rfl, rfl, rfl⟩) (by first | exact Or.inr (fun _ _ => rfl) | exact Or.inl (by unfold q_e; decide)) (fun _ _ _ => rfl)
  · unfold wp_Pr_perform
    refine pr_op ?_
    rw [ho]
    repeat first | refine bq_t (by decide) ?_ | refine bq_f (by decide) ?_
    refine pr_rs ?_
    rw [hr]
    repeat first | refine bq_t (by decide) ?_ | refine bq_f (by decide) ?_
    refine pr_rt ⟨fI_in w 16, fun t et => ?_⟩
    subst et
    unfold wp_Fu_perform
    refine fun x ex => ?_
    have ex : x = 17 := ex.trans hr
    subst ex
    repeat first | refine bq_t (by decide) ?_ | refine bq_f (by decide) ?_
    refine fun y ey => ?_
    rw [hf] at ey
    subst ey
    repeat first | refine bq_t (by decide) ?_ | refine bq_f (by decide) ?_
    exact hP
  · unfold wp_Md_operate
    rw [ho]
    repeat first | refine bq_t (by decide) ?_ | refine bq_f (by decide) ?_
    unfold wp_Md_fractions
    refine md_field H.e9 (md_field H.e9 (md_field H.e9 ?_))
    rw [hr]
    repeat first | refine bq_t (by decide) ?_ | refine bq_f (by decide) ?_
    refine fun x ex => ?_
    rw [H.e9, hf] at ex
    subst ex
    repeat first | refine bq_t (by decide) ?_ | refine bq_f (by decide) ?_
    try unfold wj_Md_fractions_170
    refine md_field H.e9 ?_
    repeat first | refine bq_t (by decide) ?_ | refine bq_f (by decide) ?_ | refine bq_f na ?_ | refine bq_f nb ?_ | refine bq_f nd ?_ | refine bq_t pa (md_ends H.e5 ?_) | refine bq_t pa (md_ends_n (show ¬ (8 : Int32) = 0 by decide) ?_) | refine bq_t pb (md_ends H.e5 ?_) | refine bq_t pb (md_ends_n (show ¬ (8 : Int32) = 0 by decide) ?_) | refine bq_t pd (md_ends H.e5 ?_) | refine bq_t pd (md_ends_n (show ¬ (8 : Int32) = 0 by decide) ?_)
    exact md_ends H.e5 hQ

theorem i_x46_d (H : pre mn g rg hq mf cd fg w dd bm rr kt) (ho : zz_ushr w 26 = 17) (hr : fI w 21 = 17) (hf : w &&& 63 = 46) : pfx ms mn g rg hq mf cd fg w dd bm rr kt := by
  refine pfx_mk H 3 (fun L O => (g, rg, hq, mf, cd, fg, L, O)) (fun dd l1 l2 => (upd dd 5 3, l1, l2, bm, rr, kt)) (fun L O P hP => ?_) (fun dd l1 l2 H L O => ⟨oc_end (by unfold q_e; simp) H.rel H.nxt rfl (fun j _ h => pk_un h), fun Q hQ => ?_⟩) (fun _ _ _ _ => rfl) (fun _ _ _ _ _ hs => ⟨by repeat first | exact hs | apply lo_upd, rfl, rfl, rfl⟩) (by first | exact Or.inr (fun _ _ => rfl) | exact Or.inl (by unfold q_e; decide)) (fun _ _ _ => rfl)
  · unfold wp_Pr_perform
    refine pr_op ?_
    rw [ho]
    repeat first | refine bq_t (by decide) ?_ | refine bq_f (by decide) ?_
    refine pr_rs ?_
    rw [hr]
    repeat first | refine bq_t (by decide) ?_ | refine bq_f (by decide) ?_
    refine pr_rt ⟨fI_in w 16, fun t et => ?_⟩
    subst et
    unfold wp_Fu_perform
    refine fun x ex => ?_
    have ex : x = 17 := ex.trans hr
    subst ex
    repeat first | refine bq_t (by decide) ?_ | refine bq_f (by decide) ?_
    refine fun y ey => ?_
    rw [hf] at ey
    subst ey
    repeat first | refine bq_t (by decide) ?_ | refine bq_f (by decide) ?_
    exact hP
  · unfold wp_Md_operate
    rw [ho]
    repeat first | refine bq_t (by decide) ?_ | refine bq_f (by decide) ?_
    unfold wp_Md_fractions
    refine md_field H.e9 (md_field H.e9 (md_field H.e9 ?_))
    rw [hr]
    repeat first | refine bq_t (by decide) ?_ | refine bq_f (by decide) ?_
    refine fun x ex => ?_
    rw [H.e9, hf] at ex
    subst ex
    repeat first | refine bq_t (by decide) ?_ | refine bq_f (by decide) ?_
    try unfold wj_Md_fractions_170
    refine md_field H.e9 ?_
    repeat first | refine bq_t (by decide) ?_ | refine bq_f (by decide) ?_ | refine bq_f na ?_ | refine bq_f nb ?_ | refine bq_f nd ?_ | refine bq_t pa (md_ends H.e5 ?_) | refine bq_t pa (md_ends_n (show ¬ (8 : Int32) = 0 by decide) ?_) | refine bq_t pb (md_ends H.e5 ?_) | refine bq_t pb (md_ends_n (show ¬ (8 : Int32) = 0 by decide) ?_) | refine bq_t pd (md_ends H.e5 ?_) | refine bq_t pd (md_ends_n (show ¬ (8 : Int32) = 0 by decide) ?_)
    exact md_ends H.e5 hQ

theorem i_x47_d (H : pre mn g rg hq mf cd fg w dd bm rr kt) (ho : zz_ushr w 26 = 17) (hr : fI w 21 = 17) (hf : w &&& 63 = 47) : pfx ms mn g rg hq mf cd fg w dd bm rr kt := by
  refine pfx_mk H 3 (fun L O => (g, rg, hq, mf, cd, fg, L, O)) (fun dd l1 l2 => (upd dd 5 3, l1, l2, bm, rr, kt)) (fun L O P hP => ?_) (fun dd l1 l2 H L O => ⟨oc_end (by unfold q_e; simp) H.rel H.nxt rfl (fun j _ h => pk_un h), fun Q hQ => ?_⟩) (fun _ _ _ _ => rfl) (fun _ _ _ _ _ hs => ⟨by repeat first | exact hs | apply lo_upd, rfl, rfl, rfl⟩) (by first | exact Or.inr (fun _ _ => rfl) | exact Or.inl (by unfold q_e; decide)) (fun _ _ _ => rfl)
  · unfold wp_Pr_perform
    refine pr_op ?_
    rw [ho]
    repeat first | refine bq_t (by decide) ?_ | refine bq_f (by decide) ?_
    refine pr_rs ?_
    rw [hr]
    repeat first | refine bq_t (by decide) ?_ | refine bq_f (by decide) ?_
    refine pr_rt ⟨fI_in w 16, fun t et => ?_⟩
    subst et
    unfold wp_Fu_perform
    refine fun x ex => ?_
    have ex : x = 17 := ex.trans hr
    subst ex
    repeat first | refine bq_t (by decide) ?_ | refine bq_f (by decide) ?_
    refine fun y ey => ?_
    rw [hf] at ey
    subst ey
    repeat first | refine bq_t (by decide) ?_ | refine bq_f (by decide) ?_
    exact hP
  · unfold wp_Md_operate
    rw [ho]
    repeat first | refine bq_t (by decide) ?_ | refine bq_f (by decide) ?_
    unfold wp_Md_fractions
    refine md_field H.e9 (md_field H.e9 (md_field H.e9 ?_))
    rw [hr]
    repeat first | refine bq_t (by decide) ?_ | refine bq_f (by decide) ?_
    refine fun x ex => ?_
    rw [H.e9, hf] at ex
    subst ex
    repeat first | refine bq_t (by decide) ?_ | refine bq_f (by decide) ?_
    try unfold wj_Md_fractions_170
    refine md_field H.e9 ?_
    repeat first | refine bq_t (by decide) ?_ | refine bq_f (by decide) ?_ | refine bq_f na ?_ | refine bq_f nb ?_ | refine bq_f nd ?_ | refine bq_t pa (md_ends H.e5 ?_) | refine bq_t pa (md_ends_n (show ¬ (8 : Int32) = 0 by decide) ?_) | refine bq_t pb (md_ends H.e5 ?_) | refine bq_t pb (md_ends_n (show ¬ (8 : Int32) = 0 by decide) ?_) | refine bq_t pd (md_ends H.e5 ?_) | refine bq_t pd (md_ends_n (show ¬ (8 : Int32) = 0 by decide) ?_)
    exact md_ends H.e5 hQ

end COP3
