/-! ===== the coprocessor's instructions: the class's methods ===== -/
section COP2
variable {ms : Int32} {mn S : Nat} {g rg hq mf : Nat → Int32} {cd : Int32} {fg : Nat → Int32} {L O : Fr4} {dd bm rr kt : Nat → Int32} {l1 l2 : Int64} {w : Int32}
theorem oneB_4 (wd : Int32) (a r x : Nat) : oneB 4 wd a r x = rtB wd (fn wd a) a r x := by
  unfold oneB
  rw [if_neg (show ¬ (4 : Int32) = 6 by decide)]
  by_cases c : fk wd a = 3
  · rw [if_pos c]; unfold rtB; rw [if_pos c]
  · rw [if_neg c, if_neg (show ¬ (4 : Int32) = 5 by decide), if_neg (show ¬ (4 : Int32) = 7 by decide)]
theorem fu_change {wd f : Int32} {a d r x : Nat} {P : Int32 → (Int32 × (Nat → Int32) × Fr4 × Fr4) → Prop} (hf : w &&& 63 = f) (hf4 : f = 4 ∨ f = 5 ∨ f = 6 ∨ f = 7) (ha : a < 32) (hd : d < 32) (ea : fI w 11 = nI a) (ed : fI w 6 = nI d) (hr : rtOk wd (fbt fg wd a) r x)
    (h0 : evn wd a ∧ evn wd d → ∀ L' O', P 0 (cd, fgR fg wd d (oneB f wd (fbt fg wd a) r x), L', O')) (h1 : ¬ (evn wd a ∧ evn wd d) → P 8 (cd, fg, L, O)) : wp_Fu_change cd fg L O w wd P := by
  unfold wp_Fu_change
  refine fu_fs (fu_fd ?_)
  rw [ea, ed, or_n]
  refine fu_odd (or_32 ha hd) (fun he => bq_t rfl ?_) (fun he => bq_f (by decide) (h1 (fun q => he (evn_or.mpr q))))
  have he := evn_or.mp he
  have h0 := h0 he
  refine fu_fs ?_
  refine fu_bits ha ea he.1 (fr_unpack (fbt_fin fg wd a) (fun L1 o1 => ?_))
  rw [hf]
  have fin : ∀ (B : Int64) (L' O' : Fr4), B = oneB f wd (fbt fg wd a) r x → frv wd B L' → wp_Fr_pack L' wd (fun r => wp_Fu_result cd fg L' O' w r wd P) := by
    intro B L' O' eB hv
    refine frv_pack hv (fu_result hd ed he.2 ?_)
    rw [eB]; exact h0 L' O'
  have sgn : ∀ (n : Int32), (¬ fk wd (fbt fg wd a) = 3 → rn_sg n wd (lN (fm wd (fbt fg wd a))) = oneB f wd (fbt fg wd a) r x) → (fk wd (fbt fg wd a) = 3 → rn_no wd = oneB f wd (fbt fg wd a) r x) → wp_Fr_pack (n, L1.2.1, L1.2.2.1, L1.2.2.2) wd (fun r => wp_Fu_result cd fg (n, L1.2.1, L1.2.2.1, L1.2.2.2) O w r wd P) := by
    intro n q1 q3
    have hi : fr_is wd (fbt fg wd a) n (n, L1.2.1, L1.2.2.1, L1.2.2.2) := ⟨rfl, o1.2.1, o1.2.2⟩
    by_cases c : fk wd (fbt fg wd a) = 3
    · exact fin _ _ O (q3 c) (frv_no hi c)
    · exact fin _ _ O (q1 c) (frv_is hi c)
  rcases hf4 with rfl | rfl | rfl | rfl
  · refine bq_t rfl (fr_root o1 hr (fun L' hv => fin _ L' O ?_ hv))
    exact (oneB_4 wd (fbt fg wd a) r x).symm
  · refine bq_f (by decide) (bq_t rfl ?_)
    unfold wp_Fr_dropSign
    refine sgn 0 (fun c => ?_) (fun c => ?_)
    · unfold oneB; rw [if_neg (by decide), if_neg c, if_pos rfl]
    · unfold oneB; rw [if_neg (by decide), if_pos c]
  · refine bq_f (by decide) (bq_f (by decide) (bq_t rfl (fu_result hd ed he.2 ?_)))
    have := h0 L1 O
    unfold oneB at this
    rw [if_pos rfl] at this
    exact this
  · refine bq_f (by decide) (bq_f (by decide) (bq_f (by decide) ?_))
    unfold wp_Fr_negate
    have e1 := o1.1
    have neg : ∀ n, n = fneg (fn wd (fbt fg wd a)) → wp_Fr_pack (n, L1.2.1, L1.2.2.1, L1.2.2.2) wd (fun r => wp_Fu_result cd fg (n, L1.2.1, L1.2.2.1, L1.2.2.2) O w r wd P) := by
      intro n hn
      refine sgn n (fun c => ?_) (fun c => ?_)
      · unfold oneB; rw [if_neg (by decide), if_neg c, if_neg (by decide), if_pos rfl, hn]
      · unfold oneB; rw [if_neg (by decide), if_pos c]
    exact ⟨fun c => neg 1 (by rw [← e1, c]; rfl), fun c => neg 0 (by rw [← e1]; unfold fneg; rw [if_neg c])⟩
theorem fu_convert {wd : Int32} {a d : Nat} {P : Int32 → (Int32 × (Nat → Int32) × Fr4 × Fr4) → Prop} (ha : a < 32) (hd : d < 32) (ea : fI w 11 = nI a) (ed : fI w 6 = nI d)
    (h0 : evn wd a ∧ evn (fow wd) d → ∀ L' O', P 0 (cd, fgR fg (fow wd) d (chB wd (fbt fg wd a)), L', O')) (h1 : ¬ (evn wd a ∧ evn (fow wd) d) → P 8 (cd, fg, L, O)) : wp_Fu_convert cd fg L O w wd P := by
  unfold wp_Fu_convert
  refine fu_fs ?_
  rw [ea]
  refine fu_odd ha (fun he => bq_t rfl ?_) (fun he => bq_f (by decide) (h1 (fun q => he q.1)))
  have core : ∀ v : Int32, v = fow wd → wp_Fu_fd w (fun r_17 => wp_Fu_odd v r_17 (fun r_18 => ((r_18 = (0 : Int32) → wp_Fu_fs w (fun r_20 => wp_Fu_bits cd fg L O r_20 wd (fun r_21 => wp_Fr_unpack L r_21 wd (fun u_22 => wp_Fr_pack u_22 v (fun r_25 => wp_Fu_result cd fg u_22 O w r_25 v P))))) ∧ (¬ r_18 = (0 : Int32) → P (8 : Int32) (cd, fg, L, O))))) := by
    intro v hv
    subst hv
    refine fu_fd ?_
    rw [ed]
    refine fu_odd hd (fun he2 => bq_t rfl ?_) (fun he2 => bq_f (by decide) (h1 (fun q => he2 q.2)))
    refine fu_fs ?_
    refine fu_bits ha ea he (fr_unpack (fbt_fin fg wd a) (fun L1 o1 => ?_))
    exact frv_pack (frv_ch o1) (fu_result hd ed he2 (h0 ⟨he, he2⟩ L1 O))
  exact ⟨fun c => core 1 (by unfold fow; rw [if_pos c]), fun c => core 0 (by unfold fow; rw [if_neg c])⟩
theorem fu_toWord {wd : Int32} {a d : Nat} {P : Int32 → (Int32 × (Nat → Int32) × Fr4 × Fr4) → Prop} (ha : a < 32) (hd : d < 32) (ea : fI w 11 = nI a) (ed : fI w 6 = nI d)
    (h0 : evn wd a → ∀ L' O', P 0 (cd, upd fg d (wdB (w &&& 3) wd (fbt fg wd a)), L', O')) (h1 : ¬ evn wd a → P 8 (cd, fg, L, O)) : wp_Fu_convertToWord cd fg L O w wd P := by
  unfold wp_Fu_convertToWord
  refine fu_fs ?_
  rw [ea]
  refine fu_odd ha (fun he => bq_t rfl ?_) (fun he => bq_f (by decide) (h1 he))
  refine fu_fs ?_
  refine fu_bits ha ea he (fr_unpack (fbt_fin fg wd a) (fun L1 o1 => fu_fd (fr_toWord o1 ⟨fI_in w 6, ?_⟩)))
  rw [ed, nI_clamp (by omega)]
  exact h0 he L1 O
theorem fu_fromWord {f v : Int32} {a d : Nat} {P : Int32 → (Int32 × (Nat → Int32) × Fr4 × Fr4) → Prop} (hf : w &&& 63 = f) (hf2 : f = 33 ∧ v = 1 ∨ f = 32 ∧ v = 0) (ha : a < 32) (hd : d < 32) (ea : fI w 11 = nI a) (ed : fI w 6 = nI d)
    (h0 : evn v d → ∀ L' O', P 0 (cd, fgR fg v d (fwB v (fg a)), L', O')) (h1 : ¬ evn v d → P 8 (cd, fg, L, O)) : wp_Fu_convertFromWord cd fg L O w P := by
  unfold wp_Fu_convertFromWord
  refine fun x ex => ?_
  rw [hf] at ex
  subst ex
  have core : wp_Fu_fd w (fun r_16 => wp_Fu_odd v r_16 (fun r_17 => ((r_17 = (0 : Int32) → wp_Fu_fs w (fun r_19 => vp_in r_19 32 ∧ ∀ x_20 : Int32, x_20 = (fg r_19.toNatClampNeg) → wp_Fr_fromWord L x_20 (fun u_21 => wp_Fr_pack u_21 v (fun r_23 => wp_Fu_result cd fg u_21 O w r_23 v P)))) ∧ (¬ r_17 = (0 : Int32) → P (8 : Int32) (cd, fg, L, O))))) := by
    refine fu_fd ?_
    rw [ed]
    refine fu_odd hd (fun he => bq_t rfl ?_) (fun he => bq_f (by decide) (h1 he))
    refine fu_fs ⟨fI_in w 11, fun y ey => ?_⟩
    rw [ea, nI_clamp (by omega)] at ey
    subst ey
    exact fr_fromWord (w := v) (fun L' hv => frv_pack hv (fu_result hd ed he (h0 he L' O)))
  rcases hf2 with ⟨rfl, rfl⟩ | ⟨rfl, rfl⟩
  · exact bq_t rfl core
  · exact bq_f (by decide) (bq_t rfl core)
/-- the conditions behind a comparison -/
def cdN (cd w c : Int32) : Int32 := if w &&& c = 0 then cd &&& (zz_shl 1 (zz_ushr w 8 &&& 7) ^^^ (-1)) else cd ||| zz_shl 1 (zz_ushr w 8 &&& 7)
theorem pl_k (w : Int32) : ∃ j : Nat, j < 8 ∧ zz_ushr w 8 &&& 7 = nI j := pk_andE _ 3 (by decide)
theorem pl_0 : ∀ j, j < 8 → zz_shl 0 (nI j) = 0 := by decide +kernel
theorem pl_m : ∀ j, j < 8 → zz_shl 1 (nI j) &&& 255 = zz_shl 1 (nI j) := by decide +kernel
theorem an_or (x m : Int32) : (x &&& (m ^^^ (-1))) ||| m = x ||| m := by
  apply i_ext
  intro i hi
  rw [Int32.toBitVec_or, Int32.toBitVec_or, BitVec.getLsbD_or, BitVec.getLsbD_or, Int32.toBitVec_and, BitVec.getLsbD_and, Int32.toBitVec_xor, BitVec.getLsbD_xor]
  have : (-1 : Int32).toBitVec.getLsbD i = true := by
    show (BitVec.allOnes 32).getLsbD i = true
    rw [BitVec.getLsbD_allOnes]; simp [hi]
  rw [this]
  cases x.toBitVec.getLsbD i <;> cases m.toBitVec.getLsbD i <;> rfl
theorem cdN_255 {c : Int32} (h : cd &&& 255 = cd) : cdN cd w c &&& 255 = cdN cd w c := by
  obtain ⟨j, hj, e⟩ := pl_k w
  unfold cdN
  rw [e]
  split
  · rw [Int32.and_assoc, Int32.and_comm (zz_shl 1 (nI j) ^^^ -1), ← Int32.and_assoc, h]
  · apply i_ext
    intro i hi
    have h1 := congrArg (fun z : Int32 => z.toBitVec.getLsbD i) h
    have h2 := congrArg (fun z : Int32 => z.toBitVec.getLsbD i) (pl_m j hj)
    simp only [Int32.toBitVec_and, BitVec.getLsbD_and] at h1 h2
    rw [Int32.toBitVec_and, BitVec.getLsbD_and, Int32.toBitVec_or, BitVec.getLsbD_or]
    rw [← h1, ← h2]
    cases cd.toBitVec.getLsbD i <;> cases (zz_shl 1 (nI j)).toBitVec.getLsbD i <;> cases (255 : Int32).toBitVec.getLsbD i <;> rfl
theorem q_cd {c : Int32} (h : q_rel mn g rg hq mf cd fg dd bm rr kt) : q_rel mn g rg hq mf (cdN cd w c) fg dd bm (upd rr 66 (cdN cd w c)) kt := by
  obtain ⟨r1, r2, r3, r4, r5, r6, r7, r8, r9⟩ := h
  refine ⟨fun i hi => ?_, r2, r3, r4, fun i hi => ?_, ⟨pk_us, cdN_255 r6.2⟩, r7, r8, r9⟩
  · rw [pk_un (by omega)]; exact r1 i hi
  · rw [pk_un (by omega)]; exact r5 i hi
theorem fu_compare {wd : Int32} {a b : Nat} {P : Int32 → (Int32 × (Nat → Int32) × Fr4 × Fr4) → Prop} (ha : a < 32) (hb : b < 32) (ea : fI w 11 = nI a) (eb : fI w 16 = nI b)
    (h0 : evn wd a ∧ evn wd b → ∀ L' O', P 0 (cdN cd w (cmpC wd (fbt fg wd a) (fbt fg wd b)), fg, L', O')) (h1 : ¬ (evn wd a ∧ evn wd b) → P 8 (cd, fg, L, O)) : wp_Fu_compare cd fg L O w wd P := by
  unfold wp_Fu_compare
  refine fu_fs (fu_ft ?_)
  rw [ea, eb, or_n]
  refine fu_odd (or_32 ha hb) (fun he => bq_t rfl ?_) (fun he => bq_f (by decide) (h1 (fun q => he (evn_or.mpr q))))
  have he := evn_or.mp he
  have h0 := h0 he
  refine fu_fs ?_
  refine fu_bits ha ea he.1 (fr_unpack (fbt_fin fg wd a) (fun L1 o1 => ?_))
  refine fu_ft ?_
  refine fu_bits hb eb he.2 (fr_unpack (fbt_fin fg wd b) (fun O1 o2 => ?_))
  refine fr_order o1 o2 (fun x ex => ?_)
  obtain ⟨j, hj, e⟩ := pl_k w
  have h0 := h0 L1 O1
  unfold cdN at h0
  rw [e] at ex h0
  subst ex
  refine ⟨fun c y ey z ez => ?_, fun c y ey z ez => ?_⟩
  · rw [if_pos c] at h0
    rw [ey, pl_0 j hj, Int32.or_zero] at ez
    subst ez
    exact h0
  · rw [if_neg c] at h0
    rw [ey, an_or] at ez
    subst ez
    exact h0
theorem fu_moveIf {wd f t : Int32} {a d : Nat} {P : Int32 → (Int32 × (Nat → Int32) × Fr4 × Fr4) → Prop} (hf : w &&& 63 = f) (ha : a < 32) (hd : d < 32) (ea : fI w 11 = nI a) (ed : fI w 6 = nI d) (hf3 : f = 17 ∨ f = 18 ∨ f = 19)
    (hm : evn wd a ∧ evn wd d → (f = 17 ∧ cnd cd w ∨ f = 18 ∧ t = 0 ∨ f = 19 ∧ ¬ t = 0) → P 0 (cd, fgR fg wd d (lN (fbt fg wd a)), L, O)) (hn : evn wd a ∧ evn wd d → ¬ (f = 17 ∧ cnd cd w ∨ f = 18 ∧ t = 0 ∨ f = 19 ∧ ¬ t = 0) → P 0 (cd, fg, L, O)) (h1 : ¬ (evn wd a ∧ evn wd d) → P 8 (cd, fg, L, O)) : wp_Fu_moveIf cd fg L O w wd t P := by
  unfold wp_Fu_moveIf
  refine fu_fs (fu_fd ?_)
  rw [ea, ed, or_n]
  refine fu_odd (or_32 ha hd) (fun he => bq_t rfl ?_) (fun he => bq_f (by decide) (h1 (fun q => he (evn_or.mpr q))))
  have he := evn_or.mp he
  have hm := hm he
  have hn := hn he
  have mv : (f = 17 ∧ cnd cd w ∨ f = 18 ∧ t = 0 ∨ f = 19 ∧ ¬ t = 0) → wp_Fu_fs w (fun r_36 => wp_Fu_bits cd fg L O r_36 wd (fun r_37 => wp_Fu_result cd fg L O w r_37 wd P)) := fun q => fu_fs (fu_bits ha ea he.1 (fu_result hd ed he.2 (hm q)))
  refine fun x ex => ?_
  rw [hf] at ex
  subst ex
  rcases hf3 with rfl | rfl | rfl
  · refine bq_f (by decide) (bq_f (by decide) (bq_t rfl (fu_cond (fun c => bq_f (by decide) (mv (Or.inl ⟨rfl, c⟩))) (fun c => bq_t rfl (hn ?_)))))
    rintro (⟨-, q⟩ | ⟨q, -⟩ | ⟨q, -⟩)
    · exact c q
    · exact absurd q (by decide)
    · exact absurd q (by decide)
  · refine bq_t rfl ⟨fun c => mv (Or.inr (Or.inl ⟨rfl, c⟩)), fun c => bq_f (by decide) (bq_f (by decide) (hn ?_))⟩
    rintro (⟨q, -⟩ | ⟨-, q⟩ | ⟨q, -⟩)
    · exact absurd q (by decide)
    · exact c q
    · exact absurd q (by decide)
  · refine bq_f (by decide) (bq_t rfl ⟨fun c => bq_f (by decide) (hn ?_), fun c => mv (Or.inr (Or.inr ⟨rfl, c⟩))⟩)
    rintro (⟨q, -⟩ | ⟨q, -⟩ | ⟨-, q⟩)
    · exact absurd q (by decide)
    · exact absurd q (by decide)
    · exact q c
/-- the reference's comparison -/
theorem md_compares {wd k : Int32} {A B : Nat} {P : MdT → Prop} (H : pre mn g rg hq mf cd fg w dd bm rr kt) (hA : fin wd A) (hB : fin wd B) (hk : k = w &&& 63 &&& 7)
    (h : ∀ dd' l1' l2', mdlo dd dd' → P (dd', l1', l2', bm, upd rr 66 (cdN cd w (cmpC wd A B)), kt)) : wp_Md_compares ms dd l1 l2 bm rr kt k (lN A) (lN B) wd P := by
  unfold wp_Md_compares
  refine md_take hA (fun d1 m1 o1 => ?_)
  obtain ⟨p0, p18, p14, p15⟩ := o1
  unfold wp_Md_aside
  dsimp only
  refine fun x ex y ey => ⟨by rw [ey, p18]; exact fn_bz _ _, fun z ez => ?_⟩
  refine md_take hB (fun d2 m2 o2 => ?_)
  obtain ⟨s0, s18, s14, s15⟩ := o2
  have e16 : d2 16 = fk wd A := by rw [s0 16 (by decide) (by decide) (by decide), pk_un (by decide), pk_un (by decide), pk_us, ex, p14]
  have lo : mdlo dd d2 := fun j hj => by
    rw [s0 j (by omega) (by omega) (by omega), pk_un (by omega), pk_un (by omega), pk_un (by omega), p0 j (by omega) (by omega) (by omega)]
  have h := h d2 m2 m1 lo
  have e9 : d2 9 = w := by rw [lo 9 (by decide)]; exact H.e9
  have r66 : rr 66 = cd := H.rel.2.2.2.2.2.1.1
  have c66 : (66 : Int32).toNatClampNeg = 66 := by decide
  have kb : ∀ c : Int32, c = 0 ∨ c = 1 ∨ c = 2 ∨ c = 4 → k &&& c = w &&& c := by
    intro c hc
    rw [hk, Int32.and_assoc, Int32.and_assoc]
    rcases hc with rfl | rfl | rfl | rfl <;> congr 1
  have t118 : ∀ s : Int32, (s = 0 ↔ w &&& cmpC wd A B = 0) → wj_Md_compares_118 ms k (lN A) (lN B) wd P s d2 m2 m1 bm rr kt := by
    intro s hs
    unfold wj_Md_compares_118
    refine fun x ex y ey => ?_
    rw [e9] at ex
    subst ex
    rw [c66, r66]
    have i66 : vp_in (66 : Int32) 67 := by unfold vp_in; decide
    unfold cdN at h
    refine ⟨fun c => ⟨i66, fun z ez t et => ⟨i66, ?_⟩⟩, fun c => ⟨i66, fun z ez t et => ⟨i66, ?_⟩⟩⟩
    · rw [if_pos (hs.mp c), ← ey, ← et, ← ez] at h; exact h
    · rw [if_neg (fun q => c (hs.mpr q)), ← ey, ← ez, ← et] at h; exact h
  have bit : ∀ c : Int32, c = 1 ∨ c = 2 ∨ c = 4 → (k &&& c = c ↔ ¬ w &&& c = 0) := by
    intro c hc
    rw [kb c (by rcases hc with rfl | rfl | rfl <;> simp)]
    have a1 := pk_and w (m := 1) 1 (by decide)
    rcases hc with rfl | rfl | rfl
    · obtain ⟨j, hj, e⟩ := pk_andE w (m := 1) 1 (by decide)
      rw [e]
      have : j = 0 ∨ j = 1 := by omega
      rcases this with rfl | rfl <;> decide
    · have e : w &&& 2 = (w &&& 3) &&& 2 := by rw [Int32.and_assoc]; rfl
      rw [e]
      obtain ⟨j, hj, e2⟩ := pk_andE w (m := 3) 2 (by decide)
      rw [e2]
      have : j = 0 ∨ j = 1 ∨ j = 2 ∨ j = 3 := by omega
      rcases this with rfl | rfl | rfl | rfl <;> decide
    · have e : w &&& 4 = (w &&& 7) &&& 4 := by rw [Int32.and_assoc]; rfl
      rw [e]
      obtain ⟨j, hj, e2⟩ := pk_andE w (m := 7) 3 (by decide)
      rw [e2]
      have : j = 0 ∨ j = 1 ∨ j = 2 ∨ j = 3 ∨ j = 4 ∨ j = 5 ∨ j = 6 ∨ j = 7 := by omega
      rcases this with rfl | rfl | rfl | rfl | rfl | rfl | rfl | rfl <;> decide
  have none : fk wd A = 3 ∨ fk wd B = 3 → wj_Md_compares_35 ms k (lN A) (lN B) wd P d2 m2 m1 bm rr kt := by
    intro q
    have ec : cmpC wd A B = 1 := by unfold cmpC; rw [if_pos q]
    unfold wj_Md_compares_35 wj_Md_compares_40 wj_Md_compares_59
    refine bq_f (by decide) (bq_f (by decide) ?_)
    rw [ec] at t118
    exact ⟨fun c => t118 1 ⟨fun z => absurd z (by decide), fun z => absurd z ((bit 1 (Or.inl rfl)).mp c)⟩, fun c => t118 0 ⟨fun _ => Classical.not_not.mp (fun z => c ((bit 1 (Or.inl rfl)).mpr z)), fun _ => rfl⟩⟩
  dsimp only
  rw [s14, e16]
  refine ⟨fun c => none (Or.inr c), fun c => ⟨fun c2 => none (Or.inl c2), fun c2 => ?_⟩⟩
  unfold wj_Md_compares_40
  refine bq_t rfl (md_order hA hB ?_)
  unfold cmpC at t118
  rw [if_neg (fun z => z.elim c2 c)] at t118
  unfold wj_Md_compares_59 wj_Md_compares_117
  refine bq_t rfl ?_
  by_cases e1 : sgz (fn wd A) (fm wd A) = sgz (fn wd B) (fm wd B)
  · rw [if_pos e1] at t118 ⊢
    refine bq_t rfl ⟨fun c => t118 1 ⟨fun z => absurd z (by decide), fun z => absurd z ((bit 2 (Or.inr (Or.inl rfl))).mp c)⟩, fun c => t118 0 ⟨fun _ => Classical.not_not.mp (fun z => c ((bit 2 (Or.inr (Or.inl rfl))).mpr z)), fun _ => rfl⟩⟩
  · rw [if_neg e1] at t118 ⊢
    by_cases e2 : sgz (fn wd A) (fm wd A) < sgz (fn wd B) (fm wd B)
    · rw [if_pos e2] at t118 ⊢
      refine bq_f (by decide) (bq_f (by decide) ⟨fun c => t118 1 ⟨fun z => absurd z (by decide), fun z => absurd z ((bit 4 (Or.inr (Or.inr rfl))).mp c)⟩, fun c => t118 0 ⟨fun _ => Classical.not_not.mp (fun z => c ((bit 4 (Or.inr (Or.inr rfl))).mpr z)), fun _ => rfl⟩⟩)
    · rw [if_neg e2] at t118 ⊢
      exact bq_f (by decide) (bq_t (by decide) (t118 0 ⟨fun _ => Int32.and_zero, fun _ => rfl⟩))
end COP2
