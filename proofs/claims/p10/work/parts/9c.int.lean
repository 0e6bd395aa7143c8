/-! ===== integer instructions ===== -/
theorem bq_t {c A B : Prop} (hc : c) (h : A) : (c → A) ∧ (¬ c → B) := ⟨fun _ => h, fun q => absurd hc q⟩
theorem bq_f {c A B : Prop} (hc : ¬ c) (h : B) : (c → A) ∧ (¬ c → B) := ⟨fun q => absurd q hc, fun _ => h⟩
section INT
variable {ms : Int32} {mn S : Nat} {g rg hq mf : Nat → Int32} {cd : Int32} {fg : Nat → Int32} {L O : Fr4} {dd bm rr kt : Nat → Int32} {l1 l2 : Int64} {w : Int32}
theorem l_add32 (a b : Int32) : (a.toInt64 + b.toInt64).toInt32 = a + b := by simp
theorem l_sub32 (a b : Int32) : (a.toInt64 - b.toInt64).toInt32 = a - b := by simp
theorem md_sumI0 {k : Int32} {v : Int64} {P : MdT → Prop} (h5 : dd 5 = 0) (h : P (dd, l1, l2, bm, wr rr (fI w k) v.toInt32, kt)) : wp_Md_sum_IJZV ms dd l1 l2 bm rr kt (fI w k) v 0 P := by
  unfold wp_Md_sum_IJZV wj_Md_sum_IJZV_18
  exact bq_t rfl (md_into h5 h)
theorem md_sumI1 {k : Int32} {v : Int64} {P : MdT → Prop} (h5 : dd 5 = 0) (hv : v = v.toInt32.toInt64) (h : P (dd, l1, l2, bm, wr rr (fI w k) v.toInt32, kt)) : wp_Md_sum_IJZV ms dd l1 l2 bm rr kt (fI w k) v 1 P := by
  unfold wp_Md_sum_IJZV wj_Md_sum_IJZV_18
  exact bq_f (by decide) (bq_t hv (md_into h5 h))
theorem md_sumI2 {k : Int32} {v : Int64} {P : MdT → Prop} (h5 : dd 5 = 0) (hv : ¬ v = v.toInt32.toInt64) (h : P (upd dd 5 4, l1, l2, bm, rr, kt)) : wp_Md_sum_IJZV ms dd l1 l2 bm rr kt k v 1 P := by
  unfold wp_Md_sum_IJZV wj_Md_sum_IJZV_18
  refine bq_f (by decide) (bq_f hv (md_ends h5 (md_into_n ?_ h)))
  exact (by decide : ¬ (4 : Int32) = 0)
/-- below, without sign -/
theorem u_toN (a : Int32) : a.toInt64 &&& (4294967295 : Int64) = lN a.toBitVec.toNat := by
  rw [m32]
  apply fq_inj
  rw [Int64.toBitVec_and, fq_ltb, fq_ltb]
  show BitVec.signExtend 64 a.toBitVec &&& _ = _
  apply BitVec.eq_of_getLsbD_eq
  intro i hi
  rw [BitVec.getLsbD_and, BitVec.getLsbD_signExtend, BitVec.getLsbD_ofNat, BitVec.getLsbD_ofNat, Nat.testBit_two_pow_sub_one]
  by_cases c : i < 32
  · simp [c, hi]; rfl
  · have : a.toBitVec.toNat.testBit i = false := Nat.testBit_lt_two_pow (Nat.lt_of_lt_of_le a.toBitVec.isLt (Nat.pow_le_pow_right (by decide) (by omega)))
    simp [c, this]
theorem u_lt (a b : Int32) : ((a.toInt64 &&& (4294967295 : Int64)) < (b.toInt64 &&& (4294967295 : Int64))) ↔ a.toBitVec.toNat < b.toBitVec.toNat := by
  rw [u_toN, u_toN]
  have h1 := a.toBitVec.isLt
  have h2 := b.toBitVec.isLt
  exact pk_lLT (by omega) (by omega)
theorem u_le (a b : Int32) : ((a.toInt64 &&& (4294967295 : Int64)) ≤ (b.toInt64 &&& (4294967295 : Int64))) ↔ a.toBitVec.toNat ≤ b.toBitVec.toNat := by
  rw [u_toN, u_toN]
  have h1 := a.toBitVec.isLt
  have h2 := b.toBitVec.isLt
  exact pk_lLE (by omega) (by omega)
theorem u_fl (a : Int32) : (a + (-2147483648)).toInt = (a.toBitVec.toNat : Int) - 2147483648 := by
  have h1 := a.toBitVec.isLt
  have e : a.toInt = if 2 * a.toBitVec.toNat < 2 ^ 32 then (a.toBitVec.toNat : Int) else (a.toBitVec.toNat : Int) - (2 ^ 32 : Nat) := BitVec.toInt_eq_toNat_cond _
  rw [Int32.toInt_add, show (-2147483648 : Int32).toInt = -2147483648 from rfl, e]
  split
  · rw [Int.bmod_eq_of_le (by omega) (by omega)]; omega
  · have : ((a.toBitVec.toNat : Int) - (2 ^ 32 : Nat) + -2147483648) = ((a.toBitVec.toNat : Int) - 2147483648) - 4294967296 := by omega
    rw [this]
    have e2 : (((a.toBitVec.toNat : Int) - 2147483648) - 4294967296).bmod (2 ^ 32) = ((a.toBitVec.toNat : Int) - 2147483648).bmod (2 ^ 32) := by
      rw [Int.bmod_eq_bmod_iff_bmod_sub_eq_zero, show ((a.toBitVec.toNat : Int) - 2147483648) - 4294967296 - ((a.toBitVec.toNat : Int) - 2147483648) = -4294967296 by omega]; decide
    rw [e2, Int.bmod_eq_of_le (by omega) (by omega)]
theorem md_below {a b : Int32} {P : Int32 → Prop} (h : P (if a.toBitVec.toNat < b.toBitVec.toNat then 1 else 0)) : wp_Md_below a b P := by
  unfold wp_Md_below
  have e : (b + -2147483648 ≤ a + -2147483648) ↔ b.toBitVec.toNat ≤ a.toBitVec.toNat := by
    rw [Int32.le_iff_toInt_le, u_fl, u_fl]; omega
  rw [e]
  refine ⟨fun c => ?_, fun c => ?_⟩
  · rw [if_neg (by omega)] at h; exact h
  · rw [if_pos (by omega)] at h; exact h

theorem i_addu (H : pre mn g rg hq mf cd fg w dd bm rr kt) (ho : zz_ushr w 26 = 0) (hf : w &&& 63 = 33) : pfx ms mn g rg hq mf cd fg w dd bm rr kt := by
  refine pfx_mk H 0 (fun L O => (g, wr rg (fI w 11) (rv rg w 21 + rv rg w 16), hq, mf, cd, fg, L, O)) (fun dd l1 l2 => (dd, l1, l2, bm, wr rr (fI w 11) (rv rg w 21 + rv rg w 16), kt)) (fun L O P hP => ?_) (fun dd l1 l2 H L O => ⟨oc_0 (q_wr H.rel) H.e5 H.e11 H.e12 H.e13, fun Q hQ => ?_⟩) (fun _ _ _ _ => rfl) (fun _ _ _ _ _ hs => ⟨by repeat first | exact hs | apply lo_upd, rfl, rfl, rfl⟩) (by first | exact Or.inr (fun _ _ => rfl) | exact Or.inl (by unfold q_e; decide)) (fun _ _ _ => rfl)
  · unfold wp_Pr_perform
    refine pr_op ?_
    rw [ho]
    repeat first | refine bq_t (by decide) ?_ | refine bq_f (by decide) ?_
    unfold wp_Pr_special
    refine pr_fun ?_
    rw [hf]
    repeat first | refine bq_t (by decide) ?_ | refine bq_f (by decide) ?_
    unfold wp_Pr_arithmetic
    refine pr_rs ⟨fI_in w 21, fun a ea => pr_rt ⟨fI_in w 16, fun b eb => pr_fun ?_⟩⟩
    subst ea
    subst eb
    rw [hf]
    repeat first | refine bq_t (by decide) ?_ | refine bq_f (by decide) ?_
    exact pr_rd (pr_result hP)
  · unfold wp_Md_operate
    rw [ho]
    repeat first | refine bq_t (by decide) ?_ | refine bq_f (by decide) ?_
    rw [H.e9, hf]
    unfold wp_Md_special
    repeat first | refine bq_t (by decide) ?_ | refine bq_f (by decide) ?_
    try unfold wp_Md_alu
    refine md_rs H.e9 H.rel (md_rt H.e9 H.rel (md_field H.e9 ?_))
    repeat first | refine bq_t (by decide) ?_ | refine bq_f (by decide) ?_
    exact md_into H.e5 (by rw [l_add32]; exact hQ)

theorem i_subu (H : pre mn g rg hq mf cd fg w dd bm rr kt) (ho : zz_ushr w 26 = 0) (hf : w &&& 63 = 35) : pfx ms mn g rg hq mf cd fg w dd bm rr kt := by
  refine pfx_mk H 0 (fun L O => (g, wr rg (fI w 11) (rv rg w 21 - rv rg w 16), hq, mf, cd, fg, L, O)) (fun dd l1 l2 => (dd, l1, l2, bm, wr rr (fI w 11) (rv rg w 21 - rv rg w 16), kt)) (fun L O P hP => ?_) (fun dd l1 l2 H L O => ⟨oc_0 (q_wr H.rel) H.e5 H.e11 H.e12 H.e13, fun Q hQ => ?_⟩) (fun _ _ _ _ => rfl) (fun _ _ _ _ _ hs => ⟨by repeat first | exact hs | apply lo_upd, rfl, rfl, rfl⟩) (by first | exact Or.inr (fun _ _ => rfl) | exact Or.inl (by unfold q_e; decide)) (fun _ _ _ => rfl)
  · unfold wp_Pr_perform
    refine pr_op ?_
    rw [ho]
    repeat first | refine bq_t (by decide) ?_ | refine bq_f (by decide) ?_
    unfold wp_Pr_special
    refine pr_fun ?_
    rw [hf]
    repeat first | refine bq_t (by decide) ?_ | refine bq_f (by decide) ?_
    unfold wp_Pr_arithmetic
    refine pr_rs ⟨fI_in w 21, fun a ea => pr_rt ⟨fI_in w 16, fun b eb => pr_fun ?_⟩⟩
    subst ea
    subst eb
    rw [hf]
    repeat first | refine bq_t (by decide) ?_ | refine bq_f (by decide) ?_
    exact pr_rd (pr_result hP)
  · unfold wp_Md_operate
    rw [ho]
    repeat first | refine bq_t (by decide) ?_ | refine bq_f (by decide) ?_
    rw [H.e9, hf]
    unfold wp_Md_special
    repeat first | refine bq_t (by decide) ?_ | refine bq_f (by decide) ?_
    try unfold wp_Md_alu
    refine md_rs H.e9 H.rel (md_rt H.e9 H.rel (md_field H.e9 ?_))
    repeat first | refine bq_t (by decide) ?_ | refine bq_f (by decide) ?_
    exact md_into H.e5 (by rw [l_sub32]; exact hQ)

theorem i_and (H : pre mn g rg hq mf cd fg w dd bm rr kt) (ho : zz_ushr w 26 = 0) (hf : w &&& 63 = 36) : pfx ms mn g rg hq mf cd fg w dd bm rr kt := by
  refine pfx_mk H 0 (fun L O => (g, wr rg (fI w 11) (rv rg w 21 &&& rv rg w 16), hq, mf, cd, fg, L, O)) (fun dd l1 l2 => (dd, l1, l2, bm, wr rr (fI w 11) (rv rg w 21 &&& rv rg w 16), kt)) (fun L O P hP => ?_) (fun dd l1 l2 H L O => ⟨oc_0 (q_wr H.rel) H.e5 H.e11 H.e12 H.e13, fun Q hQ => ?_⟩) (fun _ _ _ _ => rfl) (fun _ _ _ _ _ hs => ⟨by repeat first | exact hs | apply lo_upd, rfl, rfl, rfl⟩) (by first | exact Or.inr (fun _ _ => rfl) | exact Or.inl (by unfold q_e; decide)) (fun _ _ _ => rfl)
  · unfold wp_Pr_perform
    refine pr_op ?_
    rw [ho]
    repeat first | refine bq_t (by decide) ?_ | refine bq_f (by decide) ?_
    unfold wp_Pr_special
    refine pr_fun ?_
    rw [hf]
    repeat first | refine bq_t (by decide) ?_ | refine bq_f (by decide) ?_
    unfold wp_Pr_arithmetic
    refine pr_rs ⟨fI_in w 21, fun a ea => pr_rt ⟨fI_in w 16, fun b eb => pr_fun ?_⟩⟩
    subst ea
    subst eb
    rw [hf]
    repeat first | refine bq_t (by decide) ?_ | refine bq_f (by decide) ?_
    exact pr_rd (pr_result hP)
  · unfold wp_Md_operate
    rw [ho]
    repeat first | refine bq_t (by decide) ?_ | refine bq_f (by decide) ?_
    rw [H.e9, hf]
    unfold wp_Md_special
    repeat first | refine bq_t (by decide) ?_ | refine bq_f (by decide) ?_
    try unfold wp_Md_alu
    refine md_rs H.e9 H.rel (md_rt H.e9 H.rel (md_field H.e9 ?_))
    repeat first | refine bq_t (by decide) ?_ | refine bq_f (by decide) ?_
    exact md_into H.e5 hQ

theorem i_or (H : pre mn g rg hq mf cd fg w dd bm rr kt) (ho : zz_ushr w 26 = 0) (hf : w &&& 63 = 37) : pfx ms mn g rg hq mf cd fg w dd bm rr kt := by
  refine pfx_mk H 0 (fun L O => (g, wr rg (fI w 11) (rv rg w 21 ||| rv rg w 16), hq, mf, cd, fg, L, O)) (fun dd l1 l2 => (dd, l1, l2, bm, wr rr (fI w 11) (rv rg w 21 ||| rv rg w 16), kt)) (fun L O P hP => ?_) (fun dd l1 l2 H L O => ⟨oc_0 (q_wr H.rel) H.e5 H.e11 H.e12 H.e13, fun Q hQ => ?_⟩) (fun _ _ _ _ => rfl) (fun _ _ _ _ _ hs => ⟨by repeat first | exact hs | apply lo_upd, rfl, rfl, rfl⟩) (by first | exact Or.inr (fun _ _ => rfl) | exact Or.inl (by unfold q_e; decide)) (fun _ _ _ => rfl)
  · unfold wp_Pr_perform
    refine pr_op ?_
    rw [ho]
    repeat first | refine bq_t (by decide) ?_ | refine bq_f (by decide) ?_
    unfold wp_Pr_special
    refine pr_fun ?_
    rw [hf]
    repeat first | refine bq_t (by decide) ?_ | refine bq_f (by decide) ?_
    unfold wp_Pr_arithmetic
    refine pr_rs ⟨fI_in w 21, fun a ea => pr_rt ⟨fI_in w 16, fun b eb => pr_fun ?_⟩⟩
    subst ea
    subst eb
    rw [hf]
    repeat first | refine bq_t (by decide) ?_ | refine bq_f (by decide) ?_
    exact pr_rd (pr_result hP)
  · unfold wp_Md_operate
    rw [ho]
    repeat first | refine bq_t (by decide) ?_ | refine bq_f (by decide) ?_
    rw [H.e9, hf]
    unfold wp_Md_special
    repeat first | refine bq_t (by decide) ?_ | refine bq_f (by decide) ?_
    try unfold wp_Md_alu
    refine md_rs H.e9 H.rel (md_rt H.e9 H.rel (md_field H.e9 ?_))
    repeat first | refine bq_t (by decide) ?_ | refine bq_f (by decide) ?_
    exact md_into H.e5 hQ

theorem i_xor (H : pre mn g rg hq mf cd fg w dd bm rr kt) (ho : zz_ushr w 26 = 0) (hf : w &&& 63 = 38) : pfx ms mn g rg hq mf cd fg w dd bm rr kt := by
  refine pfx_mk H 0 (fun L O => (g, wr rg (fI w 11) (rv rg w 21 ^^^ rv rg w 16), hq, mf, cd, fg, L, O)) (fun dd l1 l2 => (dd, l1, l2, bm, wr rr (fI w 11) (rv rg w 21 ^^^ rv rg w 16), kt)) (fun L O P hP => ?_) (fun dd l1 l2 H L O => ⟨oc_0 (q_wr H.rel) H.e5 H.e11 H.e12 H.e13, fun Q hQ => ?_⟩) (fun _ _ _ _ => rfl) (fun _ _ _ _ _ hs => ⟨by repeat first | exact hs | apply lo_upd, rfl, rfl, rfl⟩) (by first | exact Or.inr (fun _ _ => rfl) | exact Or.inl (by unfold q_e; decide)) (fun _ _ _ => rfl)
  · unfold wp_Pr_perform
    refine pr_op ?_
    rw [ho]
    repeat first | refine bq_t (by decide) ?_ | refine bq_f (by decide) ?_
    unfold wp_Pr_special
    refine pr_fun ?_
    rw [hf]
    repeat first | refine bq_t (by decide) ?_ | refine bq_f (by decide) ?_
    unfold wp_Pr_arithmetic
    refine pr_rs ⟨fI_in w 21, fun a ea => pr_rt ⟨fI_in w 16, fun b eb => pr_fun ?_⟩⟩
    subst ea
    subst eb
    rw [hf]
    repeat first | refine bq_t (by decide) ?_ | refine bq_f (by decide) ?_
    exact pr_rd (pr_result hP)
  · unfold wp_Md_operate
    rw [ho]
    repeat first | refine bq_t (by decide) ?_ | refine bq_f (by decide) ?_
    rw [H.e9, hf]
    unfold wp_Md_special
    repeat first | refine bq_t (by decide) ?_ | refine bq_f (by decide) ?_
    try unfold wp_Md_alu
    refine md_rs H.e9 H.rel (md_rt H.e9 H.rel (md_field H.e9 ?_))
    repeat first | refine bq_t (by decide) ?_ | refine bq_f (by decide) ?_
    exact md_into H.e5 hQ

theorem i_nor (H : pre mn g rg hq mf cd fg w dd bm rr kt) (ho : zz_ushr w 26 = 0) (hf : w &&& 63 = 39) : pfx ms mn g rg hq mf cd fg w dd bm rr kt := by
  refine pfx_mk H 0 (fun L O => (g, wr rg (fI w 11) ((rv rg w 21 ||| rv rg w 16) ^^^ (-1)), hq, mf, cd, fg, L, O)) (fun dd l1 l2 => (dd, l1, l2, bm, wr rr (fI w 11) ((rv rg w 21 ||| rv rg w 16) ^^^ (-1)), kt)) (fun L O P hP => ?_) (fun dd l1 l2 H L O => ⟨oc_0 (q_wr H.rel) H.e5 H.e11 H.e12 H.e13, fun Q hQ => ?_⟩) (fun _ _ _ _ => rfl) (fun _ _ _ _ _ hs => ⟨by repeat first | exact hs | apply lo_upd, rfl, rfl, rfl⟩) (by first | exact Or.inr (fun _ _ => rfl) | exact Or.inl (by unfold q_e; decide)) (fun _ _ _ => rfl)
  · unfold wp_Pr_perform
    refine pr_op ?_
    rw [ho]
    repeat first | refine bq_t (by decide) ?_ | refine bq_f (by decide) ?_
    unfold wp_Pr_special
    refine pr_fun ?_
    rw [hf]
    repeat first | refine bq_t (by decide) ?_ | refine bq_f (by decide) ?_
    unfold wp_Pr_arithmetic
    refine pr_rs ⟨fI_in w 21, fun a ea => pr_rt ⟨fI_in w 16, fun b eb => pr_fun ?_⟩⟩
    subst ea
    subst eb
    rw [hf]
    repeat first | refine bq_t (by decide) ?_ | refine bq_f (by decide) ?_
    exact pr_rd (fun x ex => by subst ex; exact pr_result hP)
  · unfold wp_Md_operate
    rw [ho]
    repeat first | refine bq_t (by decide) ?_ | refine bq_f (by decide) ?_
    rw [H.e9, hf]
    unfold wp_Md_special
    repeat first | refine bq_t (by decide) ?_ | refine bq_f (by decide) ?_
    try unfold wp_Md_alu
    refine md_rs H.e9 H.rel (md_rt H.e9 H.rel (md_field H.e9 ?_))
    repeat first | refine bq_t (by decide) ?_ | refine bq_f (by decide) ?_
    exact fun x ex => by subst ex; exact md_into H.e5 hQ

theorem i_add (H : pre mn g rg hq mf cd fg w dd bm rr kt) (ho : zz_ushr w 26 = 0) (hf : w &&& 63 = 32) : pfx ms mn g rg hq mf cd fg w dd bm rr kt := by
  by_cases hv : ((rv rg w 21).toInt64 + (rv rg w 16).toInt64) = ((rv rg w 21).toInt64 + (rv rg w 16).toInt64).toInt32.toInt64
  · refine pfx_mk H 0 (fun L O => (g, wr rg (fI w 11) ((rv rg w 21).toInt64 + (rv rg w 16).toInt64).toInt32, hq, mf, cd, fg, L, O)) (fun dd l1 l2 => (dd, l1, l2, bm, wr rr (fI w 11) ((rv rg w 21).toInt64 + (rv rg w 16).toInt64).toInt32, kt)) (fun L O P hP => ?_) (fun dd l1 l2 H L O => ⟨oc_0 (q_wr H.rel) H.e5 H.e11 H.e12 H.e13, fun Q hQ => ?_⟩) (fun _ _ _ _ => rfl) (fun _ _ _ _ _ hs => ⟨by repeat first | exact hs | apply lo_upd, rfl, rfl, rfl⟩) (by first | exact Or.inr (fun _ _ => rfl) | exact Or.inl (by unfold q_e; decide)) (fun _ _ _ => rfl)
    · unfold wp_Pr_perform
      refine pr_op ?_
      rw [ho]
      repeat first | refine bq_t (by decide) ?_ | refine bq_f (by decide) ?_
      unfold wp_Pr_special
      refine pr_fun ?_
      rw [hf]
      repeat first | refine bq_t (by decide) ?_ | refine bq_f (by decide) ?_
      unfold wp_Pr_arithmetic
      refine pr_rs ⟨fI_in w 21, fun a ea => pr_rt ⟨fI_in w 16, fun b eb => pr_fun ?_⟩⟩
      subst ea
      subst eb
      rw [hf]
      repeat first | refine bq_t (by decide) ?_ | refine bq_f (by decide) ?_
      refine pr_rd ?_
      unfold wp_Pr_exactResult
      exact bq_t hv (pr_result hP)
    · unfold wp_Md_operate
      rw [ho]
      repeat first | refine bq_t (by decide) ?_ | refine bq_f (by decide) ?_
      rw [H.e9, hf]
      unfold wp_Md_special
      repeat first | refine bq_t (by decide) ?_ | refine bq_f (by decide) ?_
      try unfold wp_Md_alu
      refine md_rs H.e9 H.rel (md_rt H.e9 H.rel (md_field H.e9 ?_))
      repeat first | refine bq_t (by decide) ?_ | refine bq_f (by decide) ?_
      exact bq_t hv (md_into H.e5 hQ)
  · refine pfx_mk H 4 (fun L O => (g, rg, hq, mf, cd, fg, L, O)) (fun dd l1 l2 => (upd dd 5 4, l1, l2, bm, rr, kt)) (fun L O P hP => ?_) (fun dd l1 l2 H L O => ⟨oc_end (by unfold q_e; simp) H.rel H.nxt rfl (fun j _ h => pk_un h), fun Q hQ => ?_⟩) (fun _ _ _ _ => rfl) (fun _ _ _ _ _ hs => ⟨by repeat first | exact hs | apply lo_upd, rfl, rfl, rfl⟩) (by first | exact Or.inr (fun _ _ => rfl) | exact Or.inl (by unfold q_e; decide)) (fun _ _ _ => rfl)
    · unfold wp_Pr_perform
      refine pr_op ?_
      rw [ho]
      repeat first | refine bq_t (by decide) ?_ | refine bq_f (by decide) ?_
      unfold wp_Pr_special
      refine pr_fun ?_
      rw [hf]
      repeat first | refine bq_t (by decide) ?_ | refine bq_f (by decide) ?_
      unfold wp_Pr_arithmetic
      refine pr_rs ⟨fI_in w 21, fun a ea => pr_rt ⟨fI_in w 16, fun b eb => pr_fun ?_⟩⟩
      subst ea
      subst eb
      rw [hf]
      repeat first | refine bq_t (by decide) ?_ | refine bq_f (by decide) ?_
      refine pr_rd ?_
      unfold wp_Pr_exactResult
      exact bq_f hv hP
    · unfold wp_Md_operate
      rw [ho]
      repeat first | refine bq_t (by decide) ?_ | refine bq_f (by decide) ?_
      rw [H.e9, hf]
      unfold wp_Md_special
      repeat first | refine bq_t (by decide) ?_ | refine bq_f (by decide) ?_
      try unfold wp_Md_alu
      refine md_rs H.e9 H.rel (md_rt H.e9 H.rel (md_field H.e9 ?_))
      repeat first | refine bq_t (by decide) ?_ | refine bq_f (by decide) ?_
      exact bq_f hv (md_ends H.e5 (md_into_n (show ¬ (4 : Int32) = 0 by decide) hQ))

theorem i_sub (H : pre mn g rg hq mf cd fg w dd bm rr kt) (ho : zz_ushr w 26 = 0) (hf : w &&& 63 = 34) : pfx ms mn g rg hq mf cd fg w dd bm rr kt := by
  by_cases hv : ((rv rg w 21).toInt64 - (rv rg w 16).toInt64) = ((rv rg w 21).toInt64 - (rv rg w 16).toInt64).toInt32.toInt64
  · refine pfx_mk H 0 (fun L O => (g, wr rg (fI w 11) ((rv rg w 21).toInt64 - (rv rg w 16).toInt64).toInt32, hq, mf, cd, fg, L, O)) (fun dd l1 l2 => (dd, l1, l2, bm, wr rr (fI w 11) ((rv rg w 21).toInt64 - (rv rg w 16).toInt64).toInt32, kt)) (fun L O P hP => ?_) (fun dd l1 l2 H L O => ⟨oc_0 (q_wr H.rel) H.e5 H.e11 H.e12 H.e13, fun Q hQ => ?_⟩) (fun _ _ _ _ => rfl) (fun _ _ _ _ _ hs => ⟨by repeat first | exact hs | apply lo_upd, rfl, rfl, rfl⟩) (by first | exact Or.inr (fun _ _ => rfl) | exact Or.inl (by unfold q_e; decide)) (fun _ _ _ => rfl)
    · unfold wp_Pr_perform
      refine pr_op ?_
      rw [ho]
      repeat first | refine bq_t (by decide) ?_ | refine bq_f (by decide) ?_
      unfold wp_Pr_special
      refine pr_fun ?_
      rw [hf]
      repeat first | refine bq_t (by decide) ?_ | refine bq_f (by decide) ?_
      unfold wp_Pr_arithmetic
      refine pr_rs ⟨fI_in w 21, fun a ea => pr_rt ⟨fI_in w 16, fun b eb => pr_fun ?_⟩⟩
      subst ea
      subst eb
      rw [hf]
      repeat first | refine bq_t (by decide) ?_ | refine bq_f (by decide) ?_
      refine pr_rd ?_
      unfold wp_Pr_exactResult
      exact bq_t hv (pr_result hP)
    · unfold wp_Md_operate
      rw [ho]
      repeat first | refine bq_t (by decide) ?_ | refine bq_f (by decide) ?_
      rw [H.e9, hf]
      unfold wp_Md_special
      repeat first | refine bq_t (by decide) ?_ | refine bq_f (by decide) ?_
      try unfold wp_Md_alu
      refine md_rs H.e9 H.rel (md_rt H.e9 H.rel (md_field H.e9 ?_))
      repeat first | refine bq_t (by decide) ?_ | refine bq_f (by decide) ?_
      exact bq_t hv (md_into H.e5 hQ)
  · refine pfx_mk H 4 (fun L O => (g, rg, hq, mf, cd, fg, L, O)) (fun dd l1 l2 => (upd dd 5 4, l1, l2, bm, rr, kt)) (fun L O P hP => ?_) (fun dd l1 l2 H L O => ⟨oc_end (by unfold q_e; simp) H.rel H.nxt rfl (fun j _ h => pk_un h), fun Q hQ => ?_⟩) (fun _ _ _ _ => rfl) (fun _ _ _ _ _ hs => ⟨by repeat first | exact hs | apply lo_upd, rfl, rfl, rfl⟩) (by first | exact Or.inr (fun _ _ => rfl) | exact Or.inl (by unfold q_e; decide)) (fun _ _ _ => rfl)
    · unfold wp_Pr_perform
      refine pr_op ?_
      rw [ho]
      repeat first | refine bq_t (by decide) ?_ | refine bq_f (by decide) ?_
      unfold wp_Pr_special
      refine pr_fun ?_
      rw [hf]
      repeat first | refine bq_t (by decide) ?_ | refine bq_f (by decide) ?_
      unfold wp_Pr_arithmetic
      refine pr_rs ⟨fI_in w 21, fun a ea => pr_rt ⟨fI_in w 16, fun b eb => pr_fun ?_⟩⟩
      subst ea
      subst eb
      rw [hf]
      repeat first | refine bq_t (by decide) ?_ | refine bq_f (by decide) ?_
      refine pr_rd ?_
      unfold wp_Pr_exactResult
      exact bq_f hv hP
    · unfold wp_Md_operate
      rw [ho]
      repeat first | refine bq_t (by decide) ?_ | refine bq_f (by decide) ?_
      rw [H.e9, hf]
      unfold wp_Md_special
      repeat first | refine bq_t (by decide) ?_ | refine bq_f (by decide) ?_
      try unfold wp_Md_alu
      refine md_rs H.e9 H.rel (md_rt H.e9 H.rel (md_field H.e9 ?_))
      repeat first | refine bq_t (by decide) ?_ | refine bq_f (by decide) ?_
      exact bq_f hv (md_ends H.e5 (md_into_n (show ¬ (4 : Int32) = 0 by decide) hQ))

theorem i_slt (H : pre mn g rg hq mf cd fg w dd bm rr kt) (ho : zz_ushr w 26 = 0) (hf : w &&& 63 = 42) : pfx ms mn g rg hq mf cd fg w dd bm rr kt := by
  by_cases hv : ¬ rv rg w 16 ≤ rv rg w 21
  · refine pfx_mk H 0 (fun L O => (g, wr rg (fI w 11) 1, hq, mf, cd, fg, L, O)) (fun dd l1 l2 => (dd, l1, l2, bm, wr rr (fI w 11) 1, kt)) (fun L O P hP => ?_) (fun dd l1 l2 H L O => ⟨oc_0 (q_wr H.rel) H.e5 H.e11 H.e12 H.e13, fun Q hQ => ?_⟩) (fun _ _ _ _ => rfl) (fun _ _ _ _ _ hs => ⟨by repeat first | exact hs | apply lo_upd, rfl, rfl, rfl⟩) (by first | exact Or.inr (fun _ _ => rfl) | exact Or.inl (by unfold q_e; decide)) (fun _ _ _ => rfl)
    · unfold wp_Pr_perform
      refine pr_op ?_
      rw [ho]
      repeat first | refine bq_t (by decide) ?_ | refine bq_f (by decide) ?_
      unfold wp_Pr_special
      refine pr_fun ?_
      rw [hf]
      repeat first | refine bq_t (by decide) ?_ | refine bq_f (by decide) ?_
      unfold wp_Pr_arithmetic
      refine pr_rs ⟨fI_in w 21, fun a ea => pr_rt ⟨fI_in w 16, fun b eb => pr_fun ?_⟩⟩
      subst ea
      subst eb
      rw [hf]
      repeat first | refine bq_t (by decide) ?_ | refine bq_f (by decide) ?_
      exact pr_rd (bq_f hv (pr_result hP))
    · unfold wp_Md_operate
      rw [ho]
      repeat first | refine bq_t (by decide) ?_ | refine bq_f (by decide) ?_
      rw [H.e9, hf]
      unfold wp_Md_special
      repeat first | refine bq_t (by decide) ?_ | refine bq_f (by decide) ?_
      try unfold wp_Md_alu
      refine md_rs H.e9 H.rel (md_rt H.e9 H.rel (md_field H.e9 ?_))
      repeat first | refine bq_t (by decide) ?_ | refine bq_f (by decide) ?_
      exact bq_f hv (md_into H.e5 hQ)
  · refine pfx_mk H 0 (fun L O => (g, wr rg (fI w 11) 0, hq, mf, cd, fg, L, O)) (fun dd l1 l2 => (dd, l1, l2, bm, wr rr (fI w 11) 0, kt)) (fun L O P hP => ?_) (fun dd l1 l2 H L O => ⟨oc_0 (q_wr H.rel) H.e5 H.e11 H.e12 H.e13, fun Q hQ => ?_⟩) (fun _ _ _ _ => rfl) (fun _ _ _ _ _ hs => ⟨by repeat first | exact hs | apply lo_upd, rfl, rfl, rfl⟩) (by first | exact Or.inr (fun _ _ => rfl) | exact Or.inl (by unfold q_e; decide)) (fun _ _ _ => rfl)
    · unfold wp_Pr_perform
      refine pr_op ?_
      rw [ho]
      repeat first | refine bq_t (by decide) ?_ | refine bq_f (by decide) ?_
      unfold wp_Pr_special
      refine pr_fun ?_
      rw [hf]
      repeat first | refine bq_t (by decide) ?_ | refine bq_f (by decide) ?_
      unfold wp_Pr_arithmetic
      refine pr_rs ⟨fI_in w 21, fun a ea => pr_rt ⟨fI_in w 16, fun b eb => pr_fun ?_⟩⟩
      subst ea
      subst eb
      rw [hf]
      repeat first | refine bq_t (by decide) ?_ | refine bq_f (by decide) ?_
      exact pr_rd (bq_t (Classical.not_not.mp hv) (pr_result hP))
    · unfold wp_Md_operate
      rw [ho]
      repeat first | refine bq_t (by decide) ?_ | refine bq_f (by decide) ?_
      rw [H.e9, hf]
      unfold wp_Md_special
      repeat first | refine bq_t (by decide) ?_ | refine bq_f (by decide) ?_
      try unfold wp_Md_alu
      refine md_rs H.e9 H.rel (md_rt H.e9 H.rel (md_field H.e9 ?_))
      repeat first | refine bq_t (by decide) ?_ | refine bq_f (by decide) ?_
      exact bq_t (Classical.not_not.mp hv) (md_into H.e5 hQ)

theorem i_sltu (H : pre mn g rg hq mf cd fg w dd bm rr kt) (ho : zz_ushr w 26 = 0) (hf : w &&& 63 = 43) : pfx ms mn g rg hq mf cd fg w dd bm rr kt := by
  by_cases hv : (rv rg w 21).toBitVec.toNat < (rv rg w 16).toBitVec.toNat
  · refine pfx_mk H 0 (fun L O => (g, wr rg (fI w 11) 1, hq, mf, cd, fg, L, O)) (fun dd l1 l2 => (dd, l1, l2, bm, wr rr (fI w 11) 1, kt)) (fun L O P hP => ?_) (fun dd l1 l2 H L O => ⟨oc_0 (q_wr H.rel) H.e5 H.e11 H.e12 H.e13, fun Q hQ => ?_⟩) (fun _ _ _ _ => rfl) (fun _ _ _ _ _ hs => ⟨by repeat first | exact hs | apply lo_upd, rfl, rfl, rfl⟩) (by first | exact Or.inr (fun _ _ => rfl) | exact Or.inl (by unfold q_e; decide)) (fun _ _ _ => rfl)
    · unfold wp_Pr_perform
      refine pr_op ?_
      rw [ho]
      repeat first | refine bq_t (by decide) ?_ | refine bq_f (by decide) ?_
      unfold wp_Pr_special
      refine pr_fun ?_
      rw [hf]
      repeat first | refine bq_t (by decide) ?_ | refine bq_f (by decide) ?_
      unfold wp_Pr_arithmetic
      refine pr_rs ⟨fI_in w 21, fun a ea => pr_rt ⟨fI_in w 16, fun b eb => pr_fun ?_⟩⟩
      subst ea
      subst eb
      rw [hf]
      repeat first | refine bq_t (by decide) ?_ | refine bq_f (by decide) ?_
      unfold wp_Pr_unsigned
      have hv : (rg (fI w 21).toNatClampNeg).toBitVec.toNat < (rg (fI w 16).toNatClampNeg).toBitVec.toNat := hv
      refine pr_rd (fun x ex y ey => ?_)
      subst ex
      subst ey
      rw [u_le]
      exact bq_f (by omega) (pr_result hP)
    · unfold wp_Md_operate
      rw [ho]
      repeat first | refine bq_t (by decide) ?_ | refine bq_f (by decide) ?_
      rw [H.e9, hf]
      unfold wp_Md_special
      repeat first | refine bq_t (by decide) ?_ | refine bq_f (by decide) ?_
      try unfold wp_Md_alu
      refine md_rs H.e9 H.rel (md_rt H.e9 H.rel (md_field H.e9 ?_))
      repeat first | refine bq_t (by decide) ?_ | refine bq_f (by decide) ?_
      refine md_below ?_
      rw [if_pos hv]
      exact bq_f (by decide) (md_into H.e5 hQ)
  · refine pfx_mk H 0 (fun L O => (g, wr rg (fI w 11) 0, hq, mf, cd, fg, L, O)) (fun dd l1 l2 => (dd, l1, l2, bm, wr rr (fI w 11) 0, kt)) (fun L O P hP => ?_) (fun dd l1 l2 H L O => ⟨oc_0 (q_wr H.rel) H.e5 H.e11 H.e12 H.e13, fun Q hQ => ?_⟩) (fun _ _ _ _ => rfl) (fun _ _ _ _ _ hs => ⟨by repeat first | exact hs | apply lo_upd, rfl, rfl, rfl⟩) (by first | exact Or.inr (fun _ _ => rfl) | exact Or.inl (by unfold q_e; decide)) (fun _ _ _ => rfl)
    · unfold wp_Pr_perform
      refine pr_op ?_
      rw [ho]
      repeat first | refine bq_t (by decide) ?_ | refine bq_f (by decide) ?_
      unfold wp_Pr_special
      refine pr_fun ?_
      rw [hf]
      repeat first | refine bq_t (by decide) ?_ | refine bq_f (by decide) ?_
      unfold wp_Pr_arithmetic
      refine pr_rs ⟨fI_in w 21, fun a ea => pr_rt ⟨fI_in w 16, fun b eb => pr_fun ?_⟩⟩
      subst ea
      subst eb
      rw [hf]
      repeat first | refine bq_t (by decide) ?_ | refine bq_f (by decide) ?_
      unfold wp_Pr_unsigned
      have hv : ¬ (rg (fI w 21).toNatClampNeg).toBitVec.toNat < (rg (fI w 16).toNatClampNeg).toBitVec.toNat := hv
      refine pr_rd (fun x ex y ey => ?_)
      subst ex
      subst ey
      rw [u_le]
      exact bq_t (by omega) (pr_result hP)
    · unfold wp_Md_operate
      rw [ho]
      repeat first | refine bq_t (by decide) ?_ | refine bq_f (by decide) ?_
      rw [H.e9, hf]
      unfold wp_Md_special
      repeat first | refine bq_t (by decide) ?_ | refine bq_f (by decide) ?_
      try unfold wp_Md_alu
      refine md_rs H.e9 H.rel (md_rt H.e9 H.rel (md_field H.e9 ?_))
      repeat first | refine bq_t (by decide) ?_ | refine bq_f (by decide) ?_
      refine md_below ?_
      rw [if_neg hv]
      exact bq_t (by decide) (md_into H.e5 hQ)

theorem i_sll (H : pre mn g rg hq mf cd fg w dd bm rr kt) (ho : zz_ushr w 26 = 0) (hf : w &&& 63 = 0) : pfx ms mn g rg hq mf cd fg w dd bm rr kt := by
  refine pfx_mk H 0 (fun L O => (g, wr rg (fI w 11) (zz_shl (rv rg w 16) (fI w 6)), hq, mf, cd, fg, L, O)) (fun dd l1 l2 => (dd, l1, l2, bm, wr rr (fI w 11) (zz_shl (rv rg w 16) (fI w 6)), kt)) (fun L O P hP => ?_) (fun dd l1 l2 H L O => ⟨oc_0 (q_wr H.rel) H.e5 H.e11 H.e12 H.e13, fun Q hQ => ?_⟩) (fun _ _ _ _ => rfl) (fun _ _ _ _ _ hs => ⟨by repeat first | exact hs | apply lo_upd, rfl, rfl, rfl⟩) (by first | exact Or.inr (fun _ _ => rfl) | exact Or.inl (by unfold q_e; decide)) (fun _ _ _ => rfl)
  · unfold wp_Pr_perform
    refine pr_op ?_
    rw [ho]
    repeat first | refine bq_t (by decide) ?_ | refine bq_f (by decide) ?_
    unfold wp_Pr_special
    refine pr_fun ?_
    rw [hf]
    repeat first | refine bq_t (by decide) ?_ | refine bq_f (by decide) ?_
    unfold wp_Pr_shiftOrMoveOnCondition
    refine pr_rt ⟨fI_in w 16, fun a ea c ec => pr_rs ⟨fI_in w 21, fun b eb d ed => pr_fun ?_⟩⟩
    subst ea
    subst eb
    subst ec
    subst ed
    rw [hf]
    repeat first | refine bq_t (by decide) ?_ | refine bq_f (by decide) ?_
    exact pr_rd (pr_result hP)
  · unfold wp_Md_operate
    rw [ho]
    repeat first | refine bq_t (by decide) ?_ | refine bq_f (by decide) ?_
    rw [H.e9, hf]
    unfold wp_Md_special
    repeat first | refine bq_t (by decide) ?_ | refine bq_f (by decide) ?_
    try unfold wp_Md_shifts
    repeat first | refine bq_t (by decide) ?_ | refine bq_f (by decide) ?_
    refine md_field H.e9 (fun x ex => ?_)
    subst ex
    refine md_field H.e9 ?_
    repeat first | refine bq_t (by decide) ?_ | refine bq_f (by decide) ?_
    refine md_rt H.e9 H.rel ?_
    exact md_into H.e5 hQ

theorem i_srl (H : pre mn g rg hq mf cd fg w dd bm rr kt) (ho : zz_ushr w 26 = 0) (hf : w &&& 63 = 2) : pfx ms mn g rg hq mf cd fg w dd bm rr kt := by
  refine pfx_mk H 0 (fun L O => (g, wr rg (fI w 11) (zz_ushr (rv rg w 16) (fI w 6)), hq, mf, cd, fg, L, O)) (fun dd l1 l2 => (dd, l1, l2, bm, wr rr (fI w 11) (zz_ushr (rv rg w 16) (fI w 6)), kt)) (fun L O P hP => ?_) (fun dd l1 l2 H L O => ⟨oc_0 (q_wr H.rel) H.e5 H.e11 H.e12 H.e13, fun Q hQ => ?_⟩) (fun _ _ _ _ => rfl) (fun _ _ _ _ _ hs => ⟨by repeat first | exact hs | apply lo_upd, rfl, rfl, rfl⟩) (by first | exact Or.inr (fun _ _ => rfl) | exact Or.inl (by unfold q_e; decide)) (fun _ _ _ => rfl)
  · unfold wp_Pr_perform
    refine pr_op ?_
    rw [ho]
    repeat first | refine bq_t (by decide) ?_ | refine bq_f (by decide) ?_
    unfold wp_Pr_special
    refine pr_fun ?_
    rw [hf]
    repeat first | refine bq_t (by decide) ?_ | refine bq_f (by decide) ?_
    unfold wp_Pr_shiftOrMoveOnCondition
    refine pr_rt ⟨fI_in w 16, fun a ea c ec => pr_rs ⟨fI_in w 21, fun b eb d ed => pr_fun ?_⟩⟩
    subst ea
    subst eb
    subst ec
    subst ed
    rw [hf]
    repeat first | refine bq_t (by decide) ?_ | refine bq_f (by decide) ?_
    exact pr_rd (pr_result hP)
  · unfold wp_Md_operate
    rw [ho]
    repeat first | refine bq_t (by decide) ?_ | refine bq_f (by decide) ?_
    rw [H.e9, hf]
    unfold wp_Md_special
    repeat first | refine bq_t (by decide) ?_ | refine bq_f (by decide) ?_
    try unfold wp_Md_shifts
    repeat first | refine bq_t (by decide) ?_ | refine bq_f (by decide) ?_
    refine md_field H.e9 (fun x ex => ?_)
    subst ex
    refine md_field H.e9 ?_
    repeat first | refine bq_t (by decide) ?_ | refine bq_f (by decide) ?_
    refine md_rt H.e9 H.rel ?_
    exact md_into H.e5 hQ

theorem i_sra (H : pre mn g rg hq mf cd fg w dd bm rr kt) (ho : zz_ushr w 26 = 0) (hf : w &&& 63 = 3) : pfx ms mn g rg hq mf cd fg w dd bm rr kt := by
  refine pfx_mk H 0 (fun L O => (g, wr rg (fI w 11) (zz_shr (rv rg w 16) (fI w 6)), hq, mf, cd, fg, L, O)) (fun dd l1 l2 => (dd, l1, l2, bm, wr rr (fI w 11) (zz_shr (rv rg w 16) (fI w 6)), kt)) (fun L O P hP => ?_) (fun dd l1 l2 H L O => ⟨oc_0 (q_wr H.rel) H.e5 H.e11 H.e12 H.e13, fun Q hQ => ?_⟩) (fun _ _ _ _ => rfl) (fun _ _ _ _ _ hs => ⟨by repeat first | exact hs | apply lo_upd, rfl, rfl, rfl⟩) (by first | exact Or.inr (fun _ _ => rfl) | exact Or.inl (by unfold q_e; decide)) (fun _ _ _ => rfl)
  · unfold wp_Pr_perform
    refine pr_op ?_
    rw [ho]
    repeat first | refine bq_t (by decide) ?_ | refine bq_f (by decide) ?_
    unfold wp_Pr_special
    refine pr_fun ?_
    rw [hf]
    repeat first | refine bq_t (by decide) ?_ | refine bq_f (by decide) ?_
    unfold wp_Pr_shiftOrMoveOnCondition
    refine pr_rt ⟨fI_in w 16, fun a ea c ec => pr_rs ⟨fI_in w 21, fun b eb d ed => pr_fun ?_⟩⟩
    subst ea
    subst eb
    subst ec
    subst ed
    rw [hf]
    repeat first | refine bq_t (by decide) ?_ | refine bq_f (by decide) ?_
    exact pr_rd (pr_result hP)
  · unfold wp_Md_operate
    rw [ho]
    repeat first | refine bq_t (by decide) ?_ | refine bq_f (by decide) ?_
    rw [H.e9, hf]
    unfold wp_Md_special
    repeat first | refine bq_t (by decide) ?_ | refine bq_f (by decide) ?_
    try unfold wp_Md_shifts
    repeat first | refine bq_t (by decide) ?_ | refine bq_f (by decide) ?_
    refine md_field H.e9 (fun x ex => ?_)
    subst ex
    refine md_field H.e9 ?_
    repeat first | refine bq_t (by decide) ?_ | refine bq_f (by decide) ?_
    refine md_rt H.e9 H.rel ?_
    exact md_into H.e5 hQ

theorem i_sllv (H : pre mn g rg hq mf cd fg w dd bm rr kt) (ho : zz_ushr w 26 = 0) (hf : w &&& 63 = 4) : pfx ms mn g rg hq mf cd fg w dd bm rr kt := by
  refine pfx_mk H 0 (fun L O => (g, wr rg (fI w 11) (zz_shl (rv rg w 16) (rv rg w 21 &&& 31)), hq, mf, cd, fg, L, O)) (fun dd l1 l2 => (dd, l1, l2, bm, wr rr (fI w 11) (zz_shl (rv rg w 16) (rv rg w 21 &&& 31)), kt)) (fun L O P hP => ?_) (fun dd l1 l2 H L O => ⟨oc_0 (q_wr H.rel) H.e5 H.e11 H.e12 H.e13, fun Q hQ => ?_⟩) (fun _ _ _ _ => rfl) (fun _ _ _ _ _ hs => ⟨by repeat first | exact hs | apply lo_upd, rfl, rfl, rfl⟩) (by first | exact Or.inr (fun _ _ => rfl) | exact Or.inl (by unfold q_e; decide)) (fun _ _ _ => rfl)
  · unfold wp_Pr_perform
    refine pr_op ?_
    rw [ho]
    repeat first | refine bq_t (by decide) ?_ | refine bq_f (by decide) ?_
    unfold wp_Pr_special
    refine pr_fun ?_
    rw [hf]
    repeat first | refine bq_t (by decide) ?_ | refine bq_f (by decide) ?_
    unfold wp_Pr_shiftOrMoveOnCondition
    refine pr_rt ⟨fI_in w 16, fun a ea c ec => pr_rs ⟨fI_in w 21, fun b eb d ed => pr_fun ?_⟩⟩
    subst ea
    subst eb
    subst ec
    subst ed
    rw [hf]
    repeat first | refine bq_t (by decide) ?_ | refine bq_f (by decide) ?_
    exact pr_rd (pr_result hP)
  · unfold wp_Md_operate
    rw [ho]
    repeat first | refine bq_t (by decide) ?_ | refine bq_f (by decide) ?_
    rw [H.e9, hf]
    unfold wp_Md_special
    repeat first | refine bq_t (by decide) ?_ | refine bq_f (by decide) ?_
    try unfold wp_Md_shifts
    repeat first | refine bq_t (by decide) ?_ | refine bq_f (by decide) ?_
    refine md_rs H.e9 H.rel (fun y ey x ex => ?_)
    subst ex
    subst ey
    refine md_field H.e9 ?_
    repeat first | refine bq_t (by decide) ?_ | refine bq_f (by decide) ?_
    refine md_rt H.e9 H.rel ?_
    exact md_into H.e5 hQ

theorem i_srlv (H : pre mn g rg hq mf cd fg w dd bm rr kt) (ho : zz_ushr w 26 = 0) (hf : w &&& 63 = 6) : pfx ms mn g rg hq mf cd fg w dd bm rr kt := by
  refine pfx_mk H 0 (fun L O => (g, wr rg (fI w 11) (zz_ushr (rv rg w 16) (rv rg w 21 &&& 31)), hq, mf, cd, fg, L, O)) (fun dd l1 l2 => (dd, l1, l2, bm, wr rr (fI w 11) (zz_ushr (rv rg w 16) (rv rg w 21 &&& 31)), kt)) (fun L O P hP => ?_) (fun dd l1 l2 H L O => ⟨oc_0 (q_wr H.rel) H.e5 H.e11 H.e12 H.e13, fun Q hQ => ?_⟩) (fun _ _ _ _ => rfl) (fun _ _ _ _ _ hs => ⟨by repeat first | exact hs | apply lo_upd, rfl, rfl, rfl⟩) (by first | exact Or.inr (fun _ _ => rfl) | exact Or.inl (by unfold q_e; decide)) (fun _ _ _ => rfl)
  · unfold wp_Pr_perform
    refine pr_op ?_
    rw [ho]
    repeat first | refine bq_t (by decide) ?_ | refine bq_f (by decide) ?_
    unfold wp_Pr_special
    refine pr_fun ?_
    rw [hf]
    repeat first | refine bq_t (by decide) ?_ | refine bq_f (by decide) ?_
    unfold wp_Pr_shiftOrMoveOnCondition
    refine pr_rt ⟨fI_in w 16, fun a ea c ec => pr_rs ⟨fI_in w 21, fun b eb d ed => pr_fun ?_⟩⟩
    subst ea
    subst eb
    subst ec
    subst ed
    rw [hf]
    repeat first | refine bq_t (by decide) ?_ | refine bq_f (by decide) ?_
    exact pr_rd (pr_result hP)
  · unfold wp_Md_operate
    rw [ho]
    repeat first | refine bq_t (by decide) ?_ | refine bq_f (by decide) ?_
    rw [H.e9, hf]
    unfold wp_Md_special
    repeat first | refine bq_t (by decide) ?_ | refine bq_f (by decide) ?_
    try unfold wp_Md_shifts
    repeat first | refine bq_t (by decide) ?_ | refine bq_f (by decide) ?_
    refine md_rs H.e9 H.rel (fun y ey x ex => ?_)
    subst ex
    subst ey
    refine md_field H.e9 ?_
    repeat first | refine bq_t (by decide) ?_ | refine bq_f (by decide) ?_
    refine md_rt H.e9 H.rel ?_
    exact md_into H.e5 hQ

theorem i_srav (H : pre mn g rg hq mf cd fg w dd bm rr kt) (ho : zz_ushr w 26 = 0) (hf : w &&& 63 = 7) : pfx ms mn g rg hq mf cd fg w dd bm rr kt := by
  refine pfx_mk H 0 (fun L O => (g, wr rg (fI w 11) (zz_shr (rv rg w 16) (rv rg w 21 &&& 31)), hq, mf, cd, fg, L, O)) (fun dd l1 l2 => (dd, l1, l2, bm, wr rr (fI w 11) (zz_shr (rv rg w 16) (rv rg w 21 &&& 31)), kt)) (fun L O P hP => ?_) (fun dd l1 l2 H L O => ⟨oc_0 (q_wr H.rel) H.e5 H.e11 H.e12 H.e13, fun Q hQ => ?_⟩) (fun _ _ _ _ => rfl) (fun _ _ _ _ _ hs => ⟨by repeat first | exact hs | apply lo_upd, rfl, rfl, rfl⟩) (by first | exact Or.inr (fun _ _ => rfl) | exact Or.inl (by unfold q_e; decide)) (fun _ _ _ => rfl)
  · unfold wp_Pr_perform
    refine pr_op ?_
    rw [ho]
    repeat first | refine bq_t (by decide) ?_ | refine bq_f (by decide) ?_
    unfold wp_Pr_special
    refine pr_fun ?_
    rw [hf]
    repeat first | refine bq_t (by decide) ?_ | refine bq_f (by decide) ?_
    unfold wp_Pr_shiftOrMoveOnCondition
    refine pr_rt ⟨fI_in w 16, fun a ea c ec => pr_rs ⟨fI_in w 21, fun b eb d ed => pr_fun ?_⟩⟩
    subst ea
    subst eb
    subst ec
    subst ed
    rw [hf]
    repeat first | refine bq_t (by decide) ?_ | refine bq_f (by decide) ?_
    exact pr_rd (pr_result hP)
  · unfold wp_Md_operate
    rw [ho]
    repeat first | refine bq_t (by decide) ?_ | refine bq_f (by decide) ?_
    rw [H.e9, hf]
    unfold wp_Md_special
    repeat first | refine bq_t (by decide) ?_ | refine bq_f (by decide) ?_
    try unfold wp_Md_shifts
    repeat first | refine bq_t (by decide) ?_ | refine bq_f (by decide) ?_
    refine md_rs H.e9 H.rel (fun y ey x ex => ?_)
    subst ex
    subst ey
    refine md_field H.e9 ?_
    repeat first | refine bq_t (by decide) ?_ | refine bq_f (by decide) ?_
    refine md_rt H.e9 H.rel ?_
    exact md_into H.e5 hQ

end INT
