/-! ===== operations on one; conversions; words ===== -/
theorem fq_xor (a b : Nat) : lN a ^^^ lN b = lN (a ^^^ b) := by
  apply fq_inj
  rw [Int64.toBitVec_xor, fq_ltb, fq_ltb, fq_ltb, BitVec.ofNat_xor]
theorem fm_mod {w : Int32} {a : Nat} : fm w a = a % 2 ^ sb w := by
  rw [← (sb_p w).1, Nat.mul_comm (mo w + 1), Nat.mod_mul]
  unfold fm fb ff
  rw [Nat.mul_comm, Nat.add_comm]
theorem fin_lt {w : Int32} {a : Nat} (ha : fin w a) : a < 2 ^ (sb w + 1) := by
  obtain ⟨h1, h2⟩ := ha
  rcases (sb_p w).2.2 with ⟨c, q⟩ | ⟨c, q⟩
  · rw [q]; exact h2 c
  · rw [q]; exact h1
/-- the sign is dropped -/
theorem fm_abs {w : Int32} {a : Nat} (ha : fin w a) : lN a &&& (lN (2 ^ sb w) ^^^ (-1 : Int64)) = rn_sg 0 w (lN (fm w a)) := by
  unfold rn_sg
  rw [if_pos rfl, show (-1 : Int64) = lN (2 ^ 64 - 1) from rfl, fq_xor, fq_and, fm_mod]
  congr 1
  have hs := (sb_p w).2.1
  have hl := fin_lt ha
  apply Nat.eq_of_testBit_eq
  intro i
  rw [Nat.testBit_and, Nat.testBit_xor, Nat.testBit_two_pow_sub_one, Nat.testBit_two_pow, Nat.testBit_mod_two_pow]
  by_cases c : i < sb w
  · have : ¬ sb w = i := by omega
    have : i < 64 := by omega
    simp [*]
  · by_cases c2 : sb w = i
    · subst c2; simp [hs]
    · have : a.testBit i = false := Nat.testBit_lt_two_pow (Nat.lt_of_lt_of_le hl (Nat.pow_le_pow_right (by decide) (by omega)))
      simp [this]
theorem xor_top {s m : Nat} (h : m < 2 ^ s) : 2 ^ s + m = 2 ^ s ^^^ m := by
  apply Nat.eq_of_testBit_eq
  intro i
  rw [Nat.testBit_xor, Nat.testBit_two_pow]
  have e := Nat.testBit_two_pow_mul_add 1 h i
  rw [Nat.mul_one] at e
  rw [e]
  by_cases c : i < s
  · have : ¬ s = i := by omega
    simp [c, this]
  · have hf : m.testBit i = false := Nat.testBit_lt_two_pow (Nat.lt_of_lt_of_le h (Nat.pow_le_pow_right (by decide) (by omega)))
    rw [if_neg c, hf, Bool.xor_false]
    by_cases c2 : s = i
    · subst c2; simp
    · rw [show decide (s = i) = false by simp [c2]]
      have : i - s ≠ 0 := by omega
      obtain ⟨j, hj⟩ : ∃ j, i - s = j + 1 := ⟨i - s - 1, by omega⟩
      rw [hj, Nat.testBit_succ]
      simp
/-- the sign is turned round -/
theorem fm_neg {w : Int32} {a : Nat} (ha : fin w a) : lN a ^^^ lN (2 ^ sb w) = rn_sg (fneg (fn w a)) w (lN (fm w a)) := by
  rw [fq_xor, rn_sgN (fm_lt w a)]
  congr 1
  obtain ⟨h1, h2⟩ := fm_split ha
  have hor := xor_top (fm_lt w a)
  have hq : a / 2 ^ sb w = 0 ∨ a / 2 ^ sb w = 1 := by
    generalize a / 2 ^ sb w = z at h2; omega
  rcases hq with q | q
  · have hn : fn w a = 0 := by unfold fn; rw [q, if_pos (by decide)]
    have hf : fneg 0 = 1 := by decide
    rw [hn, hf, if_neg (by decide), Nat.one_mul, hor]
    rw [q, Nat.zero_mul, Nat.zero_add] at h1
    rw [← h1, Nat.xor_comm]
  · have hn : fn w a = 1 := by unfold fn; rw [q, if_neg (by decide)]
    have hf : fneg 1 = 0 := by decide
    rw [hn, hf, if_pos rfl, Nat.zero_mul, Nat.zero_add]
    rw [q, Nat.one_mul, hor] at h1
    conv => lhs; rw [h1]
    rw [Nat.xor_comm, ← Nat.xor_assoc, Nat.xor_self, Nat.zero_xor]
section MO1
variable {ms : Int32} {dd bm rr kt : Nat → Int32} {l1 l2 : Int64}
def md1 (w : Int32) (a : Nat) (dd : Nat → Int32) (l1 : Int64) : Prop := dd 18 = fn w a ∧ dd 14 = fk w a ∧ (fk w a = 1 → dd 15 = iI (fp w a) ∧ l1 = lN (fA w a))
theorem md_root {w : Int32} {a r x : Nat} {P : Int64 → Prop} (ha : fin w a) (hd : md1 w a dd l1) (h3 : ¬ fk w a = 3) (hr : rtOk w a r x) (h : P (rtB w (fn w a) a r x)) : wp_Md_root ms dd l1 l2 bm rr kt (lN a) w P := by
  obtain ⟨d18, d14, d15⟩ := hd
  have hi := fm_id ha
  unfold rtB at h
  rw [if_neg h3] at h
  unfold wp_Md_root
  rw [d14, d18]
  have pa := fp_in w a
  refine ⟨fun c => ?_, fun c => ⟨fun c2 => ⟨fun c3 => ?_, fun c3 y ey => ?_⟩, fun c2 => ?_⟩⟩
  · rw [if_pos c] at h
    rw [fm_0 c] at hi
    rw [← hi]; exact h
  · rw [if_neg c, if_neg (fun q => q c2), if_pos c3] at h
    rw [fm_2 c3] at hi
    rw [← hi]; exact h
  · rw [if_neg c, if_neg (fun q => q c2), if_neg c3, c2] at h
    have ka : fk w a = 1 := by
      rcases fk_4 w a with q | q | q | q
      · exact absurd q c
      · exact q
      · exact absurd q c3
      · exact absurd q h3
    obtain ⟨e1, e2⟩ := d15 ka
    subst e2
    rw [e1] at ey
    subst ey
    have hpar := fq_par (fp w a)
    have hA := fA_in (fk_1 ka)
    have hS := rtS_in (p := fp w a) hA
    unfold rtOk at hr
    obtain ⟨hr1, hr2⟩ := hr
    have fin0 : ∀ (v : Int64) (e : Int32), v = lN (rtS (fA w a) (fp w a)) → e = iI (2 * (fp w a / 2)) → wj_Md_root_59 ms (lN a) w dd (lN (fA w a)) l2 bm rr kt P v e := by
      intro v e hv he
      subst hv; subst he
      unfold wj_Md_root_59
      refine ⟨59, md_rtl (c := fp w a / 2) hS (by omega) hr1 hr2 h 58 0 0 0 (by decide) ?_ (by decide)⟩
      unfold rtT
      rw [Nat.mul_zero, Nat.pow_zero, Nat.mul_one, Nat.div_eq_of_lt (by omega)]
    have h01 : fp w a % 2 = 0 ∨ fp w a % 2 = 1 := by omega
    have hz : (iI (fp w a) &&& 1 = 0) ↔ fp w a % 2 = 0 := by
      rw [hpar]
      have := nI_eq (a := (fp w a % 2).toNat) (b := 0) (by omega) (by decide)
      rw [show (0 : Int32) = nI 0 from rfl, this]; omega
    refine ⟨fun c4 => fin0 _ _ ?_ ?_, fun c4 z ez t et => fin0 _ _ ?_ ?_⟩
    · have c4 := hz.mp c4
      unfold rtS
      rw [c4]; simp
    · have c4 := hz.mp c4
      congr 1; omega
    · have c4 : fp w a % 2 = 1 := by
        rcases h01 with q | q
        · exact absurd (hz.mpr q) c4
        · exact q
      unfold rtS
      rw [ez, c4, lN_sh1]; rfl
    · have c4 : fp w a % 2 = 1 := by
        rcases h01 with q | q
        · exact absurd (hz.mpr q) c4
        · exact q
      rw [et, show (-1 : Int32) = iI (-1) by decide, fq_add]
      congr 1; omega
  · rw [if_neg c, if_pos c2] at h
    exact md_noNumber h
def oneB (f w : Int32) (a r x : Nat) : Int64 := if f = 6 then lN a else if fk w a = 3 then rn_no w else if f = 5 then rn_sg 0 w (lN (fm w a)) else if f = 7 then rn_sg (fneg (fn w a)) w (lN (fm w a)) else rtB w (fn w a) a r x
theorem md_one {f w : Int32} {a r x : Nat} {P : Int64 → MdT → Prop} (ha : fin w a) (hr : rtOk w a r x)
    (h : ∀ dd' l1', mdlo dd dd' → P (oneB f w a r x) (dd', l1', l2, bm, rr, kt)) : wp_Md_one ms dd l1 l2 bm rr kt f (lN a) w P := by
  unfold oneB at h
  have core : ∀ s : Int64, s = lN (2 ^ sb w) → wp_Md_take ms dd l1 l2 bm rr kt (lN a) w (fun u3 => ((f = 6 → P (lN a) (u3.1, u3.2.1, u3.2.2.1, u3.2.2.2.1, u3.2.2.2.2.1, u3.2.2.2.2.2)) ∧ (¬ f = 6 → (((u3.1 14) = 3 → wp_Md_noNumber w (fun r_11 => P r_11 (u3.1, u3.2.1, u3.2.2.1, u3.2.2.2.1, u3.2.2.2.2.1, u3.2.2.2.2.2))) ∧ (¬ (u3.1 14) = 3 → ((f = 5 → ∀ x_10 : Int64, x_10 = (lN a &&& (s ^^^ (-1 : Int64))) → P x_10 (u3.1, u3.2.1, u3.2.2.1, u3.2.2.2.1, u3.2.2.2.2.1, u3.2.2.2.2.2)) ∧ (¬ f = 5 → ((f = 7 → P (lN a ^^^ s) (u3.1, u3.2.1, u3.2.2.1, u3.2.2.2.1, u3.2.2.2.2.1, u3.2.2.2.2.2)) ∧ (¬ f = 7 → wp_Md_root ms u3.1 u3.2.1 u3.2.2.1 u3.2.2.2.1 u3.2.2.2.2.1 u3.2.2.2.2.2 (lN a) w (fun r_9 => P r_9 (u3.1, u3.2.1, u3.2.2.1, u3.2.2.2.1, u3.2.2.2.2.1, u3.2.2.2.2.2))))))))))) := by
    intro s hs
    refine md_take ha (fun d1 m1 o1 => ?_)
    obtain ⟨p0, p18, p14, p15⟩ := o1
    have lo : mdlo dd d1 := fun j hj => p0 j (by omega) (by omega) (by omega)
    have h := h d1 m1 lo
    dsimp only
    rw [p14]
    refine ⟨fun c => by rw [if_pos c] at h; exact h, fun c => ⟨fun c2 => ?_, fun c2 => ⟨fun c3 y ey => ?_, fun c3 => ⟨fun c4 => ?_, fun c4 => ?_⟩⟩⟩⟩
    · rw [if_neg c, if_pos c2] at h; exact md_noNumber h
    · rw [if_neg c, if_neg c2, if_pos c3] at h
      rw [ey, hs, fm_abs ha]; exact h
    · rw [if_neg c, if_neg c2, if_neg c3, if_pos c4] at h
      rw [hs, fm_neg ha]; exact h
    · rw [if_neg c, if_neg c2, if_neg c3, if_neg c4] at h
      exact md_root ha ⟨p18, p14, p15⟩ c2 hr h
  unfold wp_Md_one
  refine ⟨fun c s es => core s ?_, fun c s es => core s ?_⟩
  · rw [es]; unfold sb; rw [if_pos c]; exact fq_1 (k := 31) (by decide)
  · rw [es]; unfold sb; rw [if_neg c]; exact fq_1 (k := 63) (by decide)
/-- the other width -/
def fow (w : Int32) : Int32 := if w = 0 then 1 else 0
def chB (w : Int32) (a : Nat) : Int64 := if fk w a = 3 then rn_no (fow w) else if fk w a = 2 then rn_sg (fn w a) (fow w) (lN (mo (fow w) * 2 ^ dg (fow w))) else if fk w a = 0 then rn_sg (fn w a) (fow w) 0 else rn_sg (fn w a) (fow w) (lN (rnX (fow w) (fA w a) (fp w a)))
theorem md_changed {w : Int32} {a : Nat} {P : Int64 → MdT → Prop} (ha : fin w a)
    (h : ∀ dd' l1', mdlo dd dd' → P (chB w a) (dd', l1', l2, bm, rr, kt)) : wp_Md_changed ms dd l1 l2 bm rr kt (lN a) w P := by
  unfold wp_Md_changed
  refine md_take ha (fun d1 m1 o1 => ?_)
  obtain ⟨p0, p18, p14, p15⟩ := o1
  have lo : mdlo dd d1 := fun j hj => p0 j (by omega) (by omega) (by omega)
  have h := h d1 m1 lo
  unfold chB at h
  dsimp only
  rw [p14, p18]
  have f0 : w = 0 → fow w = 1 := fun c => by unfold fow; rw [if_pos c]
  have f1 : ¬ w = 0 → fow w = 0 := fun c => by unfold fow; rw [if_neg c]
  have rnd : ∀ v : Int32, v = fow w → ¬ fk w a = 3 → ¬ fk w a = 2 → ¬ fk w a = 0 → wp_Md_rounded (fn w a) m1 (d1 15) 0 v (fun r => P r (d1, m1, l2, bm, rr, kt)) := by
    intro v hv c1 c2 c3
    have ka : fk w a = 1 := by
      rcases fk_4 w a with q | q | q | q
      · exact absurd q c3
      · exact q
      · exact absurd q c2
      · exact absurd q c1
    rw [if_neg c1, if_neg c2, if_neg c3] at h
    obtain ⟨e1, e2⟩ := p15 ka
    rw [e1, hv]
    subst e2
    have hA := fA_in (fk_1 ka)
    have hp := fp_in w a
    refine md_fin (X := fA w a) (j := 0) (by rw [Nat.pow_zero, Nat.div_one]) (by rw [Nat.pow_zero, Nat.mod_one]; decide) (by omega) (by omega) (fun q => absurd (by rw [Nat.pow_zero, Nat.mod_one]) q) (by omega) ?_
    rw [show fp w a - ((0 : Nat) : Int) = fp w a by omega]
    exact h
  refine ⟨fun c => ⟨fun d => ?_, fun d => ?_⟩, fun c => ⟨fun c2 => ⟨fun d => ?_, fun d => ?_⟩, fun c2 => ⟨fun c3 => ⟨fun d => ?_, fun d => ?_⟩, fun c3 => ⟨fun d => ?_, fun d => ?_⟩⟩⟩⟩
  · rw [if_pos c, f0 d] at h; exact md_noNumber h
  · rw [if_pos c, f1 d] at h; exact md_noNumber h
  · rw [if_neg c, if_pos c2, f0 d] at h; exact md_endless h
  · rw [if_neg c, if_pos c2, f1 d] at h; exact md_endless h
  · rw [if_neg c, if_neg c2, if_pos c3, f0 d] at h; exact md_signed h
  · rw [if_neg c, if_neg c2, if_pos c3, f1 d] at h; exact md_signed h
  · exact rnd 1 (f0 d).symm c c2 c3
  · exact rnd 0 (f1 d).symm c c2 c3
end MO1
/-- the class: a fraction of one width packed in another -/
theorem frv_ch {w : Int32} {a : Nat} {L : Fr4} (h : fr_is w a (fn w a) L) : frv (fow w) (chB w a) L := by
  obtain ⟨n', k', e', m'⟩ := L
  obtain ⟨h1, h2, h4⟩ := h
  dsimp only at h1 h2 h4
  subst h1
  have hp := fp_in w a
  unfold chB
  rcases fk_4 w a with q | q | q | q
  · rw [q] at h2; subst h2
    rw [q, if_neg (by decide), if_neg (by decide), if_pos rfl]
    exact frv_0
  · rw [q] at h2; subst h2
    have hA := fA_in (fk_1 q)
    obtain ⟨h5, h6⟩ := h4 q
    subst h5; subst h6
    rw [q, if_neg (by decide), if_neg (by decide), if_neg (by decide)]
    refine frv_1 (by omega) (by omega) (by omega) ?_
    congr 2
    have := rx_md (w := fow w) (X := fA w a) (j := 0) (t := 10) (e := fp w a) (by rw [Nat.pow_zero, Nat.div_one]; omega) (by rw [Nat.pow_zero, Nat.div_one]; omega) (fun z => absurd (by rw [Nat.pow_zero, Nat.mod_one]) z)
    rw [Nat.pow_zero, Nat.div_one, Nat.mod_one, show decide (¬ 0 = 0) = false by decide] at this
    rw [← this]
    congr 1; omega
  · rw [q] at h2; subst h2
    rw [q, if_neg (by decide), if_pos rfl]
    exact frv_2
  · rw [q] at h2; subst h2
    rw [q, if_pos rfl]
    exact frv_3
