/-! ===== bits put together again; operations on what is no number, zero or without end ===== -/
def fm (w : Int32) (a : Nat) : Nat := fb w a * 2 ^ dg w + ff w a
theorem sb_p (w : Int32) : (mo w + 1) * 2 ^ dg w = 2 ^ sb w ∧ sb w < 64 ∧ (w = 0 ∧ sb w = 31 ∨ ¬ w = 0 ∧ sb w = 63) := by
  unfold sb
  rcases rn_fm w with ⟨c, q1, q2, -⟩ | ⟨c, q1, q2, -⟩
  · rw [q1, q2, if_pos c]; exact ⟨by decide, by decide, Or.inl ⟨c, rfl⟩⟩
  · rw [q1, q2, if_neg c]; exact ⟨by decide, by decide, Or.inr ⟨c, rfl⟩⟩
theorem fm_lt (w : Int32) (a : Nat) : fm w a < 2 ^ sb w := by
  have h1 : fb w a < mo w + 1 := Nat.mod_lt _ (by omega)
  have h2 : ff w a < 2 ^ dg w := Nat.mod_lt _ (Nat.two_pow_pos _)
  have h3 : (fb w a + 1) * 2 ^ dg w ≤ (mo w + 1) * 2 ^ dg w := Nat.mul_le_mul_right _ (by omega)
  rw [(sb_p w).1, Nat.add_mul, Nat.one_mul] at h3
  unfold fm
  omega
theorem fm_split {w : Int32} {a : Nat} (ha : fin w a) : a = a / 2 ^ sb w * 2 ^ sb w + fm w a ∧ a / 2 ^ sb w ≤ 1 := by
  have e : fm w a = a % 2 ^ sb w := by
    rw [← (sb_p w).1, Nat.mul_comm (mo w + 1), Nat.mod_mul]
    unfold fm fb ff
    rw [Nat.mul_comm, Nat.add_comm]
  constructor
  · rw [e, Nat.mul_comm]; exact (Nat.div_add_mod _ _).symm
  · obtain ⟨h1, h2⟩ := ha
    rcases (sb_p w).2.2 with ⟨c, q⟩ | ⟨c, q⟩
    · rw [q]; have := h2 c; omega
    · rw [q]; omega
theorem rn_sgN {n w : Int32} {m : Nat} (h : m < 2 ^ sb w) : rn_sg n w (lN m) = lN ((if n = 0 then 0 else 1) * 2 ^ sb w + m) := by
  unfold rn_sg
  by_cases c : n = 0
  · rw [if_pos c, if_pos c, Nat.zero_mul, Nat.zero_add]
  · rw [if_neg c, if_neg c]
    rcases (sb_p w).2.2 with ⟨d, q⟩ | ⟨d, q⟩
    · rw [if_pos d, q, l_orc]
      rw [q] at h
      have := fq_ors (a := 1) h
      rw [Nat.one_mul] at this
      rw [this, Nat.one_mul]
    · rw [if_neg d, q, l_orc]
      rw [q] at h
      have := fq_ors (a := 1) h
      rw [Nat.one_mul] at this
      rw [this, Nat.one_mul]
/-- the bits are their sign and the rest -/
theorem fm_id {w : Int32} {a : Nat} (ha : fin w a) : rn_sg (fn w a) w (lN (fm w a)) = lN a := by
  rw [rn_sgN (fm_lt w a)]
  obtain ⟨h1, h2⟩ := fm_split ha
  congr 1
  conv => rhs; rw [h1]
  congr 2
  unfold fn
  have : a / 2 ^ sb w = 0 ∨ a / 2 ^ sb w = 1 := by
    generalize a / 2 ^ sb w = z at h2; omega
  rcases this with q | q <;> rw [q] <;> decide
/-- a number is rounded to itself -/
theorem fm_rn {w : Int32} {a : Nat} (hk : fk w a = 1) : rn_mag w (fA w a * 2 ^ 10) (fp w a - 10) false = fm w a := by
  have h0 := fk_1 hk
  have hl := fX_log h0
  have d := rn_dl w
  have hb1 : fb w a < mo w + 1 := Nat.mod_lt _ (by omega)
  have hbm : ¬ fb w a = mo w := by
    intro q
    unfold fk at hk
    rw [if_pos q] at hk
    split at hk <;> exact absurd hk (by decide)
  have hls : lst w = 1 - bi w - dg w := by
    rcases rn_fm w with ⟨-, q1, q2, q3, q4⟩ | ⟨-, q1, q2, q3, q4⟩ <;> rw [q1, q3, q4] <;> rfl
  have hlog : fb w a ≠ 0 → (fX w a).log2 = dg w := by
    intro q
    have h1 : 2 ^ dg w ≤ fX w a := by unfold fX; rw [if_neg q]; omega
    have := (Nat.le_log2 h0).mpr h1
    omega
  have hlog0 : fb w a = 0 → (fX w a).log2 < dg w := by
    intro q
    rw [Nat.log2_lt h0]
    unfold fX
    rw [if_pos q]
    exact Nat.mod_lt _ (Nat.two_pow_pos _)
  have hV : fA w a * 2 ^ 10 = fX w a * 2 ^ (62 - (fX w a).log2) := by
    unfold fA
    rw [Nat.mul_assoc, ← Nat.pow_add]
    congr 2; omega
  have hk : rn_k w (fp w a - 10) = 62 - (fX w a).log2 ∧ (fp w a - 10 + rn_k w (fp w a - 10) - lst w).toNat = fb w a - 1 := by
    unfold rn_k fp fE
    by_cases c : fb w a = 0
    · have := hlog0 c
      rw [c] at *
      omega
    · have := hlog c
      omega
  have hp := Nat.two_pow_pos (62 - (fX w a).log2)
  have hA := fA_in h0
  rw [rn_mfin (by omega) ?_]
  · unfold rn_raw rn_up
    rw [hk.2, hk.1, hV, Nat.mul_div_cancel _ hp, Nat.mul_mod_left]
    have hp2 := Nat.two_pow_pos (62 - (fX w a).log2 - 1)
    rw [if_neg (by omega), Nat.add_zero]
    unfold fm fX
    by_cases c : fb w a = 0
    · rw [if_pos c, c]
    · rw [if_neg c]
      obtain ⟨g, hg⟩ : ∃ g, fb w a = g + 1 := ⟨fb w a - 1, by omega⟩
      rw [hg, Nat.add_sub_cancel, Nat.add_mul]
      omega
  · have m2 : 2 ≤ mo w := by rcases rn_fm w with ⟨-, -, q, -⟩ | ⟨-, -, q, -⟩ <;> rw [q] <;> decide
    have := (rn_ke w (fp w a - 10)).1
    omega
theorem fm_0 {w : Int32} {a : Nat} (hk : fk w a = 0) : fm w a = 0 := by
  unfold fk at hk
  split at hk
  · split at hk <;> exact absurd hk (by decide)
  · split at hk
    · rename_i c1 c2
      unfold fX at c2
      unfold fm
      split at c2
      · rename_i c3; rw [c3, c2]; simp
      · have := Nat.two_pow_pos (dg w); omega
    · exact absurd hk (by decide)
theorem fm_2 {w : Int32} {a : Nat} (hk : fk w a = 2) : fm w a = mo w * 2 ^ dg w := by
  unfold fk at hk
  split at hk
  · rename_i c1
    split at hk
    · rename_i c2
      unfold fm; rw [c1, c2]; rfl
    · exact absurd hk (by decide)
  · split at hk <;> exact absurd hk (by decide)
theorem fm_rnX {w : Int32} {a : Nat} (hk : fk w a = 1) : rnX w (fA w a) (fp w a) = fm w a := by
  have hA := fA_in (fk_1 hk)
  have : rnX w (fA w a) (fp w a) = rn_mag w (fA w a / 2 ^ 0 * 2 ^ 10) (fp w a + ((0 : Nat) : Int) - ((10 : Nat) : Int)) (decide (¬ fA w a % 2 ^ 0 = 0)) := by
    refine (rx_md (w := w) (X := fA w a) (j := 0) (t := 10) (e := fp w a) ?_ ?_ ?_).symm
    · rw [Nat.pow_zero, Nat.div_one]; omega
    · rw [Nat.pow_zero, Nat.div_one]; omega
    · intro q; rw [Nat.pow_zero, Nat.mod_one] at q; exact absurd rfl q
  rw [this, Nat.pow_zero, Nat.div_one, Nat.mod_one, show decide (¬ 0 = 0) = false by decide]
  rw [show fp w a + ((0 : Nat) : Int) - ((10 : Nat) : Int) = fp w a - 10 by omega]
  exact fm_rn hk
/-- the class's fraction of the bits a, with the sign n -/
def fr_is (w : Int32) (a : Nat) (n : Int32) (L : Fr4) : Prop := L.1 = n ∧ L.2.1 = fk w a ∧ (fk w a = 1 → L.2.2.1 = iI (fp w a + 52) ∧ L.2.2.2 = lN (fA w a * 2 ^ 10))
theorem frv_is {w n : Int32} {a : Nat} {L : Fr4} (h : fr_is w a n L) (h3 : ¬ fk w a = 3) : frv w (rn_sg n w (lN (fm w a))) L := by
  obtain ⟨n', k', e', m'⟩ := L
  obtain ⟨h1, h2, h4⟩ := h
  dsimp only at h1 h2 h4
  subst h1
  have hp := fp_in w a
  rcases fk_4 w a with q | q | q | q
  · rw [q] at h2; subst h2
    rw [fm_0 q]
    exact frv_0
  · rw [q] at h2; subst h2
    have hA := fA_in (fk_1 q)
    obtain ⟨h5, h6⟩ := h4 q
    subst h5; subst h6
    refine frv_1 (by omega) (by omega) (by omega) ?_
    rw [show fp w a + 52 - 62 = fp w a - 10 by omega, fm_rn q]
  · rw [q] at h2; subst h2
    rw [fm_2 q]
    exact frv_2
  · exact absurd q h3
theorem frv_no {w n : Int32} {a : Nat} {L : Fr4} (h : fr_is w a n L) (h3 : fk w a = 3) : frv w (rn_no w) L := by
  obtain ⟨n', k', e', m'⟩ := L
  obtain ⟨h1, h2, h4⟩ := h
  dsimp only at h1 h2 h4
  rw [h3] at h2; subst h2
  exact frv_3
