/-! ===== the start, and what is owed ===== -/
theorem zn_and8 {j : Nat} (hj : j < 4294967296) : j &&& 4294967288 = j / 8 * 8 := by
  rw [show (4294967288 : Nat) = (2 ^ 29 - 1) * 2 ^ 3 from rfl, show j / 8 * 8 = j / 2 ^ 3 * 2 ^ 3 from rfl]
  apply Nat.eq_of_testBit_eq
  intro i
  rw [Nat.testBit_and, Nat.testBit_mul_two_pow, Nat.testBit_mul_two_pow, Nat.testBit_two_pow_sub_one, Nat.testBit_div_two_pow]
  by_cases h3 : 3 ≤ i
  · rw [show i - 3 + 3 = i by omega]
    by_cases h9 : i - 3 < 29
    · simp [h3, h9]
    · have : j.testBit i = false := Nat.testBit_lt_two_pow (Nat.lt_of_lt_of_le hj (by
        calc 4294967296 = 2 ^ 32 := rfl
          _ ≤ 2 ^ i := Nat.pow_le_pow_right (by decide) (by omega)))
      simp [this]
  · simp [h3]
theorem zz_size_nat3 (a0 : Int32) : ∃ k : Nat, 8 ≤ k ∧ k ≤ 262144 ∧ k % 8 = 0 ∧ zz_size a0 = nI k := by
  by_cases h1 : (1024 : Int32) ≤ a0
  · by_cases h2 : a0 ≤ (262144 : Int32)
    · have e1 := Int32.le_iff_toInt_le.mp h1
      rw [zz_t1024] at e1
      have h3 : ¬ a0 < 0 := fun q => by
        have e2 := Int32.lt_iff_toInt_lt.mp q
        rw [Int32.toInt_zero] at e2
        omega
      obtain ⟨j, hj, e⟩ := nI_of2 (x := a0) (M := 262144) (n := 262144) (by decide) h3 h2
      subst e
      rw [nI_toInt (by omega)] at e1
      refine ⟨j &&& 4294967288, ?_, Nat.le_trans Nat.and_le_left hj, ?_, ?_⟩
      · rw [zn_and8 (by omega)]; omega
      · rw [zn_and8 (by omega)]; omega
      · rw [zz_size_mid h1 h2, ← zz_nand]
        rfl
    · exact ⟨262144, by decide, Nat.le_refl _, by decide, by rw [zz_size_hi h2]; decide⟩
  · exact ⟨1024, by decide, by decide, by decide, by rw [zz_size_lo h1]; decide⟩
theorem q_word_0 (k : Nat) : q_word (fun _ => 0) k = 0 := by
  show (zz_shl ((zz_shl ((zz_shl ((zz_shl 0 8) ||| ((0 : Int32) &&& 255)) 8) ||| ((0 : Int32) &&& 255)) 8) ||| ((0 : Int32) &&& 255)) 8) ||| ((0 : Int32) &&& 255) = 0
  decide
def z_u : CoT := (fun k => if k = 1 then 4 else 0, fun _ => 0, upd (upd (fun _ => 0) 2 1) 3 1, fun _ => 0, 0, fun _ => 0, (0, 0, 0, 0), (0, 0, 0, 0))
def z_v : MdT := (fun k => if k = 1 ∨ k = 2 then 1 else if k = 4 then 4 else 0, 0, 0, fun _ => 0, fun _ => 0, fun _ => 0)
theorem q_ok0 (S mn : Nat) : q_ok S mn z_u z_v := by
  refine ⟨⟨⟨fun _ _ => rfl, rfl, ⟨Or.inr rfl, rfl, fun q => absurd q (by decide), fun _ => rfl⟩, ⟨Or.inr rfl, rfl, fun q => absurd q (by decide), fun _ => rfl⟩, fun _ _ => rfl, ⟨rfl, by decide⟩, ⟨rfl, rfl, rfl, rfl, Or.inl rfl, rfl, Or.inl rfl, fun q => absurd rfl q⟩, ⟨rfl, rfl, rfl, rfl, rfl⟩, fun k _ => (q_word_0 k).symm⟩, fun _ => rfl⟩, ⟨fun q => q.elim (fun z => absurd (show (0 : Int32) = 6 from z) (by decide)) (fun z => absurd (show (0 : Int32) = 7 from z) (by decide)), Or.inl rfl⟩⟩
theorem owed_all {L : Nat} (hL : L ≤ 1537) (xs : Nat → Int32) (a0 : Int32) : zz_owed L xs a0 := by
  obtain ⟨k, k8, kS, km, e⟩ := zz_size_nat3 a0
  refine ⟨513, by decide, ?_⟩
  have e4 : (nI k / 4).toNatClampNeg = k / 4 := by
    rw [show (4 : Int32) = nI 4 from rfl, pk_div (by omega) (by decide) (by decide), nI_clamp (by omega)]
  rw [e, e4]
  have M : mem (nI k) (k / 4) k := ⟨kS, k8, rfl, rfl, km⟩
  have z := law_rel (S := k) M hL xs 512 1 z_u z_v z_v (0, 0, 0, 0) (0, 0, 0, 0) (fun _ => 0) (by decide) (by omega) (q_ok0 k (k / 4)) ⟨fun _ _ _ => rfl, rfl, rfl, rfl⟩
  exact z
theorem zz_pays {L : Nat} (hL : L ≤ 1537) (xs : Nat → Int32) : (Int32.ofNat L ≤ (0 : Int32) → zz_owed L xs 0) ∧ (¬ Int32.ofNat L ≤ (0 : Int32) → vp_in (0 : Int32) L ∧ zz_owed L xs (xs (0 : Int32).toNatClampNeg)) := by
  refine ⟨fun _ => owed_all hL xs 0, fun c => ⟨?_, owed_all hL xs _⟩⟩
  rcases Nat.eq_zero_or_pos L with z | z
  · subst z
    exact absurd (by decide) c
  · exact vp_in_nI (n := 0) z (by omega)
