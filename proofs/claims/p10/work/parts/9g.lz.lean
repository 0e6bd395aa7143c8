/-! ===== leading zeros ===== -/
theorem sm_step {B F : Nat → Bool} {m : Nat} (h : ∀ i, F i = true ↔ ∃ j, j < m ∧ B (i + j) = true) : ∀ i, (F i || F (i + m)) = true ↔ ∃ j, j < 2 * m ∧ B (i + j) = true := by
  intro i
  rw [Bool.or_eq_true, h, h]
  constructor
  · rintro (⟨j, h1, h2⟩ | ⟨j, h1, h2⟩)
    · exact ⟨j, by omega, h2⟩
    · exact ⟨m + j, by omega, by rw [← Nat.add_assoc]; exact h2⟩
  · rintro ⟨j, h1, h2⟩
    rcases Nat.lt_or_ge j m with c | c
    · exact Or.inl ⟨j, c, h2⟩
    · refine Or.inr ⟨j - m, by omega, ?_⟩
      rw [show i + m + (j - m) = i + j by omega]; exact h2
theorem ushr_bit (a s : Int32) (k : Nat) (hs : ((s.toUInt32 &&& Int32.toUInt32 31).toBitVec % 32) = BitVec.ofNat 32 k) (hk : k < 32) (i : Nat) : (zz_ushr a s).toBitVec.getLsbD i = a.toBitVec.getLsbD (i + k) := by
  unfold zz_ushr
  show (a.toUInt32 >>> (s.toUInt32 &&& Int32.toUInt32 31)).toBitVec.getLsbD i = _
  rw [UInt32.toBitVec_shiftRight, hs]
  show (a.toBitVec >>> (BitVec.ofNat 32 k).toNat).getLsbD i = _
  rw [BitVec.getLsbD_ushiftRight, BitVec.toNat_ofNat, Nat.mod_eq_of_lt (by omega), Nat.add_comm]
/-- as many digits as a number has -/
def blen (x : Nat) : Nat := if x = 0 then 0 else x.log2 + 1
theorem blen_lt {x : Nat} : x < 2 ^ blen x := by
  unfold blen
  split
  · rename_i h; rw [h]; decide
  · exact Nat.lt_log2_self
theorem blen_ge {x : Nat} (h : 0 < blen x) : 2 ^ (blen x - 1) ≤ x := by
  unfold blen at *
  split at h
  · omega
  · rename_i c
    rw [if_neg c, Nat.add_sub_cancel]
    exact Nat.log2_self_le c
theorem blen_32 {x : Nat} (h : x < 2 ^ 32) : blen x ≤ 32 := by
  unfold blen
  split
  · omega
  · rename_i c
    have := (Nat.log2_lt c).mpr h
    omega
theorem blen_top {x : Nat} (h : 0 < blen x) : x.testBit (blen x - 1) = true := by
  have h1 := blen_ge h
  have h2 := blen_lt (x := x)
  have e : (2 : Nat) ^ blen x = 2 ^ (blen x - 1) * 2 := by rw [← Nat.pow_succ]; congr 1; omega
  have d : x / 2 ^ (blen x - 1) = 1 := by
    rw [Nat.div_eq_iff (Nat.two_pow_pos _)]
    omega
  rw [Nat.testBit_eq_decide_div_mod_eq, d]; decide
theorem blen_hi {x i : Nat} (h : blen x ≤ i) : x.testBit i = false := Nat.testBit_lt_two_pow (Nat.lt_of_lt_of_le blen_lt (Nat.pow_le_pow_right (by decide) h))
/-- all digits below the first one -/
theorem smear (v : Int32) : ∀ x1 x2 x3 x4 x5 : Int32, x1 = v ||| zz_ushr v 1 → x2 = x1 ||| zz_ushr x1 2 → x3 = x2 ||| zz_ushr x2 4 → x4 = x3 ||| zz_ushr x3 8 → x5 = x4 ||| zz_ushr x4 16 → x5 = nI (2 ^ blen v.toBitVec.toNat - 1) := by
  intro x1 x2 x3 x4 x5 e1 e2 e3 e4 e5
  have st : ∀ (x y s : Int32) (k : Nat), ((s.toUInt32 &&& Int32.toUInt32 31).toBitVec % 32) = BitVec.ofNat 32 k → k < 32 → y = x ||| zz_ushr x s → ∀ i, y.toBitVec.getLsbD i = (x.toBitVec.getLsbD i || x.toBitVec.getLsbD (i + k)) := by
    intro x y s k hs hk e i
    rw [e, Int32.toBitVec_or, BitVec.getLsbD_or, ushr_bit x s k hs hk]
  have f0 : ∀ i, v.toBitVec.getLsbD i = true ↔ ∃ j, j < 1 ∧ v.toBitVec.getLsbD (i + j) = true := by
    intro i
    constructor
    · intro h; exact ⟨0, by decide, h⟩
    · rintro ⟨j, h1, h2⟩
      have : j = 0 := by omega
      subst this; exact h2
  have f1 : ∀ i, x1.toBitVec.getLsbD i = true ↔ ∃ j, j < 2 ∧ v.toBitVec.getLsbD (i + j) = true := fun i => by
    rw [st v x1 1 1 (by decide) (by decide) e1]; exact sm_step f0 i
  have f2 : ∀ i, x2.toBitVec.getLsbD i = true ↔ ∃ j, j < 4 ∧ v.toBitVec.getLsbD (i + j) = true := fun i => by
    rw [st x1 x2 2 2 (by decide) (by decide) e2]; exact sm_step f1 i
  have f3 : ∀ i, x3.toBitVec.getLsbD i = true ↔ ∃ j, j < 8 ∧ v.toBitVec.getLsbD (i + j) = true := fun i => by
    rw [st x2 x3 4 4 (by decide) (by decide) e3]; exact sm_step f2 i
  have f4 : ∀ i, x4.toBitVec.getLsbD i = true ↔ ∃ j, j < 16 ∧ v.toBitVec.getLsbD (i + j) = true := fun i => by
    rw [st x3 x4 8 8 (by decide) (by decide) e4]; exact sm_step f3 i
  have f5 : ∀ i, x5.toBitVec.getLsbD i = true ↔ ∃ j, j < 32 ∧ v.toBitVec.getLsbD (i + j) = true := fun i => by
    rw [st x4 x5 16 16 (by decide) (by decide) e5]; exact sm_step f4 i
  have hx := v.toBitVec.isLt
  have hb := blen_32 hx
  apply i_ext
  intro i hi
  have key : x5.toBitVec.getLsbD i = decide (i < blen v.toBitVec.toNat) := by
    rw [Bool.eq_iff_iff, f5, decide_eq_true_iff]
    constructor
    · rintro ⟨j, h1, h2⟩
      rcases Nat.lt_or_ge i (blen v.toBitVec.toNat) with c | c
      · exact c
      · have : v.toBitVec.toNat.testBit (i + j) = false := blen_hi (by omega)
        rw [BitVec.getLsbD, this] at h2
        cases h2
    · intro h
      refine ⟨blen v.toBitVec.toNat - 1 - i, by omega, ?_⟩
      rw [show i + (blen v.toBitVec.toNat - 1 - i) = blen v.toBitVec.toNat - 1 by omega]
      exact blen_top (by omega)
  rw [key]
  show _ = (BitVec.ofNat 32 _).getLsbD i
  rw [BitVec.getLsbD_ofNat, Nat.testBit_two_pow_sub_one]
  simp [hi]
def bcn (a : Int32) : Int32 :=
  (fun x2 : Int32 => (fun x5 : Int32 => (fun x6 : Int32 => (fun x7 : Int32 => (fun x8 : Int32 => (x8 + zz_ushr x8 16) &&& 63) (x7 + zz_ushr x7 8)) (x6 &&& 252645135)) (x5 + zz_ushr x5 4)) ((x2 &&& 858993459) + (zz_ushr x2 2 &&& 858993459))) (a - (zz_ushr a 1 &&& 1431655765))
theorem bcn_ok : ∀ k, k < 33 → 32 - bcn (nI (2 ^ k - 1)) = nI (32 - k) := by decide +kernel
theorem pr_lz {v : Int32} {P : Int32 → Prop} (h : P (nI (32 - blen v.toBitVec.toNat))) : wp_Pr_leadingZeros v P := by
  unfold wp_Pr_leadingZeros wp_JI_bitCount
  intro x1 e1 x2 e2 x3 e3 x4 e4 x5 e5 y1 f1 y2 f2 y3 f3 y4 f4 y5 f5 y6 f6 y7 f7 y8 f8 y9 f9
  have e := smear v x1 x2 x3 x4 x5 e1 e2 e3 e4 e5
  have hb := blen_32 v.toBitVec.isLt
  have k := bcn_ok (blen v.toBitVec.toNat) (by omega)
  rw [← e] at k
  have : y9 &&& 63 = bcn x5 := by
    subst f9; subst f8; subst f7; subst f6; subst f5; subst f3; subst f4; subst f2; subst f1
    rfl
  rw [this, k]
  exact h
theorem shl_neg (v : Int32) {k : Nat} (hk : k < 32) : zz_shl v (nI k) < 0 ↔ v.toBitVec.toNat.testBit (31 - k) = true := by
  have h1 : ∀ k, k < 32 → (nI k &&& 31).toBitVec.smod 32 = BitVec.ofNat 32 k := by decide +kernel
  unfold zz_shl
  rw [Int32.lt_iff_toBitVec_slt, Int32.toBitVec_shiftLeft, h1 k hk]
  show (v.toBitVec <<< BitVec.ofNat 32 k).slt 0#32 = true ↔ _
  rw [BitVec.slt_zero_eq_msb, BitVec.msb_eq_getLsbD_last, BitVec.shiftLeft_eq', BitVec.getLsbD_shiftLeft, BitVec.toNat_ofNat, Nat.mod_eq_of_lt (by omega)]
  have c1 : ¬ 32 - 1 < k := by omega
  simp [c1]
  rfl
section LZ
variable {ms : Int32} {dd bm rr kt : Nat → Int32} {l1 l2 : Int64} {w : Int32}
theorem md_lz {a0 v : Int32} {P : MdT → Prop} (h : wj_Md_second_190 ms a0 P (nI (32 - blen v.toBitVec.toNat)) dd l1 l2 bm rr kt) : wj_Md_second_169 ms a0 P v dd l1 l2 bm rr kt := by
  have hb := blen_32 v.toBitVec.isLt
  unfold wj_Md_second_169
  refine ⟨33, ?_⟩
  have key : ∀ d k : Nat, k + d = 32 → k ≤ 32 - blen v.toBitVec.toNat → wl_Md_second_172 ms a0 P (d + 1) (nI k) v dd l1 l2 bm rr kt := by
    intro d
    induction d with
    | zero =>
      intro k hk h2
      have : k = 32 - blen v.toBitVec.toNat := by omega
      rw [← this] at h
      rw [wl_Md_second_172]
      exact bq_t (by rw [show k = 32 by omega]; decide) h
    | succ d ih =>
      intro k hk h2
      have c32 : ¬ (32 : Int32) ≤ nI k := fun q => by
        have := (nI_leI (a := 32) (b := k) (by decide) (by omega)).mp q
        omega
      rw [wl_Md_second_172]
      refine bq_f c32 ?_
      rw [shl_neg v (by omega)]
      refine ⟨fun c => ?_, fun c x ex => ?_⟩
      · have : k = 32 - blen v.toBitVec.toNat := by
          rcases Nat.lt_or_ge k (32 - blen v.toBitVec.toNat) with z | z
          · rw [blen_hi (by omega)] at c; cases c
          · omega
        rw [this]; exact h
      · rw [nI_1] at ex
        subst ex
        refine ih (k + 1) (by omega) ?_
        rcases Nat.lt_or_ge k (32 - blen v.toBitVec.toNat) with z | z
        · omega
        · exfalso
          have hk2 : k = 32 - blen v.toBitVec.toNat := by omega
          apply c
          rw [show 31 - k = blen v.toBitVec.toNat - 1 by omega]
          exact blen_top (by omega)
  exact key 32 0 (by decide) (by omega)
end LZ
