/-! ===== numbers: ints with a sign, longs as natural numbers ===== -/
def iI (z : Int) : Int32 := Int32.ofInt z
theorem fq_t {z : Int} (h1 : -2147483648 ≤ z) (h2 : z < 2147483648) : (iI z).toInt = z := Int32.toInt_ofInt_of_le h1 h2
theorem fq_n (n : Nat) : nI n = iI (n : Int) := (Int32.ofInt_eq_ofNat).symm
theorem fq_of (x : Int32) : x = iI x.toInt := (Int32.ofInt_toInt x).symm
theorem fq_add (a b : Int) : iI a + iI b = iI (a + b) := (Int32.ofInt_add a b).symm
theorem fq_neg (a : Int) : -iI a = iI (-a) := (Int32.ofInt_neg a).symm
theorem fq_sub (a b : Int) : iI a - iI b = iI (a - b) := (Int32.ofInt_sub a b).symm
def fq_r (z : Int) : Prop := -1000000 ≤ z ∧ z ≤ 1000000
theorem fq_tr {z : Int} (h : fq_r z) : (iI z).toInt = z := fq_t (by have := h.1; omega) (by have := h.2; omega)
theorem fq_le {a b : Int} (ha : fq_r a) (hb : fq_r b) : iI a ≤ iI b ↔ a ≤ b := by rw [Int32.le_iff_toInt_le, fq_tr ha, fq_tr hb]
theorem fq_lt {a b : Int} (ha : fq_r a) (hb : fq_r b) : iI a < iI b ↔ a < b := by rw [Int32.lt_iff_toInt_lt, fq_tr ha, fq_tr hb]
theorem fq_eq {a b : Int} (ha : fq_r a) (hb : fq_r b) : iI a = iI b ↔ a = b := by rw [← Int32.toInt_inj, fq_tr ha, fq_tr hb]
theorem fq_ltb (n : Nat) : (lN n).toBitVec = BitVec.ofNat 64 n := rfl
theorem fq_inj {a b : Int64} (h : a.toBitVec = b.toBitVec) : a = b := Int64.toBitVec_inj.mp h
theorem fq_tn {n : Nat} (h : n < 2 ^ 64) : (lN n).toBitVec.toNat = n := by rw [fq_ltb, BitVec.toNat_ofNat, Nat.mod_eq_of_lt h]
theorem fq_lof (x : Int64) : x = lN x.toBitVec.toNat := fq_inj (by rw [fq_ltb]; simp)
theorem fq_linj {a b : Nat} (ha : a < 2 ^ 64) (hb : b < 2 ^ 64) : lN a = lN b ↔ a = b := ⟨fun h => by rw [← fq_tn ha, ← fq_tn hb, h], fun h => by rw [h]⟩
theorem fq_c : ∀ k, k < 64 → ((nI k).toInt64 &&& 63) = lN k := by decide +kernel
theorem fq_cu : ∀ k, k < 64 → ((nI k).toInt64.toUInt64 &&& Int64.toUInt64 63) = UInt64.ofNat k := by decide +kernel
theorem fq_sm : ∀ k, k < 64 → (BitVec.ofNat 64 k).smod 64 = BitVec.ofNat 64 k := by decide +kernel
theorem fq_ushr {n k : Nat} (hn : n < 2 ^ 64) (hk : k < 64) : zz_lushr (lN n) (nI k) = lN (n / 2 ^ k) := by
  unfold zz_lushr
  rw [fq_cu k hk]
  apply fq_inj
  apply BitVec.eq_of_toNat_eq
  show ((lN n).toUInt64 >>> UInt64.ofNat k).toNat = (BitVec.ofNat 64 _).toNat
  have h1 : (UInt64.ofNat k).toNat = k := by
    show (BitVec.ofNat 64 k).toNat = k
    rw [BitVec.toNat_ofNat, Nat.mod_eq_of_lt (by omega)]
  have h2 : (lN n).toUInt64.toNat = n := fq_tn hn
  rw [UInt64.toNat_shiftRight, h1, h2, Nat.mod_eq_of_lt hk, Nat.shiftRight_eq_div_pow, BitVec.toNat_ofNat, Nat.mod_eq_of_lt (Nat.lt_of_le_of_lt (Nat.div_le_self _ _) hn)]
theorem fq_shl (n : Nat) {k : Nat} (hk : k < 64) : zz_lshl (lN n) (nI k) = lN (n * 2 ^ k) := by
  unfold zz_lshl
  rw [fq_c k hk]
  apply fq_inj
  rw [Int64.toBitVec_shiftLeft, fq_ltb, fq_ltb, fq_ltb, fq_sm k hk]
  apply BitVec.eq_of_toNat_eq
  rw [BitVec.shiftLeft_eq', BitVec.toNat_shiftLeft, BitVec.toNat_ofNat, BitVec.toNat_ofNat, BitVec.toNat_ofNat, Nat.mod_eq_of_lt (show k < 2 ^ 64 by omega), Nat.shiftLeft_eq, Nat.mul_mod, Nat.mod_mod, ← Nat.mul_mod]
theorem fq_shr {n k : Nat} (hn : n < 2 ^ 63) (hk : k < 64) : zz_lshr (lN n) (nI k) = lN (n / 2 ^ k) := by
  have hd : n / 2 ^ k ≤ n := Nat.div_le_self _ _
  unfold zz_lshr
  rw [fq_c k hk]
  apply Int64.toInt_inj.mp
  have e : (lN n >>> lN k).toInt = (lN n).toInt >>> k := by
    show ((lN n).toBitVec.sshiftRight ((lN k).toBitVec.smod 64).toNat).toInt = _
    rw [fq_ltb k, fq_sm k hk, BitVec.toNat_ofNat, Nat.mod_eq_of_lt (show k < 2 ^ 64 by omega), BitVec.toInt_sshiftRight]
    rfl
  rw [e, Int.shiftRight_eq_div_pow, pk_lT hn, pk_lT (by omega)]
  rfl
theorem fq_and {a b : Nat} : lN a &&& lN b = lN (a &&& b) := by
  apply fq_inj
  rw [Int64.toBitVec_and, fq_ltb, fq_ltb, fq_ltb, BitVec.ofNat_and]
theorem fq_or {a b : Nat} : lN a ||| lN b = lN (a ||| b) := by
  apply fq_inj
  rw [Int64.toBitVec_or, fq_ltb, fq_ltb, fq_ltb, BitVec.ofNat_or]
theorem fq_mask (a k : Nat) : lN a &&& lN (2 ^ k - 1) = lN (a % 2 ^ k) := by rw [fq_and, Nat.and_two_pow_sub_one_eq_mod]
theorem fq_1 {k : Nat} (hk : k < 64) : zz_lshl 1 (nI k) = lN (2 ^ k) := by rw [show (1 : Int64) = lN 1 from rfl, fq_shl 1 hk, Nat.one_mul]
theorem fq_m1 {k : Nat} (hk : k < 64) : zz_lshl 1 (nI k) - 1 = lN (2 ^ k - 1) := by rw [fq_1 hk, show (1 : Int64) = lN 1 from rfl, lN_sub Nat.one_le_two_pow]
theorem fq_ors {a b k : Nat} (hb : b < 2 ^ k) : lN (a * 2 ^ k) ||| lN b = lN (a * 2 ^ k + b) := by rw [fq_or, Nat.mul_comm, ← Nat.two_pow_add_eq_or_of_lt hb]
theorem fq_or0 (a : Nat) : lN a ||| 0 = lN a := by rw [show (0 : Int64) = lN 0 from rfl, fq_or, Nat.or_zero]
theorem fq_odd (a : Nat) : lN a &&& 1 = lN (a % 2) := fq_mask a 1
theorem fq_l0 : (0 : Int64) = lN 0 := rfl
theorem fq_l1 : (1 : Int64) = lN 1 := rfl
/-- a long out of an int -/
theorem fq_il {n : Nat} (h : n < 2 ^ 31) : (nI n).toInt64 = lN n := nI_l h
