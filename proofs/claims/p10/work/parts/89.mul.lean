/-! ===== products ===== -/
theorem lN_mod (n : Nat) : lN n = lN (n % 2 ^ 64) := by
  apply fq_inj
  rw [fq_ltb, fq_ltb]
  apply BitVec.eq_of_toNat_eq
  rw [BitVec.toNat_ofNat, BitVec.toNat_ofNat, Nat.mod_mod]
theorem m32 : (4294967295 : Int64) = lN (2 ^ 32 - 1) := rfl
/-- the product of two halves -/
theorem mu_hl {M N : Nat} (hM : M < 2 ^ 63) (hN : N < 2 ^ 63) {low cross other middle : Nat} (h1 : low = M % 2 ^ 32 * (N % 2 ^ 32)) (h2 : cross = M / 2 ^ 32 * (N % 2 ^ 32)) (h3 : other = M % 2 ^ 32 * (N / 2 ^ 32)) (h4 : middle = low / 2 ^ 32 + cross % 2 ^ 32 + other % 2 ^ 32) :
    M * N = (M / 2 ^ 32 * (N / 2 ^ 32) + cross / 2 ^ 32 + other / 2 ^ 32 + middle / 2 ^ 32) * 2 ^ 64 + (middle % 2 ^ 32 * 2 ^ 32 + low % 2 ^ 32) := by
  have e1 : M * N = M / 2 ^ 32 * (N / 2 ^ 32) * 2 ^ 64 + (cross + other) * 2 ^ 32 + low := by
    have a := Nat.div_add_mod M (2 ^ 32)
    have b := Nat.div_add_mod N (2 ^ 32)
    rw [h1, h2, h3]
    generalize M / 2 ^ 32 = x at *
    generalize M % 2 ^ 32 = y at *
    generalize N / 2 ^ 32 = z at *
    generalize N % 2 ^ 32 = u at *
    subst a; subst b
    rw [Nat.add_mul, Nat.mul_add, Nat.mul_add]
    rw [show 2 ^ 32 * x * (2 ^ 32 * z) = x * z * 2 ^ 64 by rw [Nat.mul_mul_mul_comm, Nat.mul_comm]]
    rw [show 2 ^ 32 * x * u = x * u * 2 ^ 32 by rw [Nat.mul_assoc, Nat.mul_comm]]
    rw [show y * (2 ^ 32 * z) = y * z * 2 ^ 32 by rw [Nat.mul_left_comm, Nat.mul_comm]]
    omega
  rw [e1]
  omega
theorem lN_and32 (n : Nat) : lN n &&& (4294967295 : Int64) = lN (n % 2 ^ 32) := by rw [m32]; exact fq_mask n 32
theorem lushr32 {n : Nat} (h : n < 2 ^ 64) : zz_lushr (lN n) 32 = lN (n / 2 ^ 32) := fq_ushr (k := 32) h (by decide)
/-- the class's product -/
theorem fr_mulF0 {w n k : Int32} {A B M N : Nat} (hMd : M = 1024 * A) (hNd : N = 1024 * B) {p q : Int} {P : Fr4 → Prop} (hA : 2 ^ 52 ≤ A ∧ A < 2 ^ 53) (hB : 2 ^ 52 ≤ B ∧ B < 2 ^ 53) (hp : -1200 ≤ p ∧ p ≤ 1100) (hq : -1200 ≤ q ∧ q ≤ 1100)
    (h : ∀ L', frv w (rn_sg n w (lN (rnX w (A * B) (p + q)))) L' → P L') : wp_Fr_multiplyFinite (n, k, iI (p + 52), lN M) (lN N) (iI (q + 52)) P := by
  have hM : M < 2 ^ 63 := by omega
  have hN : N < 2 ^ 63 := by omega
  unfold wp_Fr_multiplyFinite
  dsimp only
  intro ah eah al eal bh ebh bl ebl low elow cross ecross oth eoth x8 e8 x9 e9 x10 e10 mid emid x12 e12 x13 e13 hi ehi x15 e15 x16 e16 x17 e17
  rw [lushr32 (by omega)] at eah ebh
  rw [lN_and32] at eal ebl
  have key := mu_hl hM hN rfl rfl rfl rfl
  have b1 : M / 2 ^ 32 < 2 ^ 31 := by omega
  have b2 : N / 2 ^ 32 < 2 ^ 31 := by omega
  have b3 : M % 2 ^ 32 < 2 ^ 32 := Nat.mod_lt _ (by decide)
  have b4 : N % 2 ^ 32 < 2 ^ 32 := Nat.mod_lt _ (by decide)
  have c1 : M % 2 ^ 32 * (N % 2 ^ 32) < 2 ^ 64 := by
    have := Nat.mul_le_mul (Nat.le_sub_one_of_lt b3) (Nat.le_sub_one_of_lt b4); omega
  have c2 : M / 2 ^ 32 * (N % 2 ^ 32) < 2 ^ 63 := by
    have := Nat.mul_le_mul (Nat.le_sub_one_of_lt b1) (Nat.le_sub_one_of_lt b4); omega
  have c3 : M % 2 ^ 32 * (N / 2 ^ 32) < 2 ^ 63 := by
    have := Nat.mul_le_mul (Nat.le_sub_one_of_lt b3) (Nat.le_sub_one_of_lt b2); omega
  have c4 : M / 2 ^ 32 * (N / 2 ^ 32) < 2 ^ 62 := by
    have := Nat.mul_le_mul (Nat.le_sub_one_of_lt b1) (Nat.le_sub_one_of_lt b2); omega
  rw [eal, ebl, lN_mul] at elow
  rw [eah, ebl, lN_mul] at ecross
  rw [eal, ebh, lN_mul] at eoth
  rw [ecross, lN_and32] at e8
  rw [elow, lushr32 c1, e8, lN_add] at e9
  rw [eoth, lN_and32] at e10
  rw [e9, e10, lN_add] at emid
  rw [eah, ebh, lN_mul, ecross, lushr32 (by omega), lN_add] at e12
  rw [e12, eoth, lushr32 (by omega), lN_add] at e13
  rw [elow, lN_and32] at e15
  generalize M % 2 ^ 32 * (N % 2 ^ 32) = lo at *
  generalize M / 2 ^ 32 * (N % 2 ^ 32) = cr at *
  generalize M % 2 ^ 32 * (N / 2 ^ 32) = ot at *
  generalize M / 2 ^ 32 * (N / 2 ^ 32) = hh at *
  generalize hmi : lo / 2 ^ 32 + cr % 2 ^ 32 + ot % 2 ^ 32 = mi at *
  rw [e13, emid, lushr32 (by omega), lN_add] at ehi
  generalize hH : hh + cr / 2 ^ 32 + ot / 2 ^ 32 + mi / 2 ^ 32 = H at *
  have e16 : x16 = lN (mi % 2 ^ 32 * 2 ^ 32 + lo % 2 ^ 32) := by
    rw [e16, emid, show (32 : Int32) = nI 32 from rfl, fq_shl _ (by decide), lN_mod, show mi * 2 ^ 32 % 2 ^ 64 = mi % 2 ^ 32 * 2 ^ 32 by omega, e15]
    exact fq_ors (by omega)
  obtain ⟨W, hW⟩ : ∃ W, W = mi % 2 ^ 32 * 2 ^ 32 + lo % 2 ^ 32 := ⟨_, rfl⟩
  rw [← hW] at key e16
  have hWb : W < 2 ^ 64 := by omega
  have hX : M * N = 1048576 * (A * B) := by rw [hMd, hNd, Nat.mul_mul_mul_comm]
  have d0 : 2 ^ 52 * 2 ^ 52 ≤ A * B := Nat.mul_le_mul hA.1 hB.1
  have d9 : A * B ≤ (2 ^ 53 - 1) * (2 ^ 53 - 1) := Nat.mul_le_mul (by omega) (by omega)
  generalize hAB : A * B = X at *
  have d1 : H * 2 + W / 2 ^ 63 = X / 2 ^ 43 := by omega
  have d2 : W * 2 % 2 ^ 64 = 0 ↔ X % 2 ^ 43 = 0 := by omega
  have e17 : x17 = lN (X / 2 ^ 43) := by
    rw [e17, ehi, e16, show (1 : Int32) = nI 1 from rfl, fq_shl _ (by decide), show (63 : Int32) = nI 63 from rfl, fq_ushr hWb (by decide), ← d1]
    exact fq_ors (k := 1) (by omega)
  have hz : zz_lshl x16 1 = 0 ↔ X % 2 ^ 43 = 0 := by
    rw [e16, show (1 : Int32) = nI 1 from rfl, fq_shl _ (by decide), lN_mod, fq_l0, fq_linj (by omega) (by decide), Nat.pow_one, d2]
  have hE : ∀ z : Int32, z = iI (p + 52) + iI (q + 52) + 1 → z = iI (p + q + 105) := by
    intro z hz
    rw [hz, fq_add, show (1 : Int32) = iI 1 from rfl, fq_add]; congr 1; omega
  have hrx : p + q + 105 - 62 - ((43 : Nat) : Int) = p + q := by omega
  refine ⟨fun c y ey z ez => ?_, fun c y ey z ez => ?_⟩
  · have c := hz.mp c
    rw [hE z ez, show y = lN (X / 2 ^ 43) by rw [ey, e17]; exact fq_or0 _]
    refine fr_fin (w := w) (X := X) (j := 43) ?_ (by omega) (by omega) (fun _ => by omega) (by omega) ?_
    · rw [(rx_jam2 _ _).2.2 (by simp [c])]
    · rw [hrx]; exact h
  · have c : ¬ X % 2 ^ 43 = 0 := fun q => c (hz.mpr q)
    rw [hE z ez, show y = lN (X / 2 ^ 43 ||| 1) by rw [ey, e17]; exact fq_or]
    have hj : X / 2 ^ 43 ||| 1 = rx_jam (X / 2 ^ 43) (decide (¬ X % 2 ^ 43 = 0)) := by rw [rx_jam_or]; simp [c]
    rw [hj]
    obtain ⟨j1, -, -⟩ := rx_jam2 (X / 2 ^ 43) (decide (¬ X % 2 ^ 43 = 0))
    refine fr_fin (w := w) (X := X) (j := 43) rfl (by omega) (by omega) (fun _ => by omega) (by omega) ?_
    rw [hrx]; exact h
theorem p10 (A : Nat) : A * 2 ^ 10 = 1024 * A := by rw [Nat.mul_comm]
theorem fr_mulF {w n k : Int32} {A B : Nat} {p q : Int} {P : Fr4 → Prop} (hA : 2 ^ 52 ≤ A ∧ A < 2 ^ 53) (hB : 2 ^ 52 ≤ B ∧ B < 2 ^ 53) (hp : -1200 ≤ p ∧ p ≤ 1100) (hq : -1200 ≤ q ∧ q ≤ 1100)
    (h : ∀ L', frv w (rn_sg n w (lN (rnX w (A * B) (p + q)))) L' → P L') : wp_Fr_multiplyFinite (n, k, iI (p + 52), lN (A * 2 ^ 10)) (lN (B * 2 ^ 10)) (iI (q + 52)) P := fr_mulF0 (p10 A) (p10 B) hA hB hp hq h
section TM
variable {ms : Int32} {dd bm rr kt : Nat → Int32} {l1 : Int64}
theorem tm_mod {A B k : Nat} : A * (B % 2 ^ (k + 1)) = A * (B % 2 ^ k) + (B / 2 ^ k % 2 * A) * 2 ^ k := by
  rw [Nat.mod_pow_succ, Nat.mul_add, Nat.mul_comm (2 ^ k), ← Nat.mul_assoc, Nat.mul_comm A (B / 2 ^ k % 2)]
theorem tm_add {Y z c : Nat} : (Y + z * 2 ^ c) / 2 ^ c = Y / 2 ^ c + z ∧ (Y + z * 2 ^ c) % 2 ^ c = Y % 2 ^ c := ⟨Nat.add_mul_div_right _ _ (Nat.two_pow_pos _), Nat.add_mul_mod_self_right _ _ _⟩
theorem tm_44 {z k : Nat} (h : 44 ≤ k) : z * 2 ^ k = z * 2 ^ (k - 44) * 2 ^ 44 := by rw [Nat.mul_assoc, ← Nat.pow_add, show k - 44 + 44 = k by omega]
theorem tm_half {Y k : Nat} : Y / 2 ^ (k + 1) = Y / 2 ^ k / 2 ∧ (Y % 2 ^ (k + 1) = 0 ↔ Y % 2 ^ k = 0 ∧ Y / 2 ^ k % 2 = 0) := by
  constructor
  · rw [Nat.pow_succ, Nat.div_div_eq_div_mul]
  · have := rx_mm Y k 1
    rw [Nat.pow_one] at this
    have hp := Nat.two_pow_pos k
    rw [this]
    constructor
    · intro h
      have h1 : Y % 2 ^ k = 0 := by omega
      have h2 : 2 ^ k * (Y / 2 ^ k % 2) = 0 := by omega
      rcases Nat.mul_eq_zero.mp h2 with q | q
      · omega
      · exact ⟨h1, q⟩
    · rintro ⟨h1, h2⟩; rw [h1, h2]; omega
theorem md_tml {w s : Int32} {A B : Nat} {p q : Int} {P : Int64 → Prop} (hA : 2 ^ 52 ≤ A ∧ A < 2 ^ 53) (hB : 2 ^ 52 ≤ B ∧ B < 2 ^ 53) (hp : -1200 ≤ p ∧ p ≤ 1100) (hq : -1200 ≤ q ∧ q ≤ 1100) (h15 : dd 15 = iI p) (h17 : dd 17 = iI q)
    (h : P (rn_sg s w (lN (rnX w (A * B) (p + q))))) :
    ∀ (d k a v : Nat) (m : Int32), k + d = 53 → a = A * 2 ^ (min k 52 - min k 44) → v = A * (B % 2 ^ k) / 2 ^ min k 44 → (m = 0 ↔ A * (B % 2 ^ k) % 2 ^ min k 44 = 0) → wl_Md_times_95 ms w dd l1 (lN B) bm rr kt P (d + 1) (nI k) m (lN a) (lN v) s := by
  have d0 : 2 ^ 52 * 2 ^ 52 ≤ A * B := Nat.mul_le_mul hA.1 hB.1
  have d9 : A * B ≤ (2 ^ 53 - 1) * (2 ^ 53 - 1) := Nat.mul_le_mul (by omega) (by omega)
  intro d
  induction d with
  | zero =>
    intro k a v m hk ha hv hm
    have : k = 53 := by omega
    subst this
    rw [Nat.mod_eq_of_lt hB.2, show min 53 44 = 44 from rfl] at hv hm
    rw [wl_Md_times_95]
    refine ⟨fun _ x ex => ?_, fun c => absurd (by decide) c⟩
    rw [h15, h17, fq_add, show (44 : Int32) = iI 44 from rfl, fq_add] at ex
    subst ex
    generalize A * B = X at *
    refine md_fin (X := X) (j := 44) hv hm (by omega) (by omega) (fun _ => by omega) (by omega) ?_
    rw [show p + q + 44 - ((44 : Nat) : Int) = p + q by omega]
    exact h
  | succ d ih =>
    intro k a v m hk ha hv hm
    have hsm := tm_mod (A := A) (B := B) (k := k)
    have hb01 : B / 2 ^ k % 2 = 0 ∨ B / 2 ^ k % 2 = 1 := by omega
    have hBk : B % 2 ^ k ≤ B := Nat.mod_le _ _
    have hYle : A * (B % 2 ^ k) ≤ A * B := Nat.mul_le_mul_left _ hBk
    have hBk1 : B % 2 ^ (k + 1) ≤ B := Nat.mod_le _ _
    have hYle1 : A * (B % 2 ^ (k + 1)) ≤ A * B := Nat.mul_le_mul_left _ hBk1
    -- the sum of this place
    have hsum : ∀ u : Nat, (B / 2 ^ k % 2 = 1 → u = v + a) → (B / 2 ^ k % 2 = 0 → u = v) → u < 2 ^ 63 → (k < 44 → u = A * (B % 2 ^ (k + 1)) / 2 ^ k) → (44 ≤ k → u = A * (B % 2 ^ (k + 1)) / 2 ^ 44) →
        wj_Md_times_121 ms w dd l1 (lN B) bm rr kt P (wl_Md_times_95 ms w dd l1 (lN B) bm rr kt P (d + 1)) s (lN u) (lN a) m (nI k) := by
      intro u _ _ hu u1 u2
      have ck : (44 : Int32) ≤ nI k ↔ 44 ≤ k := nI_leI (a := 44) (by decide) (by omega)
      have ck2 : (52 : Int32) ≤ nI k ↔ 52 ≤ k := nI_leI (a := 52) (by decide) (by omega)
      unfold wj_Md_times_121
      refine ⟨fun c => ?_, fun c => ?_⟩
      · have c := ck.mp c
        rw [show min k 44 = 44 by omega] at ha hv hm
        have hm' : m = 0 ↔ A * (B % 2 ^ (k + 1)) % 2 ^ min (k + 1) 44 = 0 := by
          rw [hm, show min (k + 1) 44 = 44 by omega, hsm, tm_44 (z := B / 2 ^ k % 2 * A) c, tm_add.2]
        have hv' : u = A * (B % 2 ^ (k + 1)) / 2 ^ min (k + 1) 44 := by rw [show min (k + 1) 44 = 44 by omega]; exact u2 c
        refine ⟨fun c2 x ex => ?_, fun c2 x ex y ey => ?_⟩
        · have c2 := ck2.mp c2
          rw [nI_1] at ex
          subst ex
          refine ih (k + 1) a u m (by omega) ?_ hv' hm'
          rw [ha]; congr 2; omega
        · have c2 : ¬ 52 ≤ k := fun q => c2 (ck2.mpr q)
          rw [nI_1] at ey
          rw [show (1 : Int32) = nI 1 from rfl, fq_shl _ (by decide)] at ex
          subst ex; subst ey
          refine ih (k + 1) _ u m (by omega) ?_ hv' hm'
          rw [ha, Nat.mul_assoc, ← Nat.pow_add]; congr 2; omega
      · have c : ¬ 44 ≤ k := fun q => c (ck.mpr q)
        rw [show min k 44 = k by omega] at ha hv hm
        have hu1 := u1 (by omega)
        have hod : (lN u &&& 1 = (1 : Int64)) ↔ u % 2 = 1 := by rw [fq_odd, fq_l1, fq_linj (by omega) (by decide)]
        have hl : A * (B % 2 ^ (k + 1)) % 2 ^ k = A * (B % 2 ^ k) % 2 ^ k := by rw [hsm, tm_add.2]
        have go : ∀ b : Int32, (b = 0 ↔ m = 0 ∧ u % 2 = 0) → wj_Md_times_146 ms w dd l1 (lN B) bm rr kt P (wl_Md_times_95 ms w dd l1 (lN B) bm rr kt P (d + 1)) s (lN u) (lN a) (nI k) b := by
          intro b hb
          unfold wj_Md_times_146
          intro x ex y ey
          rw [nI_1] at ey
          rw [show (1 : Int32) = nI 1 from rfl, fq_shr hu (by decide), Nat.pow_one] at ex
          subst ex; subst ey
          refine ih (k + 1) a _ b (by omega) ?_ ?_ ?_
          · rw [ha, show min k 52 - k = 0 by omega, show min (k + 1) 52 - min (k + 1) 44 = 0 by omega]
          · rw [show min (k + 1) 44 = k + 1 by omega, hu1, tm_half.1]
          · rw [show min (k + 1) 44 = k + 1 by omega, hb, hm, tm_half.2, hl, hu1]
        refine ⟨fun c1 => ⟨fun c2 => go 1 ?_, fun c2 => go 0 ?_⟩, fun c1 => go 1 ?_⟩
        · rw [hod] at c2
          exact ⟨fun q => absurd q (by decide), fun q => by omega⟩
        · rw [hod] at c2
          exact ⟨fun _ => ⟨c1, by omega⟩, fun _ => rfl⟩
        · exact ⟨fun q => absurd q (by decide), fun q => absurd q.1 c1⟩
    have u1 : ∀ u, (B / 2 ^ k % 2 = 1 → u = v + a) → (B / 2 ^ k % 2 = 0 → u = v) → k < 44 → u = A * (B % 2 ^ (k + 1)) / 2 ^ k := by
      intro u q1 q0 c
      rw [show min k 44 = k by omega] at ha hv
      rw [hsm, tm_add.1, ← hv]
      rw [show min k 52 - k = 0 by omega, Nat.pow_zero, Nat.mul_one] at ha
      rcases hb01 with b0 | b1
      · rw [q0 b0, b0]; omega
      · rw [q1 b1, b1]; omega
    have u2 : ∀ u, (B / 2 ^ k % 2 = 1 → u = v + a) → (B / 2 ^ k % 2 = 0 → u = v) → 44 ≤ k → u = A * (B % 2 ^ (k + 1)) / 2 ^ 44 := by
      intro u q1 q0 c
      rw [show min k 44 = 44 by omega] at ha hv
      rw [hsm, tm_44 (z := B / 2 ^ k % 2 * A) c, tm_add.1, ← hv]
      rw [show min k 52 - 44 = k - 44 by omega] at ha
      rcases hb01 with b0 | b1
      · rw [q0 b0, b0, Nat.zero_mul, Nat.zero_mul]; omega
      · rw [q1 b1, b1, Nat.one_mul, ha]
    have ub : ∀ u, (B / 2 ^ k % 2 = 1 → u = v + a) → (B / 2 ^ k % 2 = 0 → u = v) → u < 2 ^ 63 := by
      intro u q1 q0
      rcases Nat.lt_or_ge k 44 with c | c
      · have e := u1 u q1 q0 c
        have e2 : u ≤ A * 2 := by
          rw [e]
          have b3 : B % 2 ^ (k + 1) < 2 ^ (k + 1) := Nat.mod_lt _ (Nat.two_pow_pos _)
          have b4 : A * (B % 2 ^ (k + 1)) ≤ A * 2 * 2 ^ k := by
            rw [Nat.mul_assoc, ← Nat.pow_succ']
            exact Nat.mul_le_mul_left _ (by omega)
          exact Nat.le_trans (Nat.div_le_div_right b4) (by rw [Nat.mul_div_cancel _ (Nat.two_pow_pos _)]; exact Nat.le_refl _)
        omega
      · have e := u2 u q1 q0 c
        generalize A * B = X at *
        generalize A * (B % 2 ^ (k + 1)) = Y at *
        omega
    rw [wl_Md_times_95]
    refine ⟨fun c => ?_, fun c x ex => ?_⟩
    · have := (nI_leI (a := 53) (b := k) (by decide) (by omega)).mp c
      omega
    · have hx : x = lN (B / 2 ^ k % 2) := by rw [ex, fq_shr (by omega) (by omega)]; exact fq_odd _
      have h1 : x = 1 ↔ B / 2 ^ k % 2 = 1 := by rw [hx, fq_l1, fq_linj (by omega) (by decide)]
      refine ⟨fun c1 y ey => ?_, fun c1 => ?_⟩
      · have c1 := h1.mp c1
        rw [lN_add] at ey
        subst ey
        have q1 : B / 2 ^ k % 2 = 1 → v + a = v + a := fun _ => rfl
        have q0 : B / 2 ^ k % 2 = 0 → v + a = v := fun q => by omega
        exact hsum _ q1 q0 (ub _ q1 q0) (u1 _ q1 q0) (u2 _ q1 q0)
      · have c1 : B / 2 ^ k % 2 = 0 := by
          rcases hb01 with q | q
          · exact q
          · exact absurd (h1.mpr q) c1
        have q1 : B / 2 ^ k % 2 = 1 → v = v + a := fun q => by omega
        have q0 : B / 2 ^ k % 2 = 0 → v = v := fun q => rfl
        exact hsum _ q1 q0 (ub _ q1 q0) (u1 _ q1 q0) (u2 _ q1 q0)
end TM
