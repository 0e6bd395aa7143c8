/-! ===== quotients ===== -/
/-- a step of the division on paper -/
theorem dv_step {A B i q r : Nat} (h : A * 2 ^ i = q * (2 * B) + r) (hr : r < 2 * B) : (r < B → A * 2 ^ (i + 1) = (q * 2) * (2 * B) + r * 2 ∧ r * 2 < 2 * B) ∧ (B ≤ r → A * 2 ^ (i + 1) = (q * 2 + 1) * (2 * B) + (r - B) * 2 ∧ (r - B) * 2 < 2 * B) := by
  have e : A * 2 ^ (i + 1) = (q * (2 * B)) * 2 + r * 2 := by rw [Nat.pow_succ, ← Nat.mul_assoc, h, Nat.add_mul]
  have e2 : (q * 2) * (2 * B) = (q * (2 * B)) * 2 := by rw [Nat.mul_right_comm]
  rw [e, Nat.add_mul, e2]
  generalize q * (2 * B) = z at *
  constructor
  · intro c; omega
  · intro c; omega
theorem dv_end {Y D q r : Nat} (h : Y = q * D + r) (hr : r < D) : Y / D = q ∧ Y % D = r := by
  have hD : 0 < D := by omega
  constructor
  · rw [h, Nat.mul_comm, Nat.mul_add_div hD, Nat.div_eq_of_lt hr, Nat.add_zero]
  · rw [h, Nat.mul_comm, Nat.mul_add_mod, Nat.mod_eq_of_lt hr]
/-- both quotients out of one number -/
def dvX (A B : Nat) : Nat := 2 * (A * 2 ^ 60 / (2 * B)) + (if A * 2 ^ 60 % (2 * B) = 0 then 0 else 1)
theorem dv_ref (A B : Nat) : dvX A B / 2 ^ 1 = A * 2 ^ 60 / (2 * B) ∧ (dvX A B % 2 ^ 1 = 0 ↔ A * 2 ^ 60 % (2 * B) = 0) := by
  unfold dvX
  generalize A * 2 ^ 60 / (2 * B) = q
  generalize A * 2 ^ 60 % (2 * B) = r
  split <;> omega
theorem dv_16 {Y D : Nat} (hD : 0 < D) : (2 * (Y * 16 / D) + (if Y * 16 % D = 0 then 0 else 1)) / 32 = Y / D ∧ ((2 * (Y * 16 / D) + (if Y * 16 % D = 0 then 0 else 1)) % 32 = 0 ↔ Y % D = 0) := by
  have h := Nat.div_add_mod Y D
  have hm := Nat.mod_lt Y hD
  generalize hq : Y / D = q at *
  generalize hr : Y % D = r at *
  have k := Nat.div_add_mod (r * 16) D
  have km := Nat.mod_lt (r * 16) hD
  have kq : r * 16 / D < 16 := by
    rw [Nat.div_lt_iff_lt_mul hD]; omega
  generalize hq2 : r * 16 / D = q2 at *
  generalize hr2 : r * 16 % D = r2 at *
  have t : Y * 16 = (q * 16 + q2) * D + r2 := by
    rw [← h, Nat.add_mul, Nat.add_mul, ← k, Nat.mul_comm D q, Nat.mul_comm D q2, Nat.mul_right_comm q 16 D, Nat.add_assoc]
  obtain ⟨t1, t2⟩ := dv_end t km
  rw [t1, t2]
  constructor
  · split <;> omega
  · have z : r2 = 0 ∧ q2 = 0 ↔ r = 0 := by
      constructor
      · rintro ⟨a, b⟩
        subst a; subst b
        rw [Nat.mul_zero] at k; omega
      · rintro rfl
        rw [Nat.zero_mul] at hq2 hr2
        rw [Nat.zero_div] at hq2; rw [Nat.zero_mod] at hr2
        omega
    split <;> omega
theorem dv_cls {A B : Nat} (hB : 0 < B) : dvX A B / 2 ^ 5 = A * 2 ^ 56 / (2 * B) ∧ (dvX A B % 2 ^ 5 = 0 ↔ A * 2 ^ 56 % (2 * B) = 0) := by
  have e : A * 2 ^ 60 = A * 2 ^ 56 * 16 := by rw [Nat.mul_assoc]
  unfold dvX
  rw [e]
  exact dv_16 (Y := A * 2 ^ 56) (D := 2 * B) (by omega)
/-- how large the quotients are -/
theorem dv_in {A B : Nat} (N : Nat) (hA : 2 ^ 52 ≤ A ∧ A < 2 ^ 53) (hB : 2 ^ 52 ≤ B ∧ B < 2 ^ 53) : 2 ^ N ≤ A * 2 ^ (N + 2) / (2 * B) ∧ A * 2 ^ (N + 2) / (2 * B) < 2 ^ (N + 2) := by
  have hp := Nat.two_pow_pos N
  have e : A * 2 ^ (N + 2) = 4 * (A * 2 ^ N) := by rw [Nat.pow_add, Nat.mul_comm (2 ^ N), Nat.mul_left_comm]
  constructor
  · rw [Nat.le_div_iff_mul_le (by omega), e]
    calc 2 ^ N * (2 * B) ≤ 2 ^ N * (4 * A) := Nat.mul_le_mul_left _ (by omega)
      _ = 4 * (A * 2 ^ N) := by rw [Nat.mul_left_comm, Nat.mul_comm (2 ^ N)]
  · rw [Nat.div_lt_iff_lt_mul (by omega)]
    rw [Nat.mul_comm]
    exact Nat.mul_lt_mul_of_pos_left (by omega) (Nat.two_pow_pos _)
theorem lN_or1 (q : Nat) : lN (q * 2) ||| (1 : Int64) = lN (q * 2 + 1) := fq_ors (k := 1) (b := 1) (by decide)
/-- the class's quotient -/
theorem fr_divL {w n k : Int32} {m : Int64} {A B : Nat} {p q : Int} {P : Fr4 → Prop} (hA : 2 ^ 52 ≤ A ∧ A < 2 ^ 53) (hB : 2 ^ 52 ≤ B ∧ B < 2 ^ 53) (hp : -1200 ≤ p ∧ p ≤ 1100) (hq : -1200 ≤ q ∧ q ≤ 1100)
    (h : ∀ L', frv w (rn_sg n w (lN (rnX w (dvX A B) (p - q - 60)))) L' → P L') :
    ∀ (d i v r : Nat), i + d = 56 → A * 2 ^ i = v * (2 * B) + r → r < 2 * B → wl_Fr_divideFinite_15 (lN B) (iI (q + 52)) P (d + 1) (nI i) (lN v) (lN r) (n, k, iI (p + 52), m) := by
  have ub : ∀ i v r : Nat, i ≤ 56 → A * 2 ^ i = v * (2 * B) + r → v < 2 ^ 57 := by
    intro i v r hi he
    have h1 : v * (2 * B) ≤ A * 2 ^ i := by omega
    have h2 : A * 2 ^ i ≤ 2 * B * 2 ^ 56 := Nat.mul_le_mul (by omega) (Nat.pow_le_pow_right (by decide) hi)
    have h3 : v * (2 * B) ≤ 2 ^ 56 * (2 * B) := by rw [Nat.mul_comm (2 ^ 56)]; omega
    have := Nat.le_of_mul_le_mul_right h3 (by omega)
    omega
  intro d
  induction d with
  | zero =>
    intro i v r hi he hr
    have : i = 56 := by omega
    subst this
    obtain ⟨q1, q2⟩ := dv_end he hr
    obtain ⟨c1, c2⟩ := dv_cls (A := A) (B := B) (by omega)
    rw [q1] at c1
    rw [q2] at c2
    obtain ⟨i1, i2⟩ := dv_in 54 hA hB
    rw [show 54 + 2 = 56 from rfl, q1] at i1 i2
    have es : r = 0 ↔ st0 (dvX A B) 5 = 0 := by
      unfold st0
      rw [← c2]
      split <;> simp_all
    have es1 : st0 (dvX A B) 5 ≤ 1 := by unfold st0; split <;> omega
    rw [wl_Fr_divideFinite_15]
    have eE : iI (p + 52) - iI (q + 52) = iI (p - q) := by rw [fq_sub]; congr 1; omega
    have hz : lN r = 0 ↔ r = 0 := by rw [fq_l0, fq_linj (by omega) (by decide)]
    have go : ∀ b : Nat, b = st0 (dvX A B) 5 → wp_Fr_become (n, k, iI (p + 52), m) (lN (v * 2 ^ 7 + b)) (iI (p - q)) P := by
      intro b hb
      refine fr_fin2 (w := w) (X := dvX A B) (j := 5) (i := 7) (by decide) (by rw [c1, hb]) (by omega) (by omega) (by rw [c1]; omega) (by decide) (by omega) ?_
      rw [show p - q - 62 - ((5 : Nat) : Int) + ((7 : Nat) : Int) = p - q - 60 by omega]
      exact h
    refine ⟨fun _ => ⟨fun c x ex => ?_, fun c x ex => ?_⟩, fun c => absurd (by decide) c⟩
    · dsimp only
      rw [eE, ex, show (7 : Int32) = nI 7 from rfl, fq_shl _ (by decide), show (0 : Int32).toInt64 = 0 from rfl, fq_or0]
      exact go 0 (es.mp (hz.mp c)).symm
    · dsimp only
      rw [eE, ex, show (7 : Int32) = nI 7 from rfl, fq_shl _ (by decide), show (1 : Int32).toInt64 = lN 1 from rfl, fq_ors (by decide)]
      refine go 1 ?_
      have : ¬ r = 0 := fun z => c (hz.mpr z)
      omega
  | succ d ih =>
    intro i v r hi he hr
    have hv := ub i v r (by omega) he
    obtain ⟨s1, s2⟩ := dv_step he hr
    rw [wl_Fr_divideFinite_15]
    have hlt : lN r < lN B ↔ r < B := pk_lLT (by omega) (by omega)
    refine ⟨fun c => ?_, fun _ x ex => ⟨fun c y ey z ez => ?_, fun c y ey z ez u eu t et => ?_⟩⟩
    · have := (nI_leI (a := 56) (b := i) (by decide) (by omega)).mp c
      omega
    · rw [show (1 : Int32) = nI 1 from rfl, fq_shl _ (by decide), Nat.pow_one] at ex ey
      rw [nI_1] at ez
      subst ex; subst ey; subst ez
      obtain ⟨a1, a2⟩ := s1 (hlt.mp c)
      exact ih (i + 1) _ _ (by omega) a1 a2
    · have c : B ≤ r := by
        rcases Nat.lt_or_ge r B with z | z
        · exact absurd (hlt.mpr z) c
        · exact z
      rw [lN_sub c] at ey
      rw [show (1 : Int32) = nI 1 from rfl, fq_shl _ (by decide), Nat.pow_one] at ex
      rw [ex, lN_or1] at ez
      rw [ey, show (1 : Int32) = nI 1 from rfl, fq_shl _ (by decide), Nat.pow_one] at eu
      rw [nI_1] at et
      subst ez; subst eu; subst et
      obtain ⟨a1, a2⟩ := s2 c
      exact ih (i + 1) _ _ (by omega) a1 a2
theorem fr_divF {w n k : Int32} {A B : Nat} {p q : Int} {P : Fr4 → Prop} (hA : 2 ^ 52 ≤ A ∧ A < 2 ^ 53) (hB : 2 ^ 52 ≤ B ∧ B < 2 ^ 53) (hp : -1200 ≤ p ∧ p ≤ 1100) (hq : -1200 ≤ q ∧ q ≤ 1100)
    (h : ∀ L', frv w (rn_sg n w (lN (rnX w (dvX A B) (p - q - 60)))) L' → P L') : wp_Fr_divideFinite (n, k, iI (p + 52), lN (A * 2 ^ 10)) (lN B) (iI (q + 52)) P := by
  unfold wp_Fr_divideFinite
  dsimp only
  intro x ex
  have hb : A * 2 ^ 10 < 2 ^ 64 := by omega
  rw [show (10 : Int32) = nI 10 from rfl, fq_ushr hb (by decide), Nat.mul_div_cancel _ (by decide)] at ex
  subst ex
  refine ⟨57, fr_divL hA hB hp hq h 56 0 0 A (by decide) (by rw [Nat.pow_zero, Nat.mul_one, Nat.zero_mul, Nat.zero_add]) (by omega)⟩
section TD
variable {ms : Int32} {dd bm rr kt : Nat → Int32} {l1 : Int64}
theorem md_byl {w s : Int32} {A B : Nat} {p q : Int} {P : Int64 → Prop} (hA : 2 ^ 52 ≤ A ∧ A < 2 ^ 53) (hB : 2 ^ 52 ≤ B ∧ B < 2 ^ 53) (hp : -1200 ≤ p ∧ p ≤ 1100) (hq : -1200 ≤ q ∧ q ≤ 1100) (h15 : dd 15 = iI p) (h17 : dd 17 = iI q)
    (h : P (rn_sg s w (lN (rnX w (dvX A B) (p - q - 60))))) :
    ∀ (d i v r : Nat), i + d = 60 → A * 2 ^ i = v * (2 * B) + r → r < 2 * B → wl_Md_by_113 ms w dd l1 (lN B) bm rr kt P (d + 1) (nI i) (lN r) (lN v) s := by
  have ub : ∀ i v r : Nat, i ≤ 60 → A * 2 ^ i = v * (2 * B) + r → v < 2 ^ 61 := by
    intro i v r hi he
    have h1 : v * (2 * B) ≤ A * 2 ^ i := by omega
    have h2 : A * 2 ^ i ≤ 2 * B * 2 ^ 60 := Nat.mul_le_mul (by omega) (Nat.pow_le_pow_right (by decide) hi)
    have h3 : v * (2 * B) ≤ 2 ^ 60 * (2 * B) := by rw [Nat.mul_comm (2 ^ 60)]; omega
    have := Nat.le_of_mul_le_mul_right h3 (by omega)
    omega
  intro d
  induction d with
  | zero =>
    intro i v r hi he hr
    have : i = 60 := by omega
    subst this
    obtain ⟨q1, q2⟩ := dv_end he hr
    obtain ⟨c1, c2⟩ := dv_ref A B
    rw [q1] at c1
    rw [q2] at c2
    obtain ⟨i1, i2⟩ := dv_in 58 hA hB
    rw [show 58 + 2 = 60 from rfl, q1] at i1 i2
    rw [wl_Md_by_113]
    have eE : dd 15 - dd 17 - 59 = iI (p - q - 59) := by rw [h15, h17, fq_sub, show (59 : Int32) = iI 59 from rfl, fq_sub]
    have hz : lN r ≤ 0 ↔ r = 0 := by rw [fq_l0, pk_lLE (by omega) (by decide)]; omega
    have go : ∀ a3 : Int32, (a3 = 0 ↔ r = 0) → wp_Md_rounded s (lN v) (iI (p - q - 59)) a3 w P := by
      intro a3 ha
      refine md_fin (X := dvX A B) (j := 1) c1.symm (by rw [ha, c2]) (by omega) (by omega) (fun _ => by omega) (by omega) ?_
      rw [show p - q - 59 - ((1 : Nat) : Int) = p - q - 60 by omega]
      exact h
    refine ⟨fun _ x ex => ⟨fun c => ?_, fun c => ?_⟩, fun c => absurd (by decide) c⟩
    · rw [ex, eE]; exact go 0 ⟨fun _ => hz.mp c, fun _ => rfl⟩
    · rw [ex, eE]; exact go 1 ⟨fun z => absurd z (by decide), fun z => absurd (hz.mpr z) c⟩
  | succ d ih =>
    intro i v r hi he hr
    have hv := ub i v r (by omega) he
    obtain ⟨s1, s2⟩ := dv_step he hr
    rw [wl_Md_by_113]
    have hlt : lN r < lN B ↔ r < B := pk_lLT (by omega) (by omega)
    unfold wj_Md_by_147
    refine ⟨fun c => ?_, fun _ x ex => ⟨fun c y ey z ez => ?_, fun c y ey z ez u eu t et => ?_⟩⟩
    · have := (nI_leI (a := 60) (b := i) (by decide) (by omega)).mp c
      omega
    · rw [show (1 : Int32) = nI 1 from rfl, fq_shl _ (by decide), Nat.pow_one] at ex ey
      rw [nI_1] at ez
      subst ex; subst ey; subst ez
      obtain ⟨a1, a2⟩ := s1 (hlt.mp c)
      exact ih (i + 1) _ _ (by omega) a1 a2
    · have c : B ≤ r := by
        rcases Nat.lt_or_ge r B with z | z
        · exact absurd (hlt.mpr z) c
        · exact z
      rw [lN_sub c] at ey
      rw [show (1 : Int32) = nI 1 from rfl, fq_shl _ (by decide), Nat.pow_one] at ex
      rw [ex, lN_or1] at ez
      rw [ey, show (1 : Int32) = nI 1 from rfl, fq_shl _ (by decide), Nat.pow_one] at eu
      rw [nI_1] at et
      subst ez; subst eu; subst et
      obtain ⟨a1, a2⟩ := s2 c
      exact ih (i + 1) _ _ (by omega) a1 a2
end TD
