/-! ===== what an operation leaves: the bits that it packs to ===== -/
/-- the class's fraction packs to these bits -/
def frv (w : Int32) (B : Int64) (L : Fr4) : Prop := ∃ (V : Nat) (e : Int), (L.2.1 = 1 → L.2.2.1 = iI e ∧ L.2.2.2 = lN V ∧ (-50000 ≤ e ∧ e ≤ 50000) ∧ 2 ^ 62 ≤ V ∧ V < 2 ^ 63) ∧ fr_bits L w (rn_mag w V (e - 62) false) = B
theorem frv_pack {L : Fr4} {w : Int32} {B : Int64} {P : Int64 → Prop} (h : frv w B L) (k : P B) : wp_Fr_pack L w P := by
  obtain ⟨V, e, h1, rfl⟩ := h
  exact fr_pack h1 k
theorem frv_0 {w n x : Int32} {m : Int64} : frv w (rn_sg n w 0) (n, 0, x, m) := ⟨0, 0, fun q => absurd (show (0 : Int32) = 1 from q) (by decide), rfl⟩
theorem frv_2 {w n x : Int32} {m : Int64} : frv w (rn_sg n w (lN (mo w * 2 ^ dg w))) (n, 2, x, m) := ⟨0, 0, fun q => absurd (show (2 : Int32) = 1 from q) (by decide), rfl⟩
theorem frv_3 {w n x : Int32} {m : Int64} : frv w (rn_no w) (n, 3, x, m) := ⟨0, 0, fun q => absurd (show (3 : Int32) = 1 from q) (by decide), rfl⟩
theorem frv_1 {w n : Int32} {V : Nat} {e : Int} {B : Int64} (he : -50000 ≤ e ∧ e ≤ 50000) (h1 : 2 ^ 62 ≤ V) (h2 : V < 2 ^ 63) (hB : rn_sg n w (lN (rn_mag w V (e - 62) false)) = B) : frv w B (n, 1, iI e, lN V) := ⟨V, e, fun _ => ⟨rfl, rfl, he, h1, h2⟩, hB⟩
/-- whether anything lies below -/
def st0 (X j : Nat) : Nat := if X % 2 ^ j = 0 then 0 else 1
/-- what lies below is set further down -/
theorem rx_co2 {w : Int32} {X j i t : Nat} {e : Int} (hi : 1 ≤ i) (h1 : 2 ^ 62 ≤ (X / 2 ^ j * 2 ^ i + st0 X j) * 2 ^ t) (h2 : (X / 2 ^ j * 2 ^ i + st0 X j) * 2 ^ t < 2 ^ 63) (h3 : 2 ^ 62 ≤ X / 2 ^ j * 2 ^ (i + t)) (h4 : ¬ X % 2 ^ j = 0 → i + t ≤ 9) : rn_mag w ((X / 2 ^ j * 2 ^ i + st0 X j) * 2 ^ t) (e + j - (i + t : Nat)) false = rnX w X e := by
  have e1 : (X / 2 ^ j * 2 ^ i + st0 X j) * 2 ^ t = X / 2 ^ j * 2 ^ (i + t) + st0 X j * 2 ^ t := by rw [Nat.add_mul, Nat.mul_assoc, ← Nat.pow_add]
  have h5 : X / 2 ^ j * 2 ^ (i + t) < 2 ^ 63 := by omega
  rw [← rx_md (w := w) (e := e) h3 h5 h4, e1]
  by_cases z : X % 2 ^ j = 0
  · have : st0 X j = 0 := if_pos z
    rw [this, Nat.zero_mul, Nat.add_zero]; simp [z]
  · have s1 : st0 X j = 1 := if_neg z
    have hr : st0 X j * 2 ^ t < 2 ^ (i + t) := by
      rw [s1, Nat.one_mul]
      exact Nat.pow_lt_pow_right (by decide) (by omega)
    obtain ⟨q1, q2⟩ := rx_add (v := X / 2 ^ j) (h4 z) hr
    refine rx_cong q1 ?_
    have hp := Nat.two_pow_pos t
    have : ¬ st0 X j * 2 ^ t = 0 := by rw [s1]; omega
    simp [q2, z, this]
/-- a number is brought up, what lies below set as the last digit -/
theorem fr_fin {w n k x : Int32} {m : Int64} {P : Fr4 → Prop} {X j v : Nat} {e : Int} (hv : v = rx_jam (X / 2 ^ j) (decide (¬ X % 2 ^ j = 0))) (h0 : 0 < v) (h1 : v < 2 ^ 63) (h2 : ¬ X % 2 ^ j = 0 → 2 ^ 54 ≤ X / 2 ^ j) (he : -40000 ≤ e ∧ e ≤ 40000)
    (h : ∀ L', frv w (rn_sg n w (lN (rnX w X (e - 62 - j)))) L' → P L') : wp_Fr_become (n, k, x, m) (lN v) (iI e) P := by
  refine fr_become h0 h1 (fun t t1 t2 t3 => h _ (frv_1 (by omega) t2 t3 ?_))
  rw [hv] at t2 t3 ⊢
  rw [← rx_co (w := w) (e := e - 62 - j) t2 t3 h2]
  congr 3; omega
theorem fr_fin2 {w n k x : Int32} {m : Int64} {P : Fr4 → Prop} {X j i v : Nat} {e : Int} (hi : 1 ≤ i) (hv : v = X / 2 ^ j * 2 ^ i + st0 X j) (h0 : 0 < v) (h1 : v < 2 ^ 63) (h2 : 2 ^ 61 ≤ X / 2 ^ j * 2 ^ i) (h3 : i ≤ 8) (he : -40000 ≤ e ∧ e ≤ 40000)
    (h : ∀ L', frv w (rn_sg n w (lN (rnX w X (e - 62 - j + i)))) L' → P L') : wp_Fr_become (n, k, x, m) (lN v) (iI e) P := by
  refine fr_become h0 h1 (fun t t1 t2 t3 => h _ (frv_1 (by omega) t2 t3 ?_))
  have hs : st0 X j ≤ 1 := by unfold st0; split <;> omega
  have ht : t ≤ 1 := by
    rcases Nat.lt_or_ge 1 t with c | c
    · have q : 2 ^ 2 ≤ 2 ^ t := Nat.pow_le_pow_right (by decide) c
      have : 2 ^ 61 * 2 ^ 2 ≤ v * 2 ^ t := Nat.mul_le_mul (by omega) q
      omega
    · exact c
  have h5 : 2 ^ 62 ≤ X / 2 ^ j * 2 ^ (i + t) := by
    rw [Nat.pow_add, ← Nat.mul_assoc]
    have hev : ∃ c, X / 2 ^ j * 2 ^ i = 2 * c := ⟨X / 2 ^ j * 2 ^ (i - 1), by rw [Nat.mul_left_comm, ← Nat.pow_succ']; congr 2; omega⟩
    obtain ⟨c, hc⟩ := hev
    rw [hv] at t2
    rw [hc] at t2 h2 ⊢
    have ht : t = 0 ∨ t = 1 := by omega
    rcases ht with rfl | rfl <;> omega
  rw [hv] at t2 t3 ⊢
  rw [← rx_co2 (w := w) (e := e - 62 - j + i) hi t2 t3 h5 (fun _ => by omega)]
  congr 3; omega
/-- the reference rounds a number -/
theorem md_fin {w n a3 : Int32} {P : Int64 → Prop} {X j v : Nat} {e : Int} (hv : v = X / 2 ^ j) (hs : a3 = 0 ↔ X % 2 ^ j = 0) (h0 : 0 < v) (h1 : v < 2 ^ 63) (h2 : ¬ X % 2 ^ j = 0 → 2 ^ 53 ≤ v) (he : -40000 ≤ e ∧ e ≤ 40000) (h : P (rn_sg n w (lN (rnX w X (e - j))))) : wp_Md_rounded n (lN v) (iI e) a3 w P := by
  refine md_rounded (s := decide (¬ X % 2 ^ j = 0)) (by rw [hs]; simp) h0 h1 he (fun t t1 t2 t3 => ?_)
  rw [hv] at t2 t3 ⊢
  rw [← rx_md (w := w) (e := e - j) t2 t3 ?_] at h
  · rw [show e - (t : Int) = e - j + j - t by omega]; exact h
  · intro z
    rcases Nat.lt_or_ge 9 t with c | c
    · have q : 2 ^ 10 ≤ 2 ^ t := Nat.pow_le_pow_right (by decide) c
      have h6 := h2 z
      rw [hv] at h6
      have : 2 ^ 53 * 2 ^ 10 ≤ X / 2 ^ j * 2 ^ t := Nat.mul_le_mul h6 q
      omega
    · exact c
