/-! ===== rounding an exact number: what both sides make of it is the same ===== -/
theorem rx_dd (V a b : Nat) : V / 2 ^ a / 2 ^ b = V / 2 ^ (a + b) := by rw [Nat.div_div_eq_div_mul, Nat.pow_add]
theorem rx_mm (V a b : Nat) : V % 2 ^ (a + b) = 2 ^ a * (V / 2 ^ a % 2 ^ b) + V % 2 ^ a := by
  rw [Nat.pow_add, Nat.mod_mul]; omega
/-- rounding up: the first digit that goes, and whether anything lies below it -/
theorem rx_up {V k : Nat} {s : Bool} (hk : 1 ≤ k) (kept : Nat) : rn_up (V % 2 ^ k) (2 ^ (k - 1)) kept s = if V / 2 ^ (k - 1) % 2 = 1 ∧ (¬ V % 2 ^ (k - 1) = 0 ∨ s = true ∨ kept % 2 = 1) then 1 else 0 := by
  obtain ⟨c, rfl⟩ : ∃ c, k = c + 1 := ⟨k - 1, by omega⟩
  rw [Nat.add_sub_cancel]
  have h := rx_mm V c 1
  have hlt := Nat.mod_lt V (Nat.two_pow_pos c)
  have hb : V / 2 ^ c % 2 = 0 ∨ V / 2 ^ c % 2 = 1 := by omega
  rw [Nat.pow_one] at h
  unfold rn_up
  rw [h]
  generalize V % 2 ^ c = lo at *
  generalize V / 2 ^ c % 2 = b at *
  generalize 2 ^ c = H at *
  rcases hb with rfl | rfl
  · simp; omega
  · by_cases h0 : lo = 0
    · subst h0; simp
    · have : 0 < lo := by omega
      simp [h0, this]
/-- only the upper 54 digits count, and whether anything lies below them -/
theorem rx_cong {w : Int32} {V1 V2 : Nat} {e : Int} {s1 s2 : Bool} (h : V1 / 2 ^ 9 = V2 / 2 ^ 9) (hs : (¬ V1 % 2 ^ 9 = 0 ∨ s1 = true) ↔ (¬ V2 % 2 ^ 9 = 0 ∨ s2 = true)) : rn_mag w V1 e s1 = rn_mag w V2 e s2 := by
  have hk := rn_kp w e
  have key : ∀ V : Nat, ∀ s : Bool, rn_raw w V e s = (e + rn_k w e - lst w).toNat * 2 ^ dg w + (V / 2 ^ 9 / 2 ^ (rn_k w e - 9) + if V / 2 ^ 9 / 2 ^ (rn_k w e - 10) % 2 = 1 ∧ (¬ V / 2 ^ 9 % 2 ^ (rn_k w e - 10) = 0 ∨ (¬ V % 2 ^ 9 = 0 ∨ s = true) ∨ V / 2 ^ 9 / 2 ^ (rn_k w e - 9) % 2 = 1) then 1 else 0) := by
    intro V s
    unfold rn_raw
    rw [rx_up (by omega)]
    rw [rx_dd, rx_dd, show 9 + (rn_k w e - 9) = rn_k w e by omega, show 9 + (rn_k w e - 10) = rn_k w e - 1 by omega]
    have h2 := rx_mm V 9 (rn_k w e - 10)
    rw [show 9 + (rn_k w e - 10) = rn_k w e - 1 by omega] at h2
    have h3 : V % 2 ^ (rn_k w e - 1) = 0 ↔ V / 2 ^ 9 % 2 ^ (rn_k w e - 10) = 0 ∧ V % 2 ^ 9 = 0 := by
      rw [h2]; omega
    simp only [h3, Classical.not_and_iff_not_or_not, or_assoc]
  unfold rn_mag
  rw [key, key, h]
  simp only [hs]
/-- an exact number X * 2^e, rounded -/
def rnX (w : Int32) (X : Nat) (e : Int) : Nat :=
  if X.log2 ≤ 62 then rn_mag w (X * 2 ^ (62 - X.log2)) (e - ((62 - X.log2 : Nat) : Int)) false
  else rn_mag w (X / 2 ^ (X.log2 - 62)) (e + ((X.log2 - 62 : Nat) : Int)) (decide (¬ X % 2 ^ (X.log2 - 62) = 0))
theorem rx_log {v t : Nat} (h1 : 2 ^ 62 ≤ v * 2 ^ t) (h2 : v * 2 ^ t < 2 ^ 63) : v.log2 + t = 62 := by
  have h0 : v ≠ 0 := by rintro rfl; rw [Nat.zero_mul] at h1; exact absurd h1 (by decide)
  have a := Nat.log2_self_le h0
  have b := Nat.lt_log2_self (n := v)
  have c : 2 ^ (v.log2 + t) < 2 ^ 63 := by
    rw [Nat.pow_add]
    exact Nat.lt_of_le_of_lt (Nat.mul_le_mul_right _ a) h2
  have d : 2 ^ 62 < 2 ^ (v.log2 + 1 + t) := by
    rw [Nat.pow_add]
    exact Nat.lt_of_le_of_lt h1 (Nat.mul_lt_mul_of_pos_right b (Nat.two_pow_pos _))
  have c := (Nat.pow_lt_pow_iff_right (by decide : 1 < 2)).mp c
  have d := (Nat.pow_lt_pow_iff_right (by decide : 1 < 2)).mp d
  omega
theorem rx_logd {X j : Nat} (h : X / 2 ^ j ≠ 0) : X.log2 = (X / 2 ^ j).log2 + j := by
  have h0 : X ≠ 0 := by rintro rfl; simp at h
  rw [Nat.log2_eq_iff h0]
  have a := Nat.log2_self_le h
  have b := Nat.lt_log2_self (n := X / 2 ^ j)
  constructor
  · rw [Nat.pow_add]
    exact (Nat.le_div_iff_mul_le (Nat.two_pow_pos _)).mp a
  · rw [show (X / 2 ^ j).log2 + j + 1 = (X / 2 ^ j).log2 + 1 + j by omega, Nat.pow_add]
    exact (Nat.div_lt_iff_lt_mul (Nat.two_pow_pos _)).mp b
/-- a number and less than one of its last place -/
theorem rx_add {v t r : Nat} (ht : t ≤ 9) (hr : r < 2 ^ t) : (v * 2 ^ t + r) / 2 ^ 9 = v * 2 ^ t / 2 ^ 9 ∧ ((v * 2 ^ t + r) % 2 ^ 9 = 0 ↔ v * 2 ^ t % 2 ^ 9 = 0 ∧ r = 0) := by
  have hp := Nat.two_pow_pos t
  have e1 : ∀ x : Nat, x / 2 ^ 9 = x / 2 ^ t / 2 ^ (9 - t) := fun x => by rw [rx_dd]; congr 2; omega
  have e2 : ∀ x : Nat, x % 2 ^ 9 = 2 ^ t * (x / 2 ^ t % 2 ^ (9 - t)) + x % 2 ^ t := fun x => by rw [← rx_mm]; congr 2; omega
  have d1 : (v * 2 ^ t + r) / 2 ^ t = v := by rw [Nat.add_comm, Nat.add_mul_div_right _ _ hp, Nat.div_eq_of_lt hr, Nat.zero_add]
  have d2 : v * 2 ^ t / 2 ^ t = v := Nat.mul_div_cancel _ hp
  have d3 : (v * 2 ^ t + r) % 2 ^ t = r := by rw [Nat.add_comm, Nat.add_mul_mod_self_right, Nat.mod_eq_of_lt hr]
  have d4 : v * 2 ^ t % 2 ^ t = 0 := Nat.mul_mod_left _ _
  constructor
  · rw [e1, e1 (v * 2 ^ t), d1, d2]
  · rw [e2, e2 (v * 2 ^ t), d1, d2, d3, d4]; omega
/-- the reference: what lies below 2^j is only told by s -/
theorem rx_md {w : Int32} {X j t : Nat} {e : Int} (h1 : 2 ^ 62 ≤ X / 2 ^ j * 2 ^ t) (h2 : X / 2 ^ j * 2 ^ t < 2 ^ 63) (h3 : ¬ X % 2 ^ j = 0 → t ≤ 9) : rn_mag w (X / 2 ^ j * 2 ^ t) (e + j - t) (decide (¬ X % 2 ^ j = 0)) = rnX w X e := by
  have hl := rx_log h1 h2
  have hv : X / 2 ^ j ≠ 0 := by intro q; rw [q, Nat.zero_mul] at h1; exact absurd h1 (by decide)
  have hX := rx_logd hv
  have hdm := Nat.div_add_mod X (2 ^ j)
  have hml := Nat.mod_lt X (Nat.two_pow_pos j)
  unfold rnX
  by_cases c : X.log2 ≤ 62
  · rw [if_pos c]
    have e1 : 62 - X.log2 = t - j := by omega
    have e2 : X * 2 ^ (t - j) = X / 2 ^ j * 2 ^ t + X % 2 ^ j * 2 ^ (t - j) := by
      conv => lhs; rw [← hdm]
      rw [Nat.add_mul, Nat.mul_comm (2 ^ j), Nat.mul_assoc, ← Nat.pow_add]
      congr 3; omega
    have e3 : X % 2 ^ j * 2 ^ (t - j) < 2 ^ t := by
      calc X % 2 ^ j * 2 ^ (t - j) < 2 ^ j * 2 ^ (t - j) := Nat.mul_lt_mul_of_pos_right hml (Nat.two_pow_pos _)
        _ = 2 ^ t := by rw [← Nat.pow_add]; congr 1; omega
    rw [e1, show e + (j : Int) - t = e - ((t - j : Nat) : Int) by omega, e2]
    by_cases z : X % 2 ^ j = 0
    · rw [z, Nat.zero_mul, Nat.add_zero]; simp
    · obtain ⟨q1, q2⟩ := rx_add (v := X / 2 ^ j) (h3 z) e3
      refine rx_cong q1.symm ?_
      have : ¬ X % 2 ^ j * 2 ^ (t - j) = 0 := by
        have := Nat.two_pow_pos (t - j)
        intro q
        rcases Nat.mul_eq_zero.mp q with q | q <;> omega
      simp [q2, z, this]
  · rw [if_neg c]
    have e1 : X.log2 - 62 = j - t := by omega
    have e2 : X / 2 ^ (j - t) = X / 2 ^ j * 2 ^ t + X % 2 ^ j / 2 ^ (j - t) := by
      conv => lhs; rw [← hdm]
      rw [show (2 : Nat) ^ j = 2 ^ (j - t) * 2 ^ t by rw [← Nat.pow_add]; congr 1; omega]
      rw [Nat.mul_assoc, Nat.mul_add_div (Nat.two_pow_pos _), Nat.mul_comm (2 ^ t)]
    have e3 : X % 2 ^ j / 2 ^ (j - t) < 2 ^ t := by
      rw [Nat.div_lt_iff_lt_mul (Nat.two_pow_pos _), ← Nat.pow_add, show t + (j - t) = j by omega]
      exact hml
    have e4 : X % 2 ^ (j - t) = X % 2 ^ j % 2 ^ (j - t) := by
      rw [Nat.mod_mod_of_dvd]
      exact Nat.pow_dvd_pow 2 (by omega)
    rw [e1, show e + (j : Int) - t = e + ((j - t : Nat) : Int) by omega, e2, e4]
    by_cases z : X % 2 ^ j = 0
    · rw [z]; simp
    · obtain ⟨q1, q2⟩ := rx_add (v := X / 2 ^ j) (h3 z) e3
      refine rx_cong q1.symm ?_
      have : ¬ (X % 2 ^ j / 2 ^ (j - t) = 0 ∧ X % 2 ^ j % 2 ^ (j - t) = 0) := by
        rintro ⟨a, b⟩
        have := Nat.div_add_mod (X % 2 ^ j) (2 ^ (j - t))
        rw [a, b] at this
        omega
      simp only [decide_eq_true_eq, q2]
      constructor
      · intro _
        by_cases b : X % 2 ^ j % 2 ^ (j - t) = 0
        · left; intro q; exact this ⟨q.2, b⟩
        · right; exact b
      · intro _; right; exact z
/-- what lies below is set as the last digit -/
def rx_jam (v : Nat) (s : Bool) : Nat := if s = true then v + 1 - v % 2 else v
theorem rx_jam_or (v : Nat) (s : Bool) : rx_jam v s = v ||| (if s = true then 1 else 0) := by
  unfold rx_jam
  cases s
  · simp
  · have h : v ||| 1 = v / 2 * 2 + 1 := by
      have h1 : (v ||| 1) / 2 = v / 2 := by rw [← Nat.shiftRight_eq_div_pow _ 1, ← Nat.shiftRight_eq_div_pow _ 1, Nat.shiftRight_or_distrib]; simp
      have h2 : (v ||| 1) % 2 = 1 := by simp [Nat.or_mod_two_eq_one]
      omega
    simp only [if_true, h]
    omega
theorem rx_jam2 (v : Nat) (s : Bool) : rx_jam v s / 2 = v / 2 ∧ (s = true → rx_jam v s % 2 = 1) ∧ (s = false → rx_jam v s = v) := by
  unfold rx_jam
  cases s <;> simp <;> omega
/-- the class: what lies below 2^j is set as the last digit -/
theorem rx_co {w : Int32} {X j t : Nat} {e : Int} (h1 : 2 ^ 62 ≤ rx_jam (X / 2 ^ j) (decide (¬ X % 2 ^ j = 0)) * 2 ^ t) (h2 : rx_jam (X / 2 ^ j) (decide (¬ X % 2 ^ j = 0)) * 2 ^ t < 2 ^ 63) (h3 : ¬ X % 2 ^ j = 0 → 2 ^ 54 ≤ X / 2 ^ j) : rn_mag w (rx_jam (X / 2 ^ j) (decide (¬ X % 2 ^ j = 0)) * 2 ^ t) (e + j - t) false = rnX w X e := by
  by_cases z : X % 2 ^ j = 0
  · have q : rx_jam (X / 2 ^ j) (decide (¬ X % 2 ^ j = 0)) = X / 2 ^ j := (rx_jam2 _ _).2.2 (by simp [z])
    rw [q] at h1 h2 ⊢
    have := rx_md (w := w) (e := e) h1 h2 (fun c => absurd z c)
    rw [← this]
    simp [z]
  · have hd : decide (¬ X % 2 ^ j = 0) = true := by simp [z]
    rw [hd] at h1 h2 ⊢
    obtain ⟨q1, q2, -⟩ := rx_jam2 (X / 2 ^ j) true
    have q2 := q2 rfl
    have h54 := h3 z
    generalize hv : X / 2 ^ j = v at *
    generalize rx_jam v true = u at *
    have ht : t ≤ 8 := by
      rcases Nat.lt_or_ge 8 t with c | c
      · have : 2 ^ 9 ≤ 2 ^ t := Nat.pow_le_pow_right (by decide) c
        have h5 : 2 ^ 54 ≤ u := by omega
        have : 2 ^ 54 * 2 ^ 9 ≤ u * 2 ^ t := Nat.mul_le_mul h5 this
        omega
      · exact c
    -- the same places
    have hp : ∀ x : Nat, x * 2 ^ t / 2 ^ 9 = x / 2 / 2 ^ (8 - t) ∧ (x % 2 = 1 → ¬ x * 2 ^ t % 2 ^ 9 = 0) := by
      intro x
      have e9 : (2 : Nat) ^ 9 = 2 * 2 ^ (8 - t) * 2 ^ t := by rw [Nat.mul_assoc, ← Nat.pow_add, show 8 - t + t = 8 by omega]
      constructor
      · rw [e9, Nat.mul_div_mul_right _ _ (Nat.two_pow_pos _), ← Nat.div_div_eq_div_mul]
      · intro o q
        rw [e9, Nat.mul_mod_mul_right] at q
        rcases Nat.mul_eq_zero.mp q with q | q
        · rw [Nat.mod_mul] at q; omega
        · have := Nat.two_pow_pos t; omega
    have hlog : 2 ^ 62 ≤ v * 2 ^ t ∧ v * 2 ^ t < 2 ^ 63 := by
      have hT : (2 : Nat) ^ 62 = 2 * (2 ^ (61 - t)) * 2 ^ t ∧ (2 : Nat) ^ 63 = 2 * (2 ^ (62 - t)) * 2 ^ t := by
        constructor
        · rw [Nat.mul_assoc, ← Nat.pow_add, show 61 - t + t = 61 by omega]
        · rw [Nat.mul_assoc, ← Nat.pow_add, show 62 - t + t = 62 by omega]
      rw [hT.1] at h1 ⊢
      rw [hT.2] at h2 ⊢
      have a := Nat.le_of_mul_le_mul_right h1 (Nat.two_pow_pos t)
      have b := Nat.lt_of_mul_lt_mul_right h2
      exact ⟨Nat.mul_le_mul_right _ (by omega), Nat.mul_lt_mul_of_pos_right (by omega) (Nat.two_pow_pos t)⟩
    rw [← hv] at hlog
    rw [← rx_md (w := w) (e := e) hlog.1 hlog.2 (fun _ => by omega), hv]
    refine rx_cong ?_ ?_
    · rw [(hp u).1, (hp v).1, q1]
    · simp [z, (hp u).2 q2]
