/-! ===== rounding: one function for both ===== -/
def dg (w : Int32) : Nat := if w = 0 then 23 else 52
def mo (w : Int32) : Nat := if w = 0 then 255 else 2047
def bi (w : Int32) : Nat := if w = 0 then 127 else 1023
def lst (w : Int32) : Int := if w = 0 then -149 else -1074
/-- how many bits of a number of 63 bits at exponent e are cut off -/
def rn_k (w : Int32) (e : Int) : Nat := max (62 - dg w) (lst w - e).toNat
def rn_up (lo half kept : Nat) (s : Bool) : Nat := if half < lo ∨ (lo = half ∧ (s = true ∨ kept % 2 = 1)) then 1 else 0
def rn_raw (w : Int32) (V : Nat) (e : Int) (s : Bool) : Nat := (e + rn_k w e - lst w).toNat * 2 ^ dg w + (V / 2 ^ rn_k w e + rn_up (V % 2 ^ rn_k w e) (2 ^ (rn_k w e - 1)) (V / 2 ^ rn_k w e) s)
def rn_mag (w : Int32) (V : Nat) (e : Int) (s : Bool) : Nat := min (rn_raw w V e s) (mo w * 2 ^ dg w)
def rn_sg (n w : Int32) (x : Int64) : Int64 := if n = 0 then x else if w = 0 then x ||| lN (2 ^ 31) else x ||| lN (2 ^ 63)
theorem rn_fm (w : Int32) : (w = 0 ∧ dg w = 23 ∧ mo w = 255 ∧ bi w = 127 ∧ lst w = -149) ∨ (¬ w = 0 ∧ dg w = 52 ∧ mo w = 2047 ∧ bi w = 1023 ∧ lst w = -1074) := by
  unfold dg mo bi lst
  by_cases h : w = 0
  · simp [h]
  · simp [h]
theorem rn_up_le (lo half kept : Nat) (s : Bool) : rn_up lo half kept s ≤ 1 := by
  unfold rn_up
  split <;> omega
/-- a number of at most 63 bits is shifted up -/
theorem rn_norm {v : Nat} (h0 : 0 < v) (h : v < 2 ^ 63) : ∃ t : Nat, t ≤ 62 ∧ 2 ^ 62 ≤ v * 2 ^ t ∧ v * 2 ^ t < 2 ^ 63 := by
  have h1 : v ≠ 0 := by omega
  have a := Nat.log2_self_le h1
  have b := Nat.lt_log2_self (n := v)
  have c : v.log2 ≤ 62 := by
    have := (Nat.log2_lt h1).mpr h
    omega
  refine ⟨62 - v.log2, by omega, ?_, ?_⟩
  · calc 2 ^ 62 = 2 ^ v.log2 * 2 ^ (62 - v.log2) := by rw [← Nat.pow_add]; congr 1; omega
      _ ≤ v * 2 ^ (62 - v.log2) := Nat.mul_le_mul_right _ a
  · calc v * 2 ^ (62 - v.log2) < 2 ^ (v.log2 + 1) * 2 ^ (62 - v.log2) := Nat.mul_lt_mul_of_pos_right b (Nat.two_pow_pos _)
      _ = 2 ^ 63 := by rw [← Nat.pow_add]; congr 1; omega
theorem rn_normU {V1 V2 : Nat} {e1 e2 : Int} {t1 t2 : Nat} {v : Nat} (h1 : 2 ^ 62 ≤ v * 2 ^ t1) (h1' : v * 2 ^ t1 < 2 ^ 63) (h2 : 2 ^ 62 ≤ v * 2 ^ t2) (h2' : v * 2 ^ t2 < 2 ^ 63) : t1 = t2 := by
  have key : ∀ a b : Nat, a < b → 2 ^ 62 ≤ v * 2 ^ a → v * 2 ^ b < 2 ^ 63 → False := by
    intro a b hab ha hb
    have : v * 2 ^ b = v * 2 ^ a * 2 ^ (b - a) := by rw [Nat.mul_assoc, ← Nat.pow_add]; congr 2; omega
    have h2 : 2 ≤ 2 ^ (b - a) := by
      calc 2 = 2 ^ 1 := rfl
        _ ≤ 2 ^ (b - a) := Nat.pow_le_pow_right (by decide) (by omega)
    have h3 : v * 2 ^ a * 2 ≤ v * 2 ^ a * 2 ^ (b - a) := Nat.mul_le_mul_left _ h2
    omega
  rcases Nat.lt_trichotomy t1 t2 with h | h | h
  · exact (key _ _ h h1 h2').elim
  · exact h
  · exact (key _ _ h h2 h1').elim
theorem md_signed {n w : Int32} {x : Int64} {P : Int64 → Prop} (h : P (rn_sg n w x)) : wp_Md_signed n w x P := by
  unfold wp_Md_signed
  unfold rn_sg at h
  refine ⟨fun c => ?_, fun c => ⟨fun d y ey => ?_, fun d y ey => ?_⟩⟩
  · rw [if_pos c] at h; exact h
  · rw [if_neg c, if_pos d] at h
    rw [ey, show (31 : Int32) = nI 31 from rfl, fq_1 (by decide)]; exact h
  · rw [if_neg c, if_neg d] at h
    rw [ey, show (63 : Int32) = nI 63 from rfl, fq_1 (by decide)]; exact h
theorem md_digits {w : Int32} {P : Int32 → Prop} (h : P (nI (dg w))) : wp_Md_digits w P := by
  unfold wp_Md_digits
  unfold dg at h
  exact ⟨fun c => by rw [if_pos c] at h; exact h, fun c => by rw [if_neg c] at h; exact h⟩
theorem md_most {w : Int32} {P : Int32 → Prop} (h : P (nI (mo w))) : wp_Md_most w P := by
  unfold wp_Md_most
  unfold mo at h
  exact ⟨fun c => by rw [if_pos c] at h; exact h, fun c => by rw [if_neg c] at h; exact h⟩
theorem md_bias {w : Int32} {P : Int32 → Prop} (h : P (nI (bi w))) : wp_Md_bias w P := by
  unfold wp_Md_bias
  unfold bi at h
  exact ⟨fun c => by rw [if_pos c] at h; exact h, fun c => by rw [if_neg c] at h; exact h⟩
theorem md_endless {n w : Int32} {P : Int64 → Prop} (h : P (rn_sg n w (lN (mo w * 2 ^ dg w)))) : wp_Md_endless n w P := by
  unfold wp_Md_endless
  refine md_most (md_digits (md_signed ?_))
  have h1 : mo w < 2 ^ 31 ∧ dg w < 64 := by rcases rn_fm w with ⟨-, a, b, -⟩ | ⟨-, a, b, -⟩ <;> rw [a, b] <;> decide
  rw [fq_il h1.1, fq_shl _ h1.2]
  exact h
theorem rn_fld {D M f K : Nat} (hK : K < 2 * D) (hf : f = 0 ∧ K < D ∨ 1 ≤ f ∧ D ≤ K) (c : f < M) : f * D + K % D = min ((f - 1) * D + K) (M * D) := by
  rcases hf with ⟨rfl, h⟩ | ⟨h1, h⟩
  · have : 1 * D ≤ M * D := Nat.mul_le_mul_right _ c
    rw [Nat.mod_eq_of_lt h, Nat.zero_mul]
    omega
  · obtain ⟨g, rfl⟩ : ∃ g, f = g + 1 := ⟨f - 1, by omega⟩
    have h2 : K % D = K - D := by rw [Nat.mod_eq_sub_mod h, Nat.mod_eq_of_lt (by omega)]
    have h3 : (g + 1 + 1) * D ≤ M * D := Nat.mul_le_mul_right _ c
    rw [h2, Nat.add_sub_cancel]
    rw [Nat.add_mul, Nat.add_mul, Nat.one_mul] at h3
    rw [Nat.add_mul, Nat.one_mul]
    omega
theorem rn_fld2 {D M f K : Nat} (hf : f = 0 ∧ K < D ∨ 1 ≤ f ∧ D ≤ K) (c : ¬ f < M) (hM : 0 < M) : M * D = min ((f - 1) * D + K) (M * D) := by
  obtain ⟨g, rfl⟩ : ∃ g, f = g + 1 := ⟨f - 1, by omega⟩
  have h3 : M * D ≤ (g + 1) * D := Nat.mul_le_mul_right _ (by omega)
  rw [Nat.add_mul, Nat.one_mul] at h3
  rw [Nat.add_sub_cancel]
  omega
/-- the end of it: what is kept, and the exponent -/
theorem md_r245 {a0 a2 a3 w : Int32} {a1 : Int64} {P : Int64 → Prop} {K : Nat} {E : Int} (hE : -100000 ≤ E ∧ E ≤ 100000) (hK : K ≤ 2 ^ (dg w + 1)) (hl : lst w ≤ E) (hn : E = lst w ∨ 2 ^ dg w ≤ K)
    (h : P (rn_sg a0 w (lN (min ((E - lst w).toNat * 2 ^ dg w + K) (mo w * 2 ^ dg w))))) : wj_Md_rounded_245 a0 a1 a2 a3 w P (nI (dg w)) (iI E) (lN K) := by
  have t291 : ∀ (K' : Nat) (f : Nat), K' < 2 ^ (dg w + 1) → (f = 0 ∧ K' < 2 ^ dg w ∨ 1 ≤ f ∧ 2 ^ dg w ≤ K') → f ≤ 300000 → (E - lst w).toNat * 2 ^ dg w + K = (f - 1) * 2 ^ dg w + K' → wj_Md_rounded_291 a0 a1 a2 a3 w P (nI (dg w)) (lN K') (nI f) := by
    intro K' f hK' hf hf2 he
    rw [he] at h
    unfold wj_Md_rounded_291
    refine md_most ⟨fun c x ex y ey => md_signed ?_, fun c => md_endless ?_⟩
    · have g1 : mo w < 2 ^ 31 ∧ dg w < 64 := by rcases rn_fm w with ⟨-, a, b, -⟩ | ⟨-, a, b, -⟩ <;> rw [a, b] <;> decide
      rw [nI_ltI (by omega) g1.1] at c
      rw [fq_il (by omega), fq_shl _ g1.2] at ex
      rw [fq_m1 g1.2] at ey
      rw [ex, ey, fq_mask, fq_ors (Nat.mod_lt _ (Nat.two_pow_pos _)), rn_fld (by rw [Nat.pow_succ] at hK'; omega) hf c]
      exact h
    · have g1 : mo w < 2 ^ 31 ∧ 0 < mo w := by rcases rn_fm w with ⟨-, a, b, -⟩ | ⟨-, a, b, -⟩ <;> rw [b] <;> decide
      rw [nI_ltI (by omega) g1.1] at c
      rw [rn_fld2 (K := K') hf c g1.2]
      exact h
  have t266 : ∀ (K' : Nat) (E' : Int), K' < 2 ^ (dg w + 1) → lst w ≤ E' → E' ≤ 100001 → (E' = lst w ∨ 2 ^ dg w ≤ K') → (E - lst w).toNat * 2 ^ dg w + K = (E' - lst w).toNat * 2 ^ dg w + K' → wj_Md_rounded_266 a0 a1 a2 a3 w P (nI (dg w)) (iI E') (lN K') := by
    intro K' E' hK' h1 h2 h3 he
    unfold wj_Md_rounded_266
    have hd : dg w < 64 := by rcases rn_fm w with ⟨-, a, -⟩ | ⟨-, a, -⟩ <;> rw [a] <;> decide
    have hK63 : K' < 2 ^ 63 := by rcases rn_fm w with ⟨-, a, -⟩ | ⟨-, a, -⟩ <;> rw [a] at hK' <;> omega
    have hq : zz_lshr (lN K') (nI (dg w)) = 0 ↔ K' < 2 ^ dg w := by
      rw [fq_shr hK63 hd, fq_l0, fq_linj (Nat.lt_of_le_of_lt (Nat.div_le_self _ _) (by omega)) (by decide), Nat.div_eq_zero_iff_lt (Nat.two_pow_pos _)]
    refine ⟨fun c => ?_, fun c => md_bias ?_⟩
    · have c := hq.mp c
      refine t291 K' 0 hK' (Or.inl ⟨rfl, c⟩) (by omega) ?_
      have : E' = lst w := by omega
      rw [he, this]; simp
    · have c : 2 ^ dg w ≤ K' := by
        rcases Nat.lt_or_ge K' (2 ^ dg w) with z | z
        · exact absurd (hq.mpr z) c
        · exact z
      have ef : iI E' + nI (dg w) + nI (bi w) = nI ((E' - lst w).toNat + 1) := by
        rw [fq_n, fq_n, fq_add, fq_add, fq_n]
        congr 1
        rcases rn_fm w with ⟨-, q1, q2, q3, q4⟩ | ⟨-, q1, q2, q3, q4⟩ <;> rw [q1, q3] <;> omega
      rw [ef]
      refine t291 K' _ hK' (Or.inr ⟨by omega, c⟩) ?_ ?_
      · rcases rn_fm w with ⟨-, q1, q2, q3, q4⟩ | ⟨-, q1, q2, q3, q4⟩ <;> omega
      · rw [he]; simp
  unfold wj_Md_rounded_245
  have hd : dg w + 1 < 64 := by rcases rn_fm w with ⟨-, a, -⟩ | ⟨-, a, -⟩ <;> rw [a] <;> decide
  have hK63 : K < 2 ^ 63 := by rcases rn_fm w with ⟨-, a, -⟩ | ⟨-, a, -⟩ <;> rw [a] at hK <;> omega
  rw [nI_1, fq_shr hK63 hd]
  intro x ex
  have hq : x ≤ (0 : Int64) ↔ K < 2 ^ (dg w + 1) := by
    rw [ex, fq_l0, pk_lLE (Nat.lt_of_le_of_lt (Nat.div_le_self _ _) hK63) (by decide), Nat.le_zero, Nat.div_eq_zero_iff_lt (Nat.two_pow_pos _)]
  refine ⟨fun c => ?_, fun c y ey z ez => ?_⟩
  · exact t266 K E (hq.mp c) hl (by omega) hn rfl
  · have c1 : K = 2 ^ (dg w + 1) := by
      rcases Nat.lt_or_ge K (2 ^ (dg w + 1)) with q | q
      · exact absurd (hq.mpr q) c
      · omega
    rw [show (1 : Int32) = nI 1 from rfl, fq_shr hK63 (by decide)] at ey
    rw [show (1 : Int32) = iI 1 from rfl, fq_add] at ez
    subst ey; subst ez
    have c2 : K / 2 ^ 1 = 2 ^ dg w := by rw [c1, Nat.pow_succ]; omega
    rw [c2]
    refine t266 _ _ ?_ (by omega) (by omega) (Or.inr (Nat.le_refl _)) ?_
    · rw [Nat.pow_succ]; have := Nat.two_pow_pos (dg w); omega
    · rw [c1, Nat.pow_succ, show (E + 1 - lst w).toNat = (E - lst w).toNat + 1 by omega, Nat.add_mul]; omega

theorem rn_kp (w : Int32) (e : Int) : 10 ≤ rn_k w e := by
  unfold rn_k
  rcases rn_fm w with ⟨-, a, -⟩ | ⟨-, a, -⟩ <;> rw [a] <;> omega
theorem rn_ke (w : Int32) (e : Int) : lst w ≤ e + rn_k w e ∧ (e + rn_k w e = lst w ∨ rn_k w e = 62 - dg w) ∧ 62 - dg w ≤ rn_k w e := by
  unfold rn_k
  rcases rn_fm w with ⟨-, a, -, -, b⟩ | ⟨-, a, -, -, b⟩ <;> rw [a, b] <;> omega
theorem rn_dl (w : Int32) : dg w ≤ 52 ∧ 23 ≤ dg w := by rcases rn_fm w with ⟨-, a, -⟩ | ⟨-, a, -⟩ <;> rw [a] <;> omega
/-- what is kept has at most one digit more than the fraction -/
theorem rn_kept {w : Int32} {V : Nat} {e : Int} (hV : V < 2 ^ 63) : V / 2 ^ rn_k w e < 2 ^ (dg w + 1) := by
  have h := (rn_ke w e).2.2
  have hd := (rn_dl w).1
  rw [Nat.div_lt_iff_lt_mul (Nat.two_pow_pos _), ← Nat.pow_add]
  exact Nat.lt_of_lt_of_le hV (Nat.pow_le_pow_right (by decide) (by omega))
theorem rn_keptG {w : Int32} {V : Nat} {e : Int} (hV : 2 ^ 62 ≤ V) (hk : rn_k w e = 62 - dg w) : 2 ^ dg w ≤ V / 2 ^ rn_k w e := by
  have hd := (rn_dl w).1
  rw [Nat.le_div_iff_mul_le (Nat.two_pow_pos _), ← Nat.pow_add]
  exact Nat.le_trans (Nat.pow_le_pow_right (by decide) (by omega)) hV
theorem rn_big {w : Int32} {V : Nat} {e : Int} {s : Bool} (hV : V < 2 ^ 63) (hk : 64 ≤ rn_k w e) : V / 2 ^ rn_k w e = 0 ∧ V % 2 ^ rn_k w e = V ∧ rn_up (V % 2 ^ rn_k w e) (2 ^ (rn_k w e - 1)) (V / 2 ^ rn_k w e) s = 0 := by
  have h1 : 2 ^ 63 ≤ 2 ^ (rn_k w e - 1) := Nat.pow_le_pow_right (by decide) (by omega)
  have h2 : 2 ^ 63 ≤ 2 ^ rn_k w e := Nat.pow_le_pow_right (by decide) (by omega)
  have h3 : V % 2 ^ rn_k w e = V := Nat.mod_eq_of_lt (by omega)
  refine ⟨Nat.div_eq_of_lt (by omega), h3, ?_⟩
  unfold rn_up
  rw [h3, if_neg (by omega)]
/-- the middle of it: what is kept, what is cut off, and which way -/
theorem md_r75 {a0 a2 a3 w : Int32} {a1 : Int64} {P : Int64 → Prop} {V : Nat} {E : Int} {s : Bool} (hs : a3 = 0 ↔ s = false) (hE : -50000 ≤ E ∧ E ≤ 50000) (hV : 2 ^ 62 ≤ V) (hV2 : V < 2 ^ 63)
    (h : P (rn_sg a0 w (lN (rn_mag w V E s)))) : wj_Md_rounded_75 a0 a1 a2 a3 w P (nI (dg w)) (lN V) (iI E) a3 (nI (rn_k w E)) := by
  have hkb : rn_k w E ≤ 60000 := by
    unfold rn_k
    rcases rn_fm w with ⟨-, a, -, -, b⟩ | ⟨-, a, -, -, b⟩ <;> rw [a, b] <;> omega
  have k10 := rn_kp w E
  obtain ⟨k1, k2, k3⟩ := rn_ke w E
  obtain ⟨d1, d2⟩ := rn_dl w
  have hkept := rn_kept (w := w) (e := E) hV2
  have hle := rn_up_le (V % 2 ^ rn_k w E) (2 ^ (rn_k w E - 1)) (V / 2 ^ rn_k w E) s
  have cmp : ∀ c : Nat, c < 100000 → (nI (rn_k w E) ≤ Int32.ofNat c ↔ rn_k w E ≤ c) := fun c hc => nI_leI (by omega) (by omega)
  -- the end
  have t225 : wj_Md_rounded_225 a0 a1 a2 a3 w P (nI (dg w)) (iI E) (nI (rn_k w E)) (lN (V / 2 ^ rn_k w E)) (nI (rn_up (V % 2 ^ rn_k w E) (2 ^ (rn_k w E - 1)) (V / 2 ^ rn_k w E) s)) := by
    have t : wj_Md_rounded_245 a0 a1 a2 a3 w P (nI (dg w)) (iI (E + rn_k w E)) (lN (V / 2 ^ rn_k w E + rn_up (V % 2 ^ rn_k w E) (2 ^ (rn_k w E - 1)) (V / 2 ^ rn_k w E) s)) := by
      have hls : lst w = -149 ∨ lst w = -1074 := by
        rcases rn_fm w with ⟨-, -, -, -, q⟩ | ⟨-, -, -, -, q⟩ <;> omega
      refine md_r245 (by omega) (by omega) k1 ?_ ?_
      · rcases k2 with k2 | k2
        · exact Or.inl k2
        · exact Or.inr (Nat.le_trans (rn_keptG hV k2) (Nat.le_add_right _ _))
      · exact h
    unfold wj_Md_rounded_225
    intro x ex
    rw [fq_n, fq_add] at ex
    subst ex
    refine ⟨fun c => ?_, fun c y ey => ?_⟩
    · rw [(nI_eq (b := 0) (by omega) (by decide)).mp c, Nat.add_zero] at t
      exact t
    · have e1 : rn_up (V % 2 ^ rn_k w E) (2 ^ (rn_k w E - 1)) (V / 2 ^ rn_k w E) s = 1 := by
        rcases Nat.eq_zero_or_pos (rn_up (V % 2 ^ rn_k w E) (2 ^ (rn_k w E - 1)) (V / 2 ^ rn_k w E) s) with z | z
        · rw [z] at c; exact absurd rfl c
        · omega
      rw [e1] at t
      rw [ey, lN_1]
      exact t
  have up0 : ¬ (2 ^ (rn_k w E - 1) < V % 2 ^ rn_k w E ∨ (V % 2 ^ rn_k w E = 2 ^ (rn_k w E - 1) ∧ (s = true ∨ V / 2 ^ rn_k w E % 2 = 1))) → wj_Md_rounded_224 a0 a1 a2 a3 w P (nI (dg w)) (iI E) (nI (rn_k w E)) (lN (V / 2 ^ rn_k w E)) := by
    intro q
    have t := t225
    rw [rn_up, if_neg q] at t
    exact t
  have up1 : (2 ^ (rn_k w E - 1) < V % 2 ^ rn_k w E ∨ (V % 2 ^ rn_k w E = 2 ^ (rn_k w E - 1) ∧ (s = true ∨ V / 2 ^ rn_k w E % 2 = 1))) → wj_Md_rounded_220 a0 a1 a2 a3 w P (nI (dg w)) (iI E) (nI (rn_k w E)) (lN (V / 2 ^ rn_k w E)) := by
    intro q
    have t := t225
    rw [rn_up, if_pos q] at t
    exact t
  have hlow : V % 2 ^ rn_k w E < 2 ^ 63 := Nat.lt_of_le_of_lt (Nat.mod_le _ _) hV2
  have hkb63 : V / 2 ^ rn_k w E < 2 ^ 63 := Nat.lt_of_le_of_lt (Nat.div_le_self _ _) hV2
  have s1 : ¬ a3 = 0 ↔ s = true := by rw [hs]; cases s <;> simp
  have hodd : (lN (V / 2 ^ rn_k w E) &&& 1 = (1 : Int64)) ↔ V / 2 ^ rn_k w E % 2 = 1 := by
    rw [fq_odd, fq_l1, fq_linj (by omega) (by decide)]
  -- which way
  have t148 : ∀ half : Int64, (rn_k w E ≤ 63 → half = lN (2 ^ (rn_k w E - 1))) → wj_Md_rounded_148 a0 a1 a2 a3 w P (nI (dg w)) (iI E) a3 (nI (rn_k w E)) (lN (V / 2 ^ rn_k w E)) (lN (V % 2 ^ rn_k w E)) half := by
    intro half hh
    unfold wj_Md_rounded_148
    refine ⟨fun c => ?_, fun c => ⟨fun d => ?_, fun d => ?_⟩⟩
    · have c1 : 64 ≤ rn_k w E := by
        have := (nI_ltI (a := 63) (b := rn_k w E) (by decide) (by omega)).mp c
        omega
      have t := t225
      rw [(rn_big (s := s) hV2 c1).2.2] at t
      exact t
    · have d1 : rn_k w E = 63 := (nI_eq (b := 63) (by omega) (by decide)).mp d
      have e0 : V / 2 ^ rn_k w E = 0 := by rw [d1]; exact Nat.div_eq_of_lt hV2
      have eh : (2 : Nat) ^ (rn_k w E - 1) = 4611686018427387904 := by rw [d1]
      have q1 : (4611686018427387904 : Int64) < lN (V % 2 ^ rn_k w E) ↔ 2 ^ (rn_k w E - 1) < V % 2 ^ rn_k w E := by
        rw [eh, show (4611686018427387904 : Int64) = lN 4611686018427387904 from rfl, pk_lLT (by decide) hlow]
      have q2 : lN (V % 2 ^ rn_k w E) = (4611686018427387904 : Int64) ↔ V % 2 ^ rn_k w E = 2 ^ (rn_k w E - 1) := by
        rw [eh, show (4611686018427387904 : Int64) = lN 4611686018427387904 from rfl, pk_lEQ hlow (by decide)]
      refine ⟨fun f => up1 (Or.inl (q1.mp f)), fun f => ⟨fun g => ⟨fun r => up0 ?_, fun r => up1 (Or.inr ⟨q2.mp g, Or.inl (s1.mp r)⟩)⟩, fun g => up0 ?_⟩⟩
      · rintro (z | ⟨z1, z2 | z2⟩)
        · exact f (q1.mpr z)
        · exact absurd (hs.mp r) (by rw [z2]; decide)
        · rw [e0] at z2; exact absurd z2 (by decide)
      · rintro (z | ⟨z1, -⟩)
        · exact f (q1.mpr z)
        · exact g (q2.mpr z1)
    · have c1 : rn_k w E ≤ 62 := by
        have c2 : ¬ 63 < rn_k w E := fun z => c ((nI_ltI (a := 63) (b := rn_k w E) (by decide) (by omega)).mpr z)
        have c3 : ¬ rn_k w E = 63 := fun z => d ((nI_eq (b := 63) (by omega) (by decide)).mpr z)
        omega
      rw [hh (by omega)]
      have hp : (2 : Nat) ^ (rn_k w E - 1) < 2 ^ 63 := Nat.pow_lt_pow_right (by decide) (by omega)
      have q1 : lN (2 ^ (rn_k w E - 1)) < lN (V % 2 ^ rn_k w E) ↔ 2 ^ (rn_k w E - 1) < V % 2 ^ rn_k w E := pk_lLT hp hlow
      have q2 : lN (V % 2 ^ rn_k w E) = lN (2 ^ (rn_k w E - 1)) ↔ V % 2 ^ rn_k w E = 2 ^ (rn_k w E - 1) := pk_lEQ hlow hp
      refine ⟨fun f => up1 (Or.inl (q1.mp f)), fun f => ⟨fun g => ⟨fun r => ⟨fun y => up1 (Or.inr ⟨q2.mp g, Or.inr (hodd.mp y)⟩), fun y => up0 ?_⟩, fun r => up1 (Or.inr ⟨q2.mp g, Or.inl (s1.mp r)⟩)⟩, fun g => up0 ?_⟩⟩
      · rintro (z | ⟨z1, z2 | z2⟩)
        · exact f (q1.mpr z)
        · exact absurd (hs.mp r) (by rw [z2]; decide)
        · exact y (hodd.mpr z2)
      · rintro (z | ⟨z1, -⟩)
        · exact f (q1.mpr z)
        · exact g (q2.mpr z1)
  have t129 : wj_Md_rounded_129 a0 a1 a2 a3 w P (nI (dg w)) (iI E) a3 (nI (rn_k w E)) (lN (V / 2 ^ rn_k w E)) (lN (V % 2 ^ rn_k w E)) := by
    unfold wj_Md_rounded_129
    refine ⟨fun c x ex => t148 x (fun q => ?_), fun c => t148 0 (fun q => absurd ((cmp 63 (by decide)).mpr q) c)⟩
    rw [ex, show (1 : Int32) = nI 1 from rfl, pk_sub (by omega), fq_1 (by omega)]
  have t106 : wj_Md_rounded_106 a0 a1 a2 a3 w P (nI (dg w)) (lN V) (iI E) a3 (nI (rn_k w E)) (lN (V / 2 ^ rn_k w E)) := by
    unfold wj_Md_rounded_106
    refine ⟨fun c x ex y ey => ?_, fun c => ?_⟩
    · have c1 := (cmp 62 (by decide)).mp c
      have e1 : y = lN (V % 2 ^ rn_k w E) := by rw [ey, ex, fq_m1 (by omega), fq_mask]
      rw [e1]; exact t129
    · have c1 : ¬ rn_k w E ≤ 62 := fun z => c ((cmp 62 (by decide)).mpr z)
      have h2 : 2 ^ 63 ≤ 2 ^ rn_k w E := Nat.pow_le_pow_right (by decide) (by omega)
      have t := t129
      rw [Nat.mod_eq_of_lt (show V < 2 ^ rn_k w E by omega)] at t
      exact t
  unfold wj_Md_rounded_75
  refine ⟨fun c => ⟨fun d => ?_, fun d => ?_⟩, fun c => md_signed ?_⟩
  · rw [fq_shr hV2 (by have := (cmp 62 (by decide)).mp d; omega)]
    exact t106
  · have c1 : ¬ rn_k w E ≤ 62 := fun z => d ((cmp 62 (by decide)).mpr z)
    have h2 : 2 ^ 63 ≤ 2 ^ rn_k w E := Nat.pow_le_pow_right (by decide) (by omega)
    have t := t106
    rw [Nat.div_eq_of_lt (show V < 2 ^ rn_k w E by omega)] at t
    exact t
  · have c1 : ¬ rn_k w E ≤ 64 := fun z => c ((cmp 64 (by decide)).mpr z)
    have b := rn_big (s := s) (w := w) (e := E) hV2 (by omega)
    have e1 : rn_mag w V E s = 0 := by
      unfold rn_mag rn_raw
      rw [b.2.2, b.1, show E + rn_k w E - lst w = 0 by omega]
      simp
    rw [e1] at h
    exact h
theorem md_rounded {a0 a3 w : Int32} {P : Int64 → Prop} {v : Nat} {e : Int} {s : Bool} (hs : a3 = 0 ↔ s = false) (hv : 0 < v) (hv2 : v < 2 ^ 63) (he : -40000 ≤ e ∧ e ≤ 40000)
    (h : ∀ t : Nat, t ≤ 62 → 2 ^ 62 ≤ v * 2 ^ t → v * 2 ^ t < 2 ^ 63 → P (rn_sg a0 w (lN (rn_mag w (v * 2 ^ t) (e - t) s)))) : wp_Md_rounded a0 (lN v) (iI e) a3 w P := by
  obtain ⟨t, t1, t2, t3⟩ := rn_norm hv hv2
  have h := h t t1 t2 t3
  unfold wp_Md_rounded
  refine md_digits ⟨t + 1, ?_⟩
  have key : ∀ (t v : Nat) (e : Int), t ≤ 62 → 0 < v → 2 ^ 62 ≤ v * 2 ^ t → v * 2 ^ t < 2 ^ 63 → -40100 + t ≤ e → e ≤ 40000 → P (rn_sg a0 w (lN (rn_mag w (v * 2 ^ t) (e - t) s))) → ∀ (b1 : Int64) (b2 : Int32), wl_Md_rounded_17 a0 b1 b2 a3 w P (t + 1) a3 (iI e) (lN v) (nI (dg w)) := by
    intro t
    induction t with
    | zero =>
      intro v e _ hv h1 h2 e1 e2 h b1 b2
      rw [Nat.pow_zero, Nat.mul_one] at h1 h2 h
      rw [wl_Md_rounded_17]
      have hz : zz_lshr (lN v) (62 : Int32) = lN (v / 2 ^ 62) := fq_shr h2 (by decide)
      refine ⟨fun c => ?_, fun _ => md_bias (fun x ex y ey => ?_)⟩
      · rw [hz, fq_l0, fq_linj (Nat.lt_of_le_of_lt (Nat.div_le_self _ _) (by omega)) (by decide)] at c
        omega
      · have ex1 : x = iI (lst w) := by
          rw [ex, fq_n, fq_n, show (1 : Int32) = iI 1 from rfl, fq_sub, fq_sub]
          congr 1
          rcases rn_fm w with ⟨-, q1, q2, q3, q4⟩ | ⟨-, q1, q2, q3, q4⟩ <;> rw [q1, q3, q4] <;> rfl
        have ey1 : y = iI ((62 - dg w : Nat) : Int) := by
          rw [ey, show (62 : Int32) = nI 62 from rfl, pk_sub (by have := (rn_dl w).1; omega), fq_n]
        have hq : x ≤ iI e + y ↔ lst w ≤ e + ((62 - dg w : Nat) : Int) := by
          have := rn_dl w
          rw [ex1, ey1, fq_add]
          refine fq_le ⟨?_, ?_⟩ ⟨?_, ?_⟩ <;> rcases rn_fm w with ⟨-, q1, q2, q3, q4⟩ | ⟨-, q1, q2, q3, q4⟩ <;> omega
        have t75 := md_r75 (a0 := a0) (a2 := b2) (a1 := b1) (w := w) (P := P) (V := v) (E := e) hs (by omega) h1 h2 (by simpa using h)
        refine ⟨fun c => ?_, fun c z ez => ?_⟩
        · have e9 : y = nI (rn_k w e) := by
            rw [ey1, fq_n]
            congr 2
            have := hq.mp c
            unfold rn_k
            omega
          rw [e9]; exact t75
        · have e9 : z = nI (rn_k w e) := by
            rw [ez, ex1, fq_sub, fq_n]
            congr 1
            have : ¬ (lst w ≤ e + ((62 - dg w : Nat) : Int)) := fun q => c (hq.mpr q)
            unfold rn_k
            omega
          rw [e9]; exact t75
    | succ t ih =>
      intro v e ht hv h1 h2 e1 e2 h b1 b2
      have p2 : v * 2 ^ (t + 1) = v * 2 * 2 ^ t := by rw [Nat.pow_succ]; rw [Nat.mul_assoc, Nat.mul_comm (2 ^ t)]
      have hb : v * 2 < 2 ^ 63 := by
        have : v * 2 * 1 ≤ v * 2 * 2 ^ t := Nat.mul_le_mul_left _ Nat.one_le_two_pow
        omega
      rw [wl_Md_rounded_17]
      have hz : zz_lshr (lN v) (62 : Int32) = 0 := by
        rw [show (62 : Int32) = nI 62 from rfl, fq_shr (by omega) (by decide), Nat.div_eq_of_lt (by omega)]
        rfl
      refine ⟨fun _ x ex y ey => ?_, fun c => absurd hz c⟩
      rw [show (1 : Int32) = nI 1 from rfl, fq_shl _ (by decide), Nat.pow_one] at ex
      rw [show (-1 : Int32) = iI (-1) by decide, fq_add] at ey
      subst ex; subst ey
      refine ih (v * 2) (e + -1) (by omega) (by omega) (by omega) (by omega) (by omega) (by omega) ?_ b1 b2
      rw [p2] at h
      rw [show e + -1 - (t : Int) = e - ((t + 1 : Nat) : Int) by omega]
      exact h
  exact key t v e t1 hv t2 t3 (by omega) he.2 h _ _
