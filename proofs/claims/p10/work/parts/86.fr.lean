/-! ===== the class's fractions: a number is brought up, packed, taken apart ===== -/
theorem fq_i (n : Nat) : iI (n : Int) = nI n := (fq_n n).symm
/-- one place of the loop -/
theorem fr_bstep {a0 : Int64} {a1 : Int32} {P : Fr4 → Prop} {n : Nat} {p : Nat} {n0 k0 : Int32} (hp : 1 ≤ p) (hp2 : p ≤ 32)
    (ih : ∀ (v : Nat) (e : Int) (t : Nat), t < p → 2 ^ 62 ≤ v * 2 ^ t → v * 2 ^ t < 2 ^ 63 → P (n0, k0, iI (e - t), lN (v * 2 ^ t)) → wl_Fr_become_29 a0 a1 P n (nI (p / 2)) (n0, k0, iI e, lN v)) :
    ∀ (v : Nat) (e : Int) (t : Nat), t < 2 * p → 2 ^ 62 ≤ v * 2 ^ t → v * 2 ^ t < 2 ^ 63 → P (n0, k0, iI (e - t), lN (v * 2 ^ t)) → wl_Fr_become_29 a0 a1 P (n + 1) (nI p) (n0, k0, iI e, lN v) := by
  intro v e t ht h1 h2 h
  have hv : v < 2 ^ 63 := Nat.lt_of_le_of_lt (Nat.le_mul_of_pos_right _ (Nat.two_pow_pos t)) h2
  have hl := rx_log h1 h2
  have h0 : v ≠ 0 := by rintro rfl; rw [Nat.zero_mul] at h1; exact absurd h1 (by decide)
  have hc : zz_lushr (lN v) ((63 : Int32) - nI p) = 0 ↔ p ≤ t := by
    rw [show (63 : Int32) = nI 63 from rfl, pk_sub (by omega), fq_ushr (by omega) (by omega), fq_l0, fq_linj (Nat.lt_of_le_of_lt (Nat.div_le_self _ _) (by omega)) (by decide), Nat.div_eq_zero_iff_lt (Nat.two_pow_pos _), ← Nat.log2_lt h0]
    omega
  have hd : (nI p / (2 : Int32)) = nI (p / 2) := pk_div (d := 2) (by omega) (by decide) (by decide)
  rw [wl_Fr_become_29]
  refine ⟨fun c => absurd c (nI_nle (by omega) (by omega)), fun _ x ex => ⟨fun c y ey z ez u eu => ?_, fun c u eu => ?_⟩⟩
  · rw [ex] at c
    have hpt := hc.mp c
    rw [fq_shl _ (by omega)] at ey
    rw [fq_n, fq_sub] at ez
    rw [hd] at eu
    subst ey; subst ez; subst eu
    have e1 : v * 2 ^ p * 2 ^ (t - p) = v * 2 ^ t := by rw [Nat.mul_assoc, ← Nat.pow_add]; congr 2; omega
    refine ih _ _ (t - p) (by omega) (by rw [e1]; exact h1) (by rw [e1]; exact h2) ?_
    rw [e1, show e - (p : Int) - ((t - p : Nat) : Int) = e - t by omega]
    exact h
  · rw [ex] at c
    have hpt : ¬ p ≤ t := fun q => c (hc.mpr q)
    rw [hd] at eu
    subst eu
    exact ih v e t (by omega) h1 h2 h
theorem fr_b32 {b0 : Int64} {b1 : Int32} {n0 k0 : Int32} {P : Fr4 → Prop} : ∀ (v : Nat) (e : Int) (t : Nat), t < 64 → 2 ^ 62 ≤ v * 2 ^ t → v * 2 ^ t < 2 ^ 63 → P (n0, k0, iI (e - t), lN (v * 2 ^ t)) → wl_Fr_become_29 b0 b1 P 7 32 (n0, k0, iI e, lN v) := by
  have s0 : ∀ (v : Nat) (e : Int) (t : Nat), t < 1 → 2 ^ 62 ≤ v * 2 ^ t → v * 2 ^ t < 2 ^ 63 → P (n0, k0, iI (e - t), lN (v * 2 ^ t)) → wl_Fr_become_29 b0 b1 P 1 (nI (1 / 2)) (n0, k0, iI e, lN v) := by
    intro v e t ht _ _ h
    have : t = 0 := by omega
    subst this
    rw [wl_Fr_become_29]
    refine ⟨fun _ => ?_, fun c => absurd (by decide) c⟩
    simpa using h
  have s1 := fr_bstep (p := 1) (by decide) (by decide) s0
  have s2 := fr_bstep (p := 2) (by decide) (by decide) s1
  have s3 := fr_bstep (p := 4) (by decide) (by decide) s2
  have s4 := fr_bstep (p := 8) (by decide) (by decide) s3
  have s5 := fr_bstep (p := 16) (by decide) (by decide) s4
  exact fr_bstep (p := 32) (by decide) (by decide) s5
theorem fr_become {L : Fr4} {P : Fr4 → Prop} {v : Nat} {e : Int} (hv : 0 < v) (hv2 : v < 2 ^ 63)
    (h : ∀ t : Nat, t ≤ 62 → 2 ^ 62 ≤ v * 2 ^ t → v * 2 ^ t < 2 ^ 63 → P (L.1, 1, iI (e - t), lN (v * 2 ^ t))) : wp_Fr_become L (lN v) (iI e) P := by
  obtain ⟨t, t1, t2, t3⟩ := rn_norm hv hv2
  unfold wp_Fr_become
  refine ⟨fun c => ?_, fun c => ⟨7, fr_b32 v e t (by omega) t2 t3 (h t t1 t2 t3)⟩⟩
  rw [fq_l0, fq_linj (by omega) (by decide)] at c
  omega
/-- nothing stays nothing -/
theorem fr_bzero {L : Fr4} {P : Fr4 → Prop} {e : Int32} (h : ∀ x : Int32, P (L.1, 0, x, 0)) : wp_Fr_become L 0 e P := by
  have st : ∀ (n : Nat) (p q : Int32) (b0 : Int64) (b1 : Int32), 0 < p → p / 2 = q → zz_lushr 0 (63 - p) = 0 → zz_lshl 0 p = 0 → (∀ x : Int32, wl_Fr_become_29 b0 b1 P n q (L.1, 0, x, 0)) → ∀ x : Int32, wl_Fr_become_29 b0 b1 P (n + 1) p (L.1, 0, x, 0) := by
    intro n p q b0 b1 hp hq h1 h2 ih x
    rw [wl_Fr_become_29]
    refine ⟨fun c => absurd c (Int32.not_le.mpr hp), fun _ y ey => ⟨fun c z ez u eu t et => ?_, fun c => absurd (ey.trans h1) c⟩⟩
    rw [h2] at ez; rw [hq] at et
    subst ez; subst et
    exact ih u
  unfold wp_Fr_become
  refine ⟨fun _ => ⟨7, ?_⟩, fun c => absurd rfl c⟩
  refine st 6 32 16 _ _ (by decide) (by decide) (by decide) (by decide) ?_ e
  refine st 5 16 8 _ _ (by decide) (by decide) (by decide) (by decide) ?_
  refine st 4 8 4 _ _ (by decide) (by decide) (by decide) (by decide) ?_
  refine st 3 4 2 _ _ (by decide) (by decide) (by decide) (by decide) ?_
  refine st 2 2 1 _ _ (by decide) (by decide) (by decide) (by decide) ?_
  refine st 1 1 0 _ _ (by decide) (by decide) (by decide) (by decide) ?_
  intro x
  rw [wl_Fr_become_29]
  exact ⟨fun _ => h x, fun c => absurd (by decide) c⟩
theorem fr_width {w : Int32} {P : Int32 → Prop} (h : P (nI (dg w))) : wp_Fr_width w P := by
  unfold wp_Fr_width
  unfold dg at h
  exact ⟨fun c => by rw [if_pos c] at h; exact h, fun c => by rw [if_neg c] at h; exact h⟩
/-- the least exponent of a number with all digits -/
def lw0 (w : Int32) : Int := lst w + dg w
theorem lw0_e (w : Int32) : lw0 w = if w = 0 then -126 else -1022 := by
  unfold lw0
  rcases rn_fm w with ⟨a, b, -, -, c⟩ | ⟨a, b, -, -, c⟩
  · rw [b, c, if_pos a]; decide
  · rw [b, c, if_neg a]; decide
theorem fr_lowest {w : Int32} {P : Int32 → Prop} (h : P (iI (lw0 w))) : wp_Fr_lowest w P := by
  unfold wp_Fr_lowest
  rw [lw0_e] at h
  exact ⟨fun c => by rw [if_pos c] at h; exact h, fun c => by rw [if_neg c] at h; exact h⟩
theorem fr_infinity {w : Int32} {P : Int64 → Prop} (h : P (lN (mo w * 2 ^ dg w))) : wp_Fr_infinity w P := by
  unfold wp_Fr_infinity
  refine ⟨fun c => ?_, fun c => ?_⟩
  · have : mo w * 2 ^ dg w = 2139095040 := by unfold mo dg; rw [if_pos c, if_pos c]
    rw [this] at h; exact h
  · have : mo w * 2 ^ dg w = 9218868437227405312 := by unfold mo dg; rw [if_neg c, if_neg c]
    rw [this] at h; exact h
/-- to the nearest -/
theorem fr_away0 {L : Fr4} {P : Int32 → Prop} {k lo half : Nat} (h1 : lo < 2 ^ 63) (h2 : half < 2 ^ 63) (hk : k < 2 ^ 64) (h : P (nI (rn_up lo half k false))) : wp_Fr_awayFromZero L 0 (lN k) (lN lo) (lN half) P := by
  unfold wp_Fr_awayFromZero
  unfold rn_up at h
  have ho : (lN k &&& 1 = (0 : Int64)) ↔ k % 2 = 0 := by rw [fq_odd, fq_l0, fq_linj (by omega) (by decide)]
  refine ⟨fun _ => ⟨fun c => ?_, fun c => ⟨fun d => ⟨fun o => ?_, fun o => ?_⟩, fun d => ?_⟩⟩, fun c => absurd rfl c⟩
  · rw [pk_lLT h2 h1] at c
    rw [if_pos (Or.inl c)] at h; exact h
  · rw [pk_lLT h2 h1] at c
    rw [ho] at o
    rw [if_neg (by simp [o]; omega)] at h; exact h
  · rw [pk_lLT h2 h1] at c
    rw [pk_lEQ h1 h2] at d
    rw [ho] at o
    rw [if_pos (Or.inr ⟨d, Or.inr (by omega)⟩)] at h; exact h
  · rw [pk_lLT h2 h1] at c
    rw [pk_lEQ h1 h2] at d
    rw [if_neg (by rintro (q | q) <;> omega)] at h; exact h
theorem rn_mfin {w : Int32} {V : Nat} {E : Int} {s : Bool} (hV : V < 2 ^ 63) (h : E + rn_k w E - lst w ≤ mo w - 2) : rn_mag w V E s = rn_raw w V E s := by
  unfold rn_mag
  refine Nat.min_eq_left ?_
  unfold rn_raw
  have a := rn_kept (w := w) (e := E) hV
  have b := rn_up_le (V % 2 ^ rn_k w E) (2 ^ (rn_k w E - 1)) (V / 2 ^ rn_k w E) s
  have m2 : 2 ≤ mo w := by rcases rn_fm w with ⟨-, -, q, -⟩ | ⟨-, -, q, -⟩ <;> rw [q] <;> decide
  have c : ((E + rn_k w E - lst w).toNat + 2) * 2 ^ dg w ≤ mo w * 2 ^ dg w := Nat.mul_le_mul_right _ (by omega)
  rw [Nat.add_mul] at c
  rw [Nat.pow_succ] at a
  generalize 2 ^ dg w = D at *
  omega
theorem rn_minf {w : Int32} {V : Nat} {E : Int} {s : Bool} (hV : 2 ^ 62 ≤ V) (h : (mo w : Int) - 1 ≤ E + rn_k w E - lst w) : rn_mag w V E s = mo w * 2 ^ dg w := by
  unfold rn_mag
  refine Nat.min_eq_right ?_
  unfold rn_raw
  have m2 : 2 ≤ mo w := by rcases rn_fm w with ⟨-, -, q, -⟩ | ⟨-, -, q, -⟩ <;> rw [q] <;> decide
  obtain ⟨-, k2, -⟩ := rn_ke w E
  have a := rn_keptG (w := w) (e := E) hV (by rcases k2 with k2 | k2; · omega
                                              · exact k2)
  have c : (mo w - 1 + 1) * 2 ^ dg w ≤ ((E + rn_k w E - lst w).toNat + 1) * 2 ^ dg w := Nat.mul_le_mul_right _ (by omega)
  rw [show mo w - 1 + 1 = mo w by omega, Nat.add_mul, Nat.one_mul] at c
  generalize 2 ^ dg w = D at *
  omega
theorem rn_m0 {w : Int32} {V : Nat} {E : Int} {s : Bool} (hV2 : V < 2 ^ 63) (hk : 64 ≤ rn_k w E) : rn_mag w V E s = 0 := by
  have b := rn_big (s := s) (w := w) (e := E) hV2 hk
  obtain ⟨-, k2, -⟩ := rn_ke w E
  have d := (rn_dl w).2
  unfold rn_mag rn_raw
  rw [b.2.2, b.1, show E + rn_k w E - lst w = 0 by omega]
  simp
theorem fq_min0 {a : Int} (ha : fq_r a) : (if (0 : Int32) < iI a then (0 : Int32) else iI a) = iI (min a 0) := by
  have q : (0 : Int32) < iI a ↔ 0 < a := fq_lt (a := 0) ⟨by decide, by decide⟩ ha
  by_cases c : 0 < a
  · rw [if_pos (q.mpr c), Int.min_eq_right (by omega)]; rfl
  · rw [if_neg (fun z => c (q.mp z)), Int.min_eq_left (by omega)]
theorem fq_max0 {a : Int} (ha : fq_r a) : (if iI a < (0 : Int32) then (0 : Int32) else iI a) = nI a.toNat := by
  have q : iI a < (0 : Int32) ↔ a < 0 := fq_lt (b := 0) ha ⟨by decide, by decide⟩
  by_cases c : a < 0
  · rw [if_pos (q.mpr c), show a.toNat = 0 by omega]; rfl
  · rw [if_neg (fun z => c (q.mp z)), fq_n, show ((a.toNat : Nat) : Int) = a by omega]
theorem fr_rounded {n k : Int32} {w : Int32} {P : Int64 → Prop} {V : Nat} {e : Int} (he : -50000 ≤ e ∧ e ≤ 50000) (hV : 2 ^ 62 ≤ V) (hV2 : V < 2 ^ 63) (h : P (lN (rn_mag w V (e - 62) false))) : wp_Fr_rounded (n, k, iI e, lN V) w P := by
  have hw : -1100 ≤ lw0 w ∧ lw0 w ≤ -100 ∧ lst w + dg w = lw0 w ∧ (mo w : Int) = 3 - 2 * lw0 w ∧ dg w ≤ 52 ∧ 23 ≤ dg w := by
    unfold lw0
    rcases rn_fm w with ⟨-, a, b, -, c⟩ | ⟨-, a, b, -, c⟩ <;> rw [a, b, c] <;> decide
  obtain ⟨w1, w2, w3, w4, w5, w6⟩ := hw
  have hk : (rn_k w (e - 62) : Int) = max (62 - dg w : Int) (62 - dg w - (e - lw0 w)) := by
    unfold rn_k; omega
  have hin : iI e ≤ 1 - iI (lw0 w) ↔ e ≤ 1 - lw0 w := by
    rw [show (1 : Int32) = iI 1 from rfl, fq_sub]
    exact fq_le ⟨by omega, by omega⟩ ⟨by omega, by omega⟩
  unfold wp_Fr_rounded
  refine fr_lowest (fun x ex => fr_lowest ⟨fun c => fr_width (fun y ey z ez => ?_), fun c => fr_infinity ?_⟩)
  · have c := hin.mp c
    have ex : x = iI (e - lw0 w) := by rw [ex]; exact fq_sub _ _
    have ry : fq_r (e - lw0 w) := ⟨by omega, by omega⟩
    rw [ex, fq_min0 ry] at ey
    have ez : z = nI (rn_k w (e - 62)) := by
      rw [ez, ey, fq_n, show (62 : Int32) = iI 62 from rfl, fq_sub, fq_sub, fq_n]
      congr 1
      omega
    have hz : z ≤ 63 ↔ rn_k w (e - 62) ≤ 63 := by rw [ez]; exact nI_leI (b := 63) (by omega) (by decide)
    have hk1 := rn_kp w (e - 62)
    refine ⟨fun d p ep q eq r er s es => ?_, fun d => ?_⟩
    · have d := hz.mp d
      rw [rn_mfin hV2 (by omega)] at h
      have ep : p = lN (V / 2 ^ rn_k w (e - 62)) := by rw [ep, ez]; exact fq_ushr (by omega) (by omega)
      have er : r = lN (V % 2 ^ rn_k w (e - 62)) := by rw [er, eq, ez, fq_m1 (by omega)]; exact fq_mask _ _
      have es : s = lN (2 ^ (rn_k w (e - 62) - 1)) := by rw [es, ez, show (1 : Int32) = nI 1 from rfl, pk_sub (by omega), fq_1 (by omega)]
      have hm : (e - 62 + rn_k w (e - 62) - lst w).toNat = (e - lw0 w).toNat := by omega
      rw [ep, er, es]
      have kk := Nat.div_le_self V (2 ^ rn_k w (e - 62))
      have km := Nat.mod_le V (2 ^ rn_k w (e - 62))
      have kp : (2 : Nat) ^ (rn_k w (e - 62) - 1) < 2 ^ 63 := Nat.pow_lt_pow_right (by decide) (by omega)
      refine fr_away0 (by omega) kp (by omega) ?_
      unfold rn_raw at h
      rw [hm] at h
      have hu := rn_up_le (V % 2 ^ rn_k w (e - 62)) (2 ^ (rn_k w (e - 62) - 1)) (V / 2 ^ rn_k w (e - 62)) false
      have fin : ∀ y : Int32, y = (if x < (0 : Int32) then (0 : Int32) else x) → ∀ u : Nat, zz_lshl y.toInt64 (nI (dg w)) + lN u = lN ((e - lw0 w).toNat * 2 ^ dg w + u) := by
        intro y ey u
        rw [ey, ex, fq_max0 ry, fq_il (by omega), fq_shl _ (by omega), lN_add]
      refine ⟨fun a y1 e1 => fr_width (fun y2 e2 => ?_), fun a y0 e0 y1 e1 => fr_width (fun y2 e2 => ?_)⟩
      · have a : rn_up (V % 2 ^ rn_k w (e - 62)) (2 ^ (rn_k w (e - 62) - 1)) (V / 2 ^ rn_k w (e - 62)) false = 0 := (nI_eq (b := 0) (by omega) (by decide)).mp a
        rw [a, Nat.add_zero] at h
        rw [e2, fin y1 e1]
        exact h
      · have a : ¬ rn_up (V % 2 ^ rn_k w (e - 62)) (2 ^ (rn_k w (e - 62) - 1)) (V / 2 ^ rn_k w (e - 62)) false = 0 := fun q => a (by rw [q]; rfl)
        rw [show rn_up (V % 2 ^ rn_k w (e - 62)) (2 ^ (rn_k w (e - 62) - 1)) (V / 2 ^ rn_k w (e - 62)) false = 1 by omega] at h
        rw [e2, e0, lN_1, fin y1 e1]
        exact h
    · have d : ¬ rn_k w (e - 62) ≤ 63 := fun q => d (hz.mpr q)
      rw [rn_m0 hV2 (by omega)] at h
      exact h
  · have c : ¬ e ≤ 1 - lw0 w := fun q => c (hin.mpr q)
    rw [rn_minf hV (by omega)] at h
    exact h
theorem rn_sg0 (n w : Int32) : rn_sg n w 0 = if n = 0 then 0 else if w = 0 then lN (2 ^ 31) else lN (2 ^ 63) := by
  unfold rn_sg
  by_cases a : n = 0
  · rw [if_pos a, if_pos a]
  · rw [if_neg a, if_neg a]
    by_cases b : w = 0
    · rw [if_pos b, if_pos b]; rfl
    · rw [if_neg b, if_neg b]; rfl
/-- no number, as bits -/
def rn_no (w : Int32) : Int64 := if w = 0 then 2143289343 else 9221120237041090559
/-- a fraction as bits -/
def fr_bits (L : Fr4) (w : Int32) (m : Nat) : Int64 := if L.2.1 = 0 then rn_sg L.1 w 0 else if L.2.1 = 1 then rn_sg L.1 w (lN m) else if L.2.1 = 2 then rn_sg L.1 w (lN (mo w * 2 ^ dg w)) else rn_no w
theorem l_orc (a b : Int64) : a ||| b = b ||| a := Int64.or_comm a b
theorem l_or0 (a : Int64) : 0 ||| a = a := by rw [l_orc]; exact Int64.or_zero
theorem fr_pack {L : Fr4} {w : Int32} {P : Int64 → Prop} {V : Nat} {e : Int} (hL : L.2.1 = 1 → L.2.2.1 = iI e ∧ L.2.2.2 = lN V ∧ (-50000 ≤ e ∧ e ≤ 50000) ∧ 2 ^ 62 ≤ V ∧ V < 2 ^ 63) (h : P (fr_bits L w (rn_mag w V (e - 62) false))) : wp_Fr_pack L w P := by
  obtain ⟨n, k, ex, m⟩ := L
  unfold fr_bits at h
  unfold wp_Fr_pack
  dsimp only at *
  have e31 : zz_lshl 1 31 = lN (2 ^ 31) := by decide
  have e63 : zz_lshl 1 63 = lN (2 ^ 63) := by decide
  refine ⟨fun n0 => ⟨fun k0 => ?_, fun k0 => ⟨fun k1 => ?_, fun k1 => ⟨fun k2 => ?_, fun k2 => ⟨fun w0 => ?_, fun w0 => ?_⟩⟩⟩⟩, fun n0 => ⟨fun w0 x ex => ⟨fun k0 => ?_, fun k0 => ⟨fun k1 => ?_, fun k1 => ⟨fun k2 => ?_, fun k2 => ?_⟩⟩⟩, fun w0 x ex => ⟨fun k0 => ?_, fun k0 => ⟨fun k1 => ?_, fun k1 => ⟨fun k2 => ?_, fun k2 => ?_⟩⟩⟩⟩⟩
  · rw [if_pos k0, rn_sg0, if_pos n0] at h; exact h
  · rw [if_neg k0, if_pos k1, rn_sg, if_pos n0] at h
    obtain ⟨h1, h2, h3, h4, h5⟩ := hL k1
    rw [h1, h2]
    exact fr_rounded h3 h4 h5 (by rw [l_or0]; exact h)
  · rw [if_neg k0, if_neg k1, if_pos k2, rn_sg, if_pos n0] at h
    exact fr_infinity (by rw [l_or0]; exact h)
  · rw [if_neg k0, if_neg k1, if_neg k2, rn_no, if_pos w0] at h; exact h
  · rw [if_neg k0, if_neg k1, if_neg k2, rn_no, if_neg w0] at h; exact h
  · rw [if_pos k0, rn_sg0, if_neg n0, if_pos w0] at h; rw [ex, e31]; exact h
  · rw [if_neg k0, if_pos k1, rn_sg, if_neg n0, if_pos w0] at h
    obtain ⟨h1, h2, h3, h4, h5⟩ := hL k1
    rw [h1, h2]
    exact fr_rounded h3 h4 h5 (by rw [ex, e31, l_orc]; exact h)
  · rw [if_neg k0, if_neg k1, if_pos k2, rn_sg, if_neg n0, if_pos w0] at h
    exact fr_infinity (by rw [ex, e31, l_orc]; exact h)
  · rw [if_neg k0, if_neg k1, if_neg k2, rn_no, if_pos w0] at h; exact h
  · rw [if_pos k0, rn_sg0, if_neg n0, if_neg w0] at h; rw [ex, e63]; exact h
  · rw [if_neg k0, if_pos k1, rn_sg, if_neg n0, if_neg w0] at h
    obtain ⟨h1, h2, h3, h4, h5⟩ := hL k1
    rw [h1, h2]
    exact fr_rounded h3 h4 h5 (by rw [ex, e63, l_orc]; exact h)
  · rw [if_neg k0, if_neg k1, if_pos k2, rn_sg, if_neg n0, if_neg w0] at h
    exact fr_infinity (by rw [ex, e63, l_orc]; exact h)
  · rw [if_neg k0, if_neg k1, if_neg k2, rn_no, if_neg w0] at h; exact h
