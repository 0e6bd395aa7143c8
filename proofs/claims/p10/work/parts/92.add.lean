/-! ===== sums ===== -/
def adB (w s : Int32) (al : Bool) (H Lo d : Nat) (e : Int) : Int64 := if al = true then rn_sg s w (lN (rnX w (H * 2 ^ d + Lo) (e - d))) else if H * 2 ^ d = Lo then 0 else rn_sg s w (lN (rnX w (H * 2 ^ d - Lo) (e - d)))
/-- the larger and the smaller of two -/
def adH (H Lo d : Nat) : Prop := (2 ^ 61 ≤ H ∧ H < 2 ^ 62) ∧ (2 ^ 61 ≤ Lo ∧ Lo < 2 ^ 62) ∧ (∃ x, H = 512 * x) ∧ (∃ x, Lo = 512 * x) ∧ (d = 0 → Lo ≤ H)
theorem ad_plus {H Lo d : Nat} : (H * 2 ^ d + Lo) / 2 ^ d = H + Lo / 2 ^ d ∧ (H * 2 ^ d + Lo) % 2 ^ d = Lo % 2 ^ d := by
  constructor
  · rw [Nat.add_comm, Nat.add_mul_div_right _ _ (Nat.two_pow_pos _), Nat.add_comm]
  · rw [Nat.add_comm, Nat.add_mul_mod_self_right]
theorem ad_le {H Lo d : Nat} (h : adH H Lo d) : Lo ≤ H * 2 ^ d := by
  obtain ⟨h1, h2, -, -, h5⟩ := h
  rcases Nat.eq_zero_or_pos d with c | c
  · rw [c, Nat.pow_zero]; have := h5 c; omega
  · have : 2 ^ 1 ≤ 2 ^ d := Nat.pow_le_pow_right (by decide) c
    have : 2 ^ 61 * 2 ^ 1 ≤ H * 2 ^ d := Nat.mul_le_mul h1.1 this
    omega
theorem ad_minus {H Lo d : Nat} (h : Lo ≤ H * 2 ^ d) : (H * 2 ^ d - Lo) / 2 ^ d = H - Lo / 2 ^ d - (if Lo % 2 ^ d = 0 then 0 else 1) ∧ ((H * 2 ^ d - Lo) % 2 ^ d = 0 ↔ Lo % 2 ^ d = 0) ∧ Lo / 2 ^ d + (if Lo % 2 ^ d = 0 then 0 else 1) ≤ H := by
  have hp := Nat.two_pow_pos d
  have hdm := Nat.div_add_mod Lo (2 ^ d)
  have hm := Nat.mod_lt Lo hp
  have hf : Lo / 2 ^ d ≤ H := by
    rw [Nat.div_le_iff_le_mul_add_pred hp, Nat.mul_comm]; omega
  generalize Lo / 2 ^ d = f at *
  generalize Lo % 2 ^ d = s at *
  obtain ⟨g, rfl⟩ : ∃ g, H = f + g := ⟨H - f, by omega⟩
  rw [Nat.add_mul] at h ⊢
  rw [Nat.mul_comm f] at h ⊢
  by_cases c : s = 0
  · rw [if_pos c]
    have e : 2 ^ d * f + g * 2 ^ d - Lo = g * 2 ^ d := by omega
    rw [e, Nat.mul_div_cancel _ hp, Nat.mul_mod_left]
    omega
  · rw [if_neg c]
    have hg : 1 ≤ g := by
      rcases Nat.eq_zero_or_pos g with z | z
      · rw [z, Nat.zero_mul] at h; omega
      · exact z
    obtain ⟨g', rfl⟩ : ∃ g', g = g' + 1 := ⟨g - 1, by omega⟩
    have e : 2 ^ d * f + (g' + 1) * 2 ^ d - Lo = g' * 2 ^ d + (2 ^ d - s) := by rw [Nat.add_mul]; omega
    rw [e]
    have e1 : (g' * 2 ^ d + (2 ^ d - s)) / 2 ^ d = g' := by
      rw [Nat.add_comm, Nat.add_mul_div_right _ _ hp, Nat.div_eq_of_lt (by omega), Nat.zero_add]
    have e2 : (g' * 2 ^ d + (2 ^ d - s)) % 2 ^ d = 2 ^ d - s := by
      rw [Nat.add_comm, Nat.add_mul_mod_self_right, Nat.mod_eq_of_lt (by omega)]
    rw [e1, e2]
    omega
/-- where something is cut off, the two are far apart -/
theorem ad_far {H Lo d : Nat} (h : adH H Lo d) (hs : ¬ Lo % 2 ^ d = 0) : 10 ≤ d ∧ Lo / 2 ^ d ≤ 2 ^ 52 := by
  obtain ⟨h1, h2, -, ⟨x, hx⟩, -⟩ := h
  have hd : 10 ≤ d := by
    rcases Nat.lt_or_ge d 10 with c | c
    · exfalso
      apply hs
      rw [hx, show 512 = 2 ^ d * 2 ^ (9 - d) by rw [← Nat.pow_add, show d + (9 - d) = 9 by omega], Nat.mul_assoc]
      exact Nat.mul_mod_right _ _
    · exact c
  refine ⟨hd, ?_⟩
  have h3 : 2 ^ 10 ≤ 2 ^ d := Nat.pow_le_pow_right (by decide) hd
  calc Lo / 2 ^ d ≤ Lo / 2 ^ 10 := Nat.div_le_div_left h3 (by decide)
    _ ≤ 2 ^ 52 := by omega
theorem ad_df {H Lo d : Nat} (h : adH H Lo d) (hd : 1 ≤ d) : Lo / 2 ^ d < 2 ^ 61 := by
  obtain ⟨h1, h2, -⟩ := h
  have h3 : 2 ^ 1 ≤ 2 ^ d := Nat.pow_le_pow_right (by decide) hd
  calc Lo / 2 ^ d ≤ Lo / 2 ^ 1 := Nat.div_le_div_left h3 (by decide)
    _ < 2 ^ 61 := by omega
section TA
variable {ms : Int32} {dd bm rr kt : Nat → Int32} {l1 l2 : Int64}
/-- the reference's sum, from where the two are ordered -/
theorem md_ad {a0 : Int64} {w s m : Int32} {al : Bool} {H Lo d : Nat} {e : Int} {P : Int64 → Prop} (hH : adH H Lo d) (hd : d ≤ 5000) (he : -5000 ≤ e ∧ e ≤ 5000) (hm : m = 0 ↔ al = false) (h : P (adB w s al H Lo d e)) : wj_Md_sum_JZJ_287 ms a0 w dd l1 l2 bm rr kt P (lN H) (lN Lo) (iI e) (nI d) s m := by
  have hfar := ad_far hH
  have hdf := ad_df hH
  obtain ⟨m1, m2, m3⟩ := ad_minus (ad_le hH)
  obtain ⟨p1, p2⟩ := ad_plus (H := H) (Lo := Lo) (d := d)
  obtain ⟨h1, h2, -, -, h5⟩ := id hH
  have hdv := Nat.div_le_self Lo (2 ^ d)
  have hsv := Nat.mod_le Lo (2 ^ d)
  have hd0 : d = 0 → Lo / 2 ^ d = Lo ∧ Lo % 2 ^ d = 0 := by rintro rfl; simp [Nat.mod_one]
  have hbig : 62 < d → Lo / 2 ^ d = 0 ∧ Lo % 2 ^ d = Lo := by
    intro c
    have : 2 ^ 62 ≤ 2 ^ d := Nat.pow_le_pow_right (by decide) (by omega)
    exact ⟨Nat.div_eq_of_lt (by omega), Nat.mod_eq_of_lt (by omega)⟩
  have hshr : d ≤ 62 → zz_lshr (lN Lo) (nI d) = lN (Lo / 2 ^ d) := fun c => fq_shr (by omega) (by omega)
  have hmsk : d ≤ 62 → lN Lo &&& (zz_lshl 1 (nI d) - 1) = lN (Lo % 2 ^ d) := fun c => by rw [fq_m1 (by omega)]; exact fq_mask _ _
  have heq : H * 2 ^ d = Lo → H ≤ Lo / 2 ^ d + (if Lo % 2 ^ d = 0 then 0 else 1) := by
    intro q
    rw [q, Nat.sub_self, Nat.zero_div] at m1
    omega
  have heq2 : d = 0 → H = Lo → H * 2 ^ d = Lo := by rintro rfl q; rw [Nat.pow_zero, Nat.mul_one]; exact q
  unfold adB at h
  generalize Lo / 2 ^ d = f at *
  generalize Lo % 2 ^ d = sx at *
  generalize hXp : H * 2 ^ d + Lo = Xp at *
  generalize hXm : H * 2 ^ d - Lo = Xm at *
  generalize H * 2 ^ d = HD at *
  -- the end
  have t364 : ∀ (v : Nat) (mr : Int32), (mr = 0 ↔ sx = 0) → v < 2 ^ 63 → (al = true → v = H + f) → (al = false → v = H - f - (if sx = 0 then 0 else 1)) → wj_Md_sum_JZJ_364 ms a0 w dd l1 l2 bm rr kt P (iI e) s mr (lN v) := by
    intro v mr hmr hv ha hb
    unfold wj_Md_sum_JZJ_364
    have z0 : lN v = 0 ↔ v = 0 := by rw [fq_l0, fq_linj (by omega) (by decide)]
    have zn : (0 : Int64) ≤ lN v := by rw [fq_l0, pk_lLE (by decide) hv]; omega
    refine ⟨fun c => ?_, fun c => ⟨fun _ => ?_, fun q => absurd zn q⟩⟩
    · have c := z0.mp c
      cases al with
      | true => have := ha rfl; omega
      | false =>
        rw [if_neg (by decide)] at h
        have hb := hb rfl
        have hz : sx = 0 := by
          rcases Nat.eq_zero_or_pos sx with q | q
          · exact q
          · obtain ⟨f1, f2⟩ := hfar (by omega)
            rw [if_neg (by omega)] at hb
            omega
        rw [if_pos hz] at hb
        have : HD = Lo := by
          rcases Nat.eq_zero_or_pos d with q | q
          · have := h5 q
            have := hd0 q
            exact heq2 q (by omega)
          · have := hdf q
            omega
        rw [if_pos this] at h
        exact h
    · have c : 0 < v := by
        rcases Nat.eq_zero_or_pos v with q | q
        · exact absurd (z0.mpr q) c
        · exact q
      cases al with
      | true =>
        rw [if_pos rfl] at h
        refine md_fin (X := Xp) (j := d) ((ha rfl).trans p1.symm) (by rw [hmr, p2]) c hv (fun _ => by have := ha rfl; omega) (by omega) h
      | false =>
        rw [if_neg (by decide)] at h
        have hb := hb rfl
        rw [if_neg (fun q => by have := heq q; omega)] at h
        refine md_fin (X := Xm) (j := d) (hb.trans m1.symm) (by rw [hmr, m2]) c hv (fun q => ?_) (by omega) h
        rw [m2] at q
        obtain ⟨f1, f2⟩ := hfar q
        rw [if_neg q] at hb
        omega
  have t333 : ∀ (mr : Int32), (mr = 0 ↔ sx = 0) → wj_Md_sum_JZJ_333 ms a0 w dd l1 l2 bm rr kt P (lN H) (iI e) s m mr (lN (f)) := by
    intro mr hmr
    unfold wj_Md_sum_JZJ_333 wj_Md_sum_JZJ_363
    have hsub : ∀ x : Nat, x ≤ 1 → (x = if sx = 0 then 0 else 1) → lN H - lN (f) - lN x = lN (H - f - x) := by
      intro x hx1 hx
      rw [lN_sub (by omega), lN_sub (by omega)]
    refine ⟨fun c => ⟨fun q => ?_, fun q => ?_⟩, fun c => ?_⟩
    · have q1 := hmr.mp q
      rw [fq_l0, hsub 0 (by decide) (by rw [if_pos q1])]
      refine t364 _ mr hmr (by omega) (fun z => ?_) (fun _ => by rw [if_pos q1])
      rw [hm] at c; rw [c] at z; cases z
    · have q1 : ¬ sx = 0 := fun z => q (hmr.mpr z)
      rw [fq_l1, hsub 1 (by decide) (by rw [if_neg q1])]
      refine t364 _ mr hmr (by omega) (fun z => ?_) (fun _ => by rw [if_neg q1])
      rw [hm] at c; rw [c] at z; cases z
    · rw [lN_add]
      refine t364 _ mr hmr (by omega) (fun _ => rfl) (fun z => ?_)
      exact absurd (hm.mpr z) c
  have hd62 : nI d ≤ 62 ↔ d ≤ 62 := nI_leI (b := 62) (by omega) (by decide)
  have hd62' : (62 : Int32) < nI d ↔ 62 < d := nI_ltI (a := 62) (by decide) (by omega)
  have t315 : ∀ (mr : Int32), (mr = 0 ↔ sx = 0) → wj_Md_sum_JZJ_315 ms a0 w dd l1 l2 bm rr kt P (lN H) (lN Lo) (iI e) (nI d) s m mr := by
    intro mr hmr
    unfold wj_Md_sum_JZJ_315
    refine ⟨fun c => ?_, fun c => ?_⟩
    · rw [hshr (hd62.mp c)]
      exact t333 mr hmr
    · have c : ¬ d ≤ 62 := fun q => c (hd62.mpr q)
      have t := t333 mr hmr
      rw [(hbig (by omega)).1] at t
      exact t
  unfold wj_Md_sum_JZJ_287 wj_Md_sum_JZJ_310
  refine ⟨fun c => t315 1 ⟨fun q => absurd q (by decide), fun q => ?_⟩, fun c x ex y ey => ?_⟩
  · have := (hbig (hd62'.mp c)).2
    omega
  · have c : ¬ 62 < d := fun q => c (hd62'.mpr q)
    have ey : y = lN sx := by rw [ey, ex]; exact hmsk (by omega)
    have hy : y = 0 ↔ sx = 0 := by rw [ey, fq_l0, fq_linj (by omega) (by decide)]
    exact ⟨fun q => t315 0 ⟨fun _ => hy.mp q, fun _ => rfl⟩, fun q => t315 1 ⟨fun z => absurd z (by decide), fun z => absurd (hy.mpr z) q⟩⟩
end TA
/-- the class cuts places off -/
theorem fr_cut {a d : Nat} {P : Int64 → Prop} (h0 : 0 < a) (ha : a < 2 ^ 62) (hd : d ≤ 5000) (h : P (lN (rx_jam (a / 2 ^ d) (decide (¬ a % 2 ^ d = 0))))) : wp_Fr_cut (lN a) (nI d) P := by
  have z0 : nI d = 0 ↔ d = 0 := nI_eq (b := 0) (by omega) (by decide)
  have z62 : nI d ≤ 62 ↔ d ≤ 62 := nI_leI (b := 62) (by omega) (by decide)
  unfold wp_Fr_cut
  refine ⟨fun c => ?_, fun c => ⟨fun c2 x ex => ?_, fun c2 => ?_⟩⟩
  · have c := z0.mp c
    subst c
    rw [Nat.pow_zero, Nat.div_one, Nat.mod_one, (rx_jam2 _ _).2.2 (by simp)] at h
    exact h
  · have c : ¬ d = 0 := fun q => c (z0.mpr q)
    have c2 := z62.mp c2
    have hx : x = 0 ↔ a % 2 ^ d = 0 := by
      rw [ex, show (64 : Int32) = nI 64 from rfl, pk_sub (by omega), fq_shl _ (by omega), lN_mod, fq_l0, fq_linj (Nat.mod_lt _ (by decide)) (by decide)]
      rw [show (2 : Nat) ^ 64 = 2 ^ d * 2 ^ (64 - d) by rw [← Nat.pow_add]; congr 1; omega, Nat.mul_mod_mul_right, Nat.mul_eq_zero]
      have := Nat.two_pow_pos (64 - d)
      omega
    rw [fq_ushr (by omega) (by omega)]
    refine ⟨fun q y ey => ?_, fun q y ey => ?_⟩
    · rw [ey, show (0 : Int32).toInt64 = 0 from rfl, fq_or0]
      rw [(rx_jam2 _ _).2.2 (by simp [hx.mp q])] at h
      exact h
    · rw [ey, show (1 : Int32).toInt64 = lN 1 from rfl, fq_or]
      have q1 : ¬ a % 2 ^ d = 0 := fun z => q (hx.mpr z)
      rw [rx_jam_or] at h
      simp [q1] at h
      exact h
  · have c2 : ¬ d ≤ 62 := fun q => c2 (z62.mpr q)
    have : 2 ^ 62 ≤ 2 ^ d := Nat.pow_le_pow_right (by decide) (by omega)
    rw [Nat.div_eq_of_lt (by omega), Nat.mod_eq_of_lt (by omega)] at h
    have : rx_jam 0 (decide (¬ a = 0)) = 1 := by unfold rx_jam; rw [if_pos (by simp; omega)]
    rw [this] at h
    exact h
/-- a sum with a sign -/
theorem ad_fin {k x e : Int32} {m : Int64} {s : Int64} {z : Int} {P : Fr4 → Prop} (hs : s.toInt = z) (hz : z ≠ -9223372036854775808) (h1 : 0 < z → wp_Fr_become (0, k, x, m) (lN z.natAbs) e P) (h0 : z = 0 → wp_Fr_become (0, k, x, m) 0 e P) (h2 : z < 0 → wp_Fr_become (1, k, x, m) (lN z.natAbs) e P) :
    (((0 : Int64) ≤ s → ∀ y : Int64, y = (if 0 < s then s else -s) → wp_Fr_become (0, k, x, m) y e P) ∧ (¬ (0 : Int64) ≤ s → ∀ y : Int64, y = (if 0 < s then s else -s) → wp_Fr_become (1, k, x, m) y e P)) := by
  have q1 : (0 : Int64) ≤ s ↔ 0 ≤ z := by rw [Int64.le_iff_toInt_le, hs]; rfl
  have q2 : (0 : Int64) < s ↔ 0 < z := by rw [Int64.lt_iff_toInt_lt, hs]; rfl
  have hb1 := Int64.toInt_lt s
  have hb2 := Int64.le_toInt s
  rw [hs] at hb1 hb2
  have ea : ∀ y : Int64, y = (if 0 < s then s else -s) → y = lN z.natAbs := by
    intro y ey
    have t : (lN z.natAbs).toInt = (z.natAbs : Int) := pk_lT (by omega)
    apply Int64.toInt_inj.mp
    rw [t, ey]
    by_cases c : 0 < z
    · rw [if_pos (q2.mpr c), hs]; omega
    · rw [if_neg (fun w => c (q2.mp w)), Int64.toInt_neg, hs, Int.bmod_eq_of_le (by omega) (by omega)]; omega
  refine ⟨fun c y ey => ?_, fun c y ey => ?_⟩
  · have c := q1.mp c
    rw [ea y ey]
    rcases Int.lt_or_le 0 z with d | d
    · exact h1 d
    · have d0 : z = 0 := by omega
      have := h0 d0
      rw [d0]; exact this
  · have c : z < 0 := by
      rcases Int.lt_or_le z 0 with d | d
      · exact d
      · exact absurd (q1.mpr d) c
    rw [ea y ey]
    exact h2 c
theorem lN_neg {n : Nat} (h : n < 2 ^ 63) : (-lN n).toInt = -(n : Int) := by
  rw [Int64.toInt_neg, pk_lT h, Int.bmod_eq_of_le (by omega) (by omega)]
theorem l_addT {a b : Int64} {x y : Int} (ha : a.toInt = x) (hb : b.toInt = y) (h1 : -9223372036854775808 ≤ x + y) (h2 : x + y < 9223372036854775808) : (a + b).toInt = x + y := by
  rw [Int64.toInt_add, ha, hb, Int.bmod_eq_of_le (by omega) (by omega)]
/-- a number with its sign -/
def sgz (n : Int32) (u : Nat) : Int := if n = 0 then (u : Int) else -(u : Int)
/-- the jammed sum and difference -/
theorem jam_add {a f : Nat} {s : Bool} (ha : a % 2 = 0) : rx_jam (a + f) s = a + rx_jam f s := by
  unfold rx_jam
  cases s
  · simp
  · simp only [if_true]; omega
theorem jam_sub {a f : Nat} {s : Bool} (ha : a % 2 = 0) (h : f + (if s = true then 1 else 0) ≤ a) : rx_jam (a - f - (if s = true then 1 else 0)) s = a - rx_jam f s ∧ rx_jam f s ≤ a := by
  unfold rx_jam
  cases s
  · simp; simpa using h
  · simp only [if_true] at h ⊢; omega
/-- the larger and the smaller, with their signs: what is left packs to the reference's bits -/
theorem fr_adz {w nH nL k x : Int32} {m : Int64} {H Lo d : Nat} {e : Int} {P : Fr4 → Prop} (hH : adH H Lo d) (hnH : zz_bz nH) (hnL : zz_bz nL) (hd : d ≤ 5000) (he : -5000 ≤ e ∧ e ≤ 5000) (h : ∀ L', frv w (adB w nH (decide (nH = nL)) H Lo d e) L' → P L') :
    ∀ z : Int, z = sgz nH H + sgz nL (rx_jam (Lo / 2 ^ d) (decide (¬ Lo % 2 ^ d = 0))) →
      (0 < z → wp_Fr_become (0, k, x, m) (lN z.natAbs) (iI (e + 62)) P) ∧ (z = 0 → wp_Fr_become (0, k, x, m) 0 (iI (e + 62)) P) ∧ (z < 0 → wp_Fr_become (1, k, x, m) (lN z.natAbs) (iI (e + 62)) P) ∧ -9223372036854775808 < z ∧ z < 9223372036854775808 ∧ rx_jam (Lo / 2 ^ d) (decide (¬ Lo % 2 ^ d = 0)) < 2 ^ 62 := by
  have hfar := ad_far hH
  have hdf := ad_df hH
  obtain ⟨m1, m2, m3⟩ := ad_minus (ad_le hH)
  obtain ⟨p1, p2⟩ := ad_plus (H := H) (Lo := Lo) (d := d)
  obtain ⟨h1, h2, ⟨xH, hxH⟩, ⟨xL, hxL⟩, h5⟩ := id hH
  have hdv := Nat.div_le_self Lo (2 ^ d)
  have hd0 : d = 0 → Lo / 2 ^ d = Lo ∧ Lo % 2 ^ d = 0 := by rintro rfl; simp [Nat.mod_one]
  have heq : H * 2 ^ d = Lo → H ≤ Lo / 2 ^ d + (if Lo % 2 ^ d = 0 then 0 else 1) := by
    intro q
    rw [q, Nat.sub_self, Nat.zero_div] at m1
    omega
  have heq2 : d = 0 → H = Lo → H * 2 ^ d = Lo := by rintro rfl q; rw [Nat.pow_zero, Nat.mul_one]; exact q
  unfold adB at h
  have hj := rx_jam2 (Lo / 2 ^ d) (decide (¬ Lo % 2 ^ d = 0))
  have hjp := jam_add (a := H) (f := Lo / 2 ^ d) (s := decide (¬ Lo % 2 ^ d = 0)) (by omega)
  have hif : (if decide (¬ Lo % 2 ^ d = 0) = true then 1 else 0) = (if Lo % 2 ^ d = 0 then 0 else 1) := by
    by_cases q : Lo % 2 ^ d = 0 <;> simp [q]
  have hjs := jam_sub (a := H) (f := Lo / 2 ^ d) (s := decide (¬ Lo % 2 ^ d = 0)) (by omega) (by rw [hif]; exact m3)
  rw [hif] at hjs
  -- a number: rounded
  have num : ∀ (X v : Nat) (n : Int32), v = rx_jam (X / 2 ^ d) (decide (¬ X % 2 ^ d = 0)) → 0 < v → v < 2 ^ 63 → (¬ X % 2 ^ d = 0 → 2 ^ 54 ≤ X / 2 ^ d) → (∀ L', frv w (rn_sg n w (lN (rnX w X (e - d)))) L' → P L') → wp_Fr_become (n, k, x, m) (lN v) (iI (e + 62)) P := by
    intro X v n hv v0 v1 v2 hP
    refine fr_fin (w := w) (X := X) (j := d) hv v0 v1 v2 (by omega) ?_
    rw [show e + 62 - 62 - (d : Int) = e - d by omega]
    exact hP
  generalize hF : Lo / 2 ^ d = f at *
  generalize hS : Lo % 2 ^ d = sx at *
  generalize hJ : rx_jam f (decide (¬ sx = 0)) = jm at *
  have hjb : jm ≤ f + 1 := by
    rw [← hJ]; unfold rx_jam; split <;> omega
  have hjb2 : jm < 2 ^ 62 := by omega
  have numP : nH = nL → wp_Fr_become (nH, k, x, m) (lN (H + jm)) (iI (e + 62)) P := by
    intro q
    rw [if_pos (by simp [q])] at h
    refine num _ _ nH ?_ (by omega) (by omega) (fun _ => by rw [p1]; omega) h
    rw [p1, p2, hjp]
  have numM : ¬ nH = nL → 0 < H - jm → wp_Fr_become (nH, k, x, m) (lN (H - jm)) (iI (e + 62)) P := by
    intro q hpos
    rw [if_neg (by simp [q])] at h
    have hne : ¬ H * 2 ^ d = Lo := by
      intro c
      have c1 := heq c
      by_cases q0 : sx = 0
      · rw [if_pos q0] at c1
        have := hj.2.2 (by simp [q0])
        omega
      · obtain ⟨f1, f2⟩ := hfar q0
        rw [if_neg q0] at c1
        omega
    rw [if_neg hne] at h
    refine num _ _ nH ?_ hpos (by omega) (fun q0 => ?_) h
    · rw [m1, show decide (¬ (H * 2 ^ d - Lo) % 2 ^ d = 0) = decide (¬ sx = 0) by simp [m2], hjs.1]
    · rw [m2] at q0
      obtain ⟨f1, f2⟩ := hfar q0
      rw [m1, if_neg q0]
      omega
  have zeroM : ¬ nH = nL → H = jm → wp_Fr_become (0, k, x, m) 0 (iI (e + 62)) P := by
    intro q hz
    rw [if_neg (by simp [q])] at h
    have he0 : H * 2 ^ d = Lo := by
      have q0 : sx = 0 := by
        rcases Nat.eq_zero_or_pos sx with c | c
        · exact c
        · obtain ⟨f1, f2⟩ := hfar (by omega)
          omega
      have := hj.2.2 (by simp [q0])
      rcases Nat.eq_zero_or_pos d with c | c
      · exact heq2 c (by have := hd0 c; omega)
      · have := hdf c
        omega
    rw [if_pos he0] at h
    exact fr_bzero (fun y => h _ (by have := frv_0 (w := w) (n := 0) (x := y) (m := 0); rw [rn_sg0, if_pos rfl] at this; exact this))
  intro z hz
  have hjle := hjs.2
  have nb : ∀ n : Int32, zz_bz n → n = 0 ∨ n = 1 := fun n q => q
  unfold sgz at hz
  rcases hnH with a | a <;> rcases hnL with b | b <;> rw [a, b] at numP numM zeroM hz
  · rw [if_pos rfl, if_pos rfl] at hz
    refine ⟨fun _ => ?_, fun c => by omega, fun c => by omega, by omega, by omega, hjb2⟩
    rw [show z.natAbs = H + jm by omega]; exact numP rfl
  · rw [if_pos rfl, if_neg (by decide)] at hz
    refine ⟨fun c => ?_, fun c => zeroM (by decide) (by omega), fun c => by omega, by omega, by omega, hjb2⟩
    rw [show z.natAbs = H - jm by omega]; exact numM (by decide) (by omega)
  · rw [if_neg (by decide), if_pos rfl] at hz
    refine ⟨fun c => by omega, fun c => zeroM (by decide) (by omega), fun c => ?_, by omega, by omega, hjb2⟩
    rw [show z.natAbs = H - jm by omega]; exact numM (by decide) (by omega)
  · rw [if_neg (by decide), if_neg (by decide)] at hz
    refine ⟨fun c => by omega, fun c => by omega, fun c => ?_, by omega, by omega, hjb2⟩
    rw [show z.natAbs = H + jm by omega]; exact numP rfl
def adF (w na : Int32) (A : Nat) (p : Int) (nb : Int32) (B : Nat) (q : Int) : Int64 := if p < q ∨ (p = q ∧ A < B) then adB w nb (decide (nb = na)) (512 * B) (512 * A) (q - p).toNat (q - 9) else adB w na (decide (na = nb)) (512 * A) (512 * B) (p - q).toNat (p - 9)
theorem adH_i {A B d : Nat} (hA : 2 ^ 52 ≤ A ∧ A < 2 ^ 53) (hB : 2 ^ 52 ≤ B ∧ B < 2 ^ 53) (h : d = 0 → B ≤ A) : adH (512 * A) (512 * B) d := ⟨⟨by omega, by omega⟩, ⟨by omega, by omega⟩, ⟨A, rfl⟩, ⟨B, rfl⟩, fun q => by have := h q; omega⟩
theorem jam_d0 (a : Nat) : rx_jam (a / 2 ^ 0) (decide (¬ a % 2 ^ 0 = 0)) = a := by
  rw [Nat.pow_zero, Nat.div_one, Nat.mod_one]; exact (rx_jam2 _ _).2.2 (by simp)
theorem fr_addF0 {w na nb k k2 : Int32} {A B M N : Nat} (hMd : M = 1024 * A) (hNd : N = 1024 * B) {p q : Int} {P : Fr4 × Fr4 → Prop} (hA : 2 ^ 52 ≤ A ∧ A < 2 ^ 53) (hB : 2 ^ 52 ≤ B ∧ B < 2 ^ 53) (hp : -1200 ≤ p ∧ p ≤ 1100) (hq : -1200 ≤ q ∧ q ≤ 1100) (hna : zz_bz na) (hnb : zz_bz nb)
    (h : ∀ L', frv w (adF w na A p nb B q) L' → P (L', (nb, k2, iI (q + 52), lN N))) : wp_Fr_addFinite (na, k, iI (p + 52), lN M) (nb, k2, iI (q + 52), lN N) P := by
  unfold wp_Fr_addFinite
  dsimp only
  intro t et x2 e2
  have et : t = iI (max p q + 52) := by
    have : iI (p + 52) < iI (q + 52) ↔ p + 52 < q + 52 := fq_lt ⟨by omega, by omega⟩ ⟨by omega, by omega⟩
    rw [et]
    by_cases c : p < q
    · rw [if_pos (this.mpr (by omega))]; congr 1; omega
    · rw [if_neg (fun z => c (by have := this.mp z; omega))]; congr 1; omega
  have e2 : x2 = lN (512 * A) := by
    rw [e2, show (1 : Int32) = nI 1 from rfl, fq_ushr (by omega) (by decide)]; congr 1; omega
  have da : t - iI (p + 52) = nI (max p q - p).toNat := by rw [et, fq_sub, fq_n]; congr 1; omega
  have db : t - iI (q + 52) = nI (max p q - q).toNat := by rw [et, fq_sub, fq_n]; congr 1; omega
  have e1 : t + 1 = iI (max p q + 53) := by rw [et, show (1 : Int32) = iI 1 from rfl, fq_add]; congr 1; omega
  rw [e2, da, db, e1]
  refine fr_cut (by omega) (by omega) (by omega) ?_
  intro x4 e4
  have e4 : x4 = lN (512 * B) := by
    rw [e4, show (1 : Int32) = nI 1 from rfl, fq_ushr (by omega) (by decide)]; congr 1; omega
  rw [e4]
  refine fr_cut (by omega) (by omega) (by omega) ?_
  generalize hu : rx_jam (512 * A / 2 ^ (max p q - p).toNat) (decide (¬ 512 * A % 2 ^ (max p q - p).toNat = 0)) = u
  generalize hv : rx_jam (512 * B / 2 ^ (max p q - q).toNat) (decide (¬ 512 * B % 2 ^ (max p q - q).toNat = 0)) = v
  have key : ∀ z : Int, z = sgz na u + sgz nb v →
      (0 < z → wp_Fr_become (0, k, iI (p + 52), lN M) (lN z.natAbs) (iI (max p q + 53)) (fun u => P (u, (nb, k2, iI (q + 52), lN N)))) ∧ (z = 0 → wp_Fr_become (0, k, iI (p + 52), lN M) 0 (iI (max p q + 53)) (fun u => P (u, (nb, k2, iI (q + 52), lN N)))) ∧ (z < 0 → wp_Fr_become (1, k, iI (p + 52), lN M) (lN z.natAbs) (iI (max p q + 53)) (fun u => P (u, (nb, k2, iI (q + 52), lN N)))) ∧ -9223372036854775808 < z ∧ z < 9223372036854775808 ∧ u < 2 ^ 62 ∧ v < 2 ^ 62 := by
    intro z hz
    unfold adF at h
    by_cases c : p < q ∨ (p = q ∧ A < B)
    · rw [if_pos c] at h
      rw [show (max p q - q).toNat = 0 by omega, jam_d0] at hv
      rw [show (max p q - p).toNat = (q - p).toNat by omega] at hu
      have t := fr_adz (k := k) (x := iI (p + 52)) (m := lN M) (P := fun u => P (u, (nb, k2, iI (q + 52), lN N))) (adH_i (d := (q - p).toNat) hB hA (fun _ => by omega)) hnb hna (by omega) (by omega) h z (by rw [hz, hu, ← hv, Int.add_comm])
      rw [show q - 9 + 62 = max p q + 53 by omega, hu] at t
      exact ⟨t.1, t.2.1, t.2.2.1, t.2.2.2.1, t.2.2.2.2.1, t.2.2.2.2.2, by omega⟩
    · rw [if_neg c] at h
      rw [show (max p q - p).toNat = 0 by omega, jam_d0] at hu
      rw [show (max p q - q).toNat = (p - q).toNat by omega] at hv
      have t := fr_adz (k := k) (x := iI (p + 52)) (m := lN M) (P := fun u => P (u, (nb, k2, iI (q + 52), lN N))) (adH_i (d := (p - q).toNat) hA hB (fun _ => by omega)) hna hnb (by omega) (by omega) h z (by rw [hz, hv, ← hu])
      rw [show p - 9 + 62 = max p q + 53 by omega, hv] at t
      exact ⟨t.1, t.2.1, t.2.2.1, t.2.2.2.1, t.2.2.2.2.1, by omega, t.2.2.2.2.2⟩
  obtain ⟨-, -, -, -, -, hub, hvb⟩ := key _ rfl
  have fin : ∀ s : Int64, s.toInt = sgz na u + sgz nb v → (((0 : Int64) ≤ s → ∀ y : Int64, y = (if 0 < s then s else -s) → wp_Fr_become (0, k, iI (p + 52), lN M) y (iI (max p q + 53)) (fun u => P (u, (nb, k2, iI (q + 52), lN N)))) ∧ (¬ (0 : Int64) ≤ s → ∀ y : Int64, y = (if 0 < s then s else -s) → wp_Fr_become (1, k, iI (p + 52), lN M) y (iI (max p q + 53)) (fun u => P (u, (nb, k2, iI (q + 52), lN N))))) := by
    intro s hs
    obtain ⟨k1, k2, k3, k4, k5, -⟩ := key _ rfl
    exact ad_fin hs (by omega) k1 k2 k3
  have tu : (lN u).toInt = u := pk_lT (by omega)
  have tv : (lN v).toInt = v := pk_lT (by omega)
  have tu' : (-lN u).toInt = -(u : Int) := lN_neg (by omega)
  have tv' : (-lN v).toInt = -(v : Int) := lN_neg (by omega)
  refine ⟨fun a => ⟨fun b s es => ?_, fun b s es => ?_⟩, fun a => ⟨fun b s es => ?_, fun b s es => ?_⟩⟩
  · exact fin s (by rw [es, l_addT tu tv (by omega) (by omega), sgz, sgz, if_pos a, if_pos b])
  · exact fin s (by rw [es, l_addT tu tv' (by omega) (by omega), sgz, sgz, if_pos a, if_neg b])
  · exact fin s (by rw [es, l_addT tu' tv (by omega) (by omega), sgz, sgz, if_neg a, if_pos b])
  · exact fin s (by rw [es, l_addT tu' tv' (by omega) (by omega), sgz, sgz, if_neg a, if_neg b])
section TA2
variable {ms : Int32} {dd bm rr kt : Nat → Int32}
/-- the reference's sum of two numbers -/
theorem md_adF {a0 : Int64} {w : Int32} {A B : Nat} {p q : Int} {P : Int64 → Prop} (hA : 2 ^ 52 ≤ A ∧ A < 2 ^ 53) (hB : 2 ^ 52 ≤ B ∧ B < 2 ^ 53) (hp : -1200 ≤ p ∧ p ≤ 1100) (hq : -1200 ≤ q ∧ q ≤ 1100) (h15 : dd 15 = iI p) (h17 : dd 17 = iI q)
    (h : P (adF w (dd 18) A p (dd 19) B q)) (c14 : ¬ dd 14 = 0) (c16 : ¬ dd 16 = 0) : wj_Md_sum_JZJ_99 ms a0 w dd (lN A) (lN B) bm rr kt P := by
  have e9 : ∀ z : Nat, zz_lshl (lN z) 9 = lN (512 * z) := fun z => by rw [show (9 : Int32) = nI 9 from rfl, fq_shl _ (by decide), Nat.mul_comm]
  unfold adF at h
  have t0 : ¬ (p < q ∨ (p = q ∧ A < B)) → wj_Md_sum_JZJ_159 ms a0 w dd (lN A) (lN B) bm rr kt P := by
    intro c
    rw [if_neg c] at h
    unfold wj_Md_sum_JZJ_159 wj_Md_sum_JZJ_160
    refine ⟨fun _ => ?_, fun q => absurd rfl q⟩
    unfold wj_Md_sum_JZJ_178
    refine fun x ex => ⟨fun _ => ?_, fun q => absurd rfl q⟩
    unfold wj_Md_sum_JZJ_199
    refine fun y ey => ⟨fun _ => ?_, fun q => absurd rfl q⟩
    unfold wj_Md_sum_JZJ_220
    refine fun z ez => ⟨fun _ => ?_, fun q => absurd rfl q⟩
    unfold wj_Md_sum_JZJ_251
    refine ⟨fun _ => ?_, fun q => absurd rfl q⟩
    rw [ex, ey, ez, e9, e9, h15, h17, fq_sub, show (9 : Int32) = iI 9 from rfl, fq_sub, show p - q = ((p - q).toNat : Int) by omega, fq_i]
    unfold wj_Md_sum_JZJ_269
    refine ⟨fun c1 => ?_, fun c1 => ?_⟩
    · rw [show decide (dd 18 = dd 19) = true by simp [c1]] at h
      exact md_ad (adH_i hA hB (fun _ => by omega)) (by omega) (by omega) (by decide) h
    · rw [show decide (dd 18 = dd 19) = false by simp [c1]] at h
      exact md_ad (adH_i hA hB (fun _ => by omega)) (by omega) (by omega) (by decide) h
  have t1 : (p < q ∨ (p = q ∧ A < B)) → wj_Md_sum_JZJ_155 ms a0 w dd (lN A) (lN B) bm rr kt P := by
    intro c
    rw [if_pos c] at h
    unfold wj_Md_sum_JZJ_155 wj_Md_sum_JZJ_160
    refine ⟨fun q => absurd q (by decide), fun _ => ?_⟩
    unfold wj_Md_sum_JZJ_178
    refine fun x ex => ⟨fun q => absurd q (by decide), fun _ => ?_⟩
    unfold wj_Md_sum_JZJ_199
    refine fun y ey => ⟨fun q => absurd q (by decide), fun _ => ?_⟩
    unfold wj_Md_sum_JZJ_220
    refine fun z ez => ⟨fun q => absurd q (by decide), fun _ => ?_⟩
    unfold wj_Md_sum_JZJ_251
    refine ⟨fun q => absurd q (by decide), fun _ => ?_⟩
    rw [ex, ey, ez, e9, e9, h15, h17, fq_sub, show (9 : Int32) = iI 9 from rfl, fq_sub, show q - p = ((q - p).toNat : Int) by omega, fq_i]
    unfold wj_Md_sum_JZJ_269
    refine ⟨fun c1 => ?_, fun c1 => ?_⟩
    · rw [show decide (dd 19 = dd 18) = true by simp [c1]] at h
      exact md_ad (adH_i hB hA (fun _ => by omega)) (by omega) (by omega) (by decide) h
    · rw [show decide (dd 19 = dd 18) = false by simp; exact fun q => c1 q.symm] at h
      exact md_ad (adH_i hB hA (fun _ => by omega)) (by omega) (by omega) (by decide) h
  unfold wj_Md_sum_JZJ_99
  rw [h15, h17]
  have l1 : iI p < iI q ↔ p < q := fq_lt ⟨by omega, by omega⟩ ⟨by omega, by omega⟩
  have l2 : iI p = iI q ↔ p = q := fq_eq ⟨by omega, by omega⟩ ⟨by omega, by omega⟩
  have l3 : lN B ≤ lN A ↔ B ≤ A := pk_lLE (by omega) (by omega)
  refine ⟨fun q => absurd q c16, fun _ => ⟨fun q => absurd q c14, fun _ => ⟨fun c => t1 (Or.inl (l1.mp c)), fun c => ⟨fun d => ⟨fun f => t0 ?_, fun f => t1 (Or.inr ⟨l2.mp d, ?_⟩)⟩, fun d => t0 ?_⟩⟩⟩⟩
  · have := l2.mp d
    have := l3.mp f
    omega
  · have : ¬ B ≤ A := fun q => f (l3.mpr q)
    omega
  · have h1 : ¬ p < q := fun q => c (l1.mpr q)
    have h2 : ¬ p = q := fun q => d (l2.mpr q)
    omega
end TA2
