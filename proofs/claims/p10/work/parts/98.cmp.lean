/-! ===== words to fractions; comparisons ===== -/
def fwB (w v : Int32) : Int64 := if v = 0 then 0 else rn_sg (if v < 0 then 1 else 0) w (lN (rnX w v.toInt.natAbs 0))
theorem i_abs (v : Int32) : v.toInt.natAbs < 2 ^ 32 ∧ (v = 0 ↔ v.toInt.natAbs = 0) ∧ (0 ≤ v ↔ 0 ≤ v.toInt) ∧ (v < 0 ↔ v.toInt < 0) := by
  have h1 := Int32.toInt_lt v
  have h2 := Int32.le_toInt v
  refine ⟨by omega, ?_, ?_, ?_⟩
  · rw [← Int32.toInt_inj]; rw [show (0 : Int32).toInt = 0 from rfl]; omega
  · rw [Int32.le_iff_toInt_le]; rfl
  · rw [Int32.lt_iff_toInt_lt]; rfl
theorem l_of_i (v : Int32) : v.toInt64.toInt = v.toInt := Int32.toInt_toInt64 v
theorem l_absE {v : Int32} {x : Int64} (hx : x = (if 0 < v.toInt64 then v.toInt64 else -v.toInt64)) : x = lN v.toInt.natAbs := by
  have h1 := Int32.toInt_lt v
  have h2 := Int32.le_toInt v
  apply Int64.toInt_inj.mp
  rw [pk_lT (by omega), hx]
  have q : (0 : Int64) < v.toInt64 ↔ 0 < v.toInt := by rw [Int64.lt_iff_toInt_lt, l_of_i]; rfl
  by_cases c : 0 < v.toInt
  · rw [if_pos (q.mpr c), l_of_i]; omega
  · rw [if_neg (fun z => c (q.mp z)), Int64.toInt_neg, l_of_i, Int.bmod_eq_of_le (by omega) (by omega)]; omega
theorem fr_fromWord {w v : Int32} {L : Fr4} {P : Fr4 → Prop} (h : ∀ L', frv w (fwB w v) L' → P L') : wp_Fr_fromWord L v P := by
  obtain ⟨n1, k1, x1, m1⟩ := L
  obtain ⟨a1, a2, a3, a4⟩ := i_abs v
  unfold fwB at h
  unfold wp_Fr_fromWord
  have go : ∀ n : Int32, n = (if v < 0 then 1 else 0) → wp_Fr_become (n, k1, x1, m1) (lN v.toInt.natAbs) 62 P := by
    intro n hn
    by_cases c : v = 0
    · rw [if_pos c] at h
      rw [a2.mp c]
      refine fr_bzero (fun y => h _ ?_)
      have n0 : n = 0 := by rw [hn, if_neg (by rw [c]; decide)]
      have := frv_0 (w := w) (n := n) (x := y) (m := 0)
      rw [rn_sg0, if_pos n0] at this
      exact this
    · rw [if_neg c, ← hn] at h
      have : ¬ v.toInt.natAbs = 0 := fun q => c (a2.mpr q)
      refine fr_fin (w := w) (X := v.toInt.natAbs) (j := 0) (e := 62) (by rw [jam_d0]) (by omega) (by omega) (fun q => absurd (by rw [Nat.pow_zero, Nat.mod_one]) q) (by omega) ?_
      rw [show (62 : Int) - 62 - ((0 : Nat) : Int) = 0 by decide]
      exact h
  dsimp only
  refine ⟨fun c x ex => ?_, fun c x ex => ?_⟩
  · rw [l_absE ex]; exact go 0 (by rw [if_neg (by rw [a4]; have := a3.mp c; omega)])
  · rw [l_absE ex]; exact go 1 (by rw [if_pos (a4.mpr (Int.lt_of_not_ge (fun q => c (a3.mpr q))))])
/-- a larger number has larger bits -/
theorem fm_mono {w : Int32} {a b : Nat} (ha : fk w a = 1) (hb : fk w b = 1) : (fm w a < fm w b → fp w a < fp w b ∨ (fp w a = fp w b ∧ fA w a < fA w b)) ∧ (fm w a = fm w b → fp w a = fp w b ∧ fA w a = fA w b) := by
  have a0 := fk_1 ha
  have b0 := fk_1 hb
  have la := fX_log a0
  have lb := fX_log b0
  have d := rn_dl w
  have fa : ff w a < 2 ^ dg w := Nat.mod_lt _ (Nat.two_pow_pos _)
  have fbl : ff w b < 2 ^ dg w := Nat.mod_lt _ (Nat.two_pow_pos _)
  have hp := Nat.two_pow_pos (dg w)
  have lg : ∀ c : Nat, fX w c ≠ 0 → (fb w c ≠ 0 → (fX w c).log2 = dg w) ∧ (fb w c = 0 → (fX w c).log2 < dg w) := by
    intro c c0
    have hl := fX_log c0
    constructor
    · intro q
      have h1 : 2 ^ dg w ≤ fX w c := by unfold fX; rw [if_neg q]; omega
      have := (Nat.le_log2 c0).mpr h1
      omega
    · intro q
      rw [Nat.log2_lt c0]
      unfold fX
      rw [if_pos q]
      exact Nat.mod_lt _ hp
  have ga := lg a a0
  have gb := lg b b0
  constructor
  · intro h
    unfold fm at h
    rcases Nat.lt_trichotomy (fb w a) (fb w b) with c | c | c
    · left
      have gb1 := gb.1 (by omega)
      unfold fp fE
      by_cases z : fb w a = 0
      · have := ga.2 z
        omega
      · have := ga.1 z
        omega
    · have hf : ff w a < ff w b := by rw [c] at h; omega
      have hX : fX w a < fX w b := by unfold fX; rw [c]; split <;> omega
      have hE : fE w a = fE w b := by unfold fE; rw [c]
      have hl : (fX w a).log2 ≤ (fX w b).log2 := by
        have h1 := Nat.log2_self_le a0
        exact (Nat.le_log2 b0).mpr (by omega)
      rcases Nat.lt_or_ge (fX w a).log2 (fX w b).log2 with z | z
      · left; unfold fp; rw [hE]; omega
      · right
        have ze : (fX w a).log2 = (fX w b).log2 := by omega
        unfold fp fA
        rw [hE, ze]
        exact ⟨rfl, Nat.mul_lt_mul_of_pos_right hX (Nat.two_pow_pos _)⟩
    · exfalso
      have : (fb w b + 1) * 2 ^ dg w ≤ fb w a * 2 ^ dg w := Nat.mul_le_mul_right _ c
      rw [Nat.add_mul, Nat.one_mul] at this
      omega
  · intro h
    unfold fm at h
    have e1 : fb w a = fb w b := by
      rcases Nat.lt_trichotomy (fb w a) (fb w b) with c | c | c
      · have : (fb w a + 1) * 2 ^ dg w ≤ fb w b * 2 ^ dg w := Nat.mul_le_mul_right _ c
        rw [Nat.add_mul, Nat.one_mul] at this
        omega
      · exact c
      · have : (fb w b + 1) * 2 ^ dg w ≤ fb w a * 2 ^ dg w := Nat.mul_le_mul_right _ c
        rw [Nat.add_mul, Nat.one_mul] at this
        omega
    have e2 : ff w a = ff w b := by rw [e1] at h; omega
    have e3 : fX w a = fX w b := by unfold fX; rw [e1, e2]
    unfold fp fE fA
    rw [e3, e1]
    exact ⟨rfl, rfl⟩
theorem fm_pos {w : Int32} {a : Nat} (h : fk w a = 1) : 0 < fm w a := by
  rcases Nat.eq_zero_or_pos (fm w a) with c | c
  · exfalso
    unfold fm at c
    have hp := Nat.two_pow_pos (dg w)
    have h1 : fb w a * 2 ^ dg w = 0 := by omega
    have h2 : ff w a = 0 := by omega
    have h3 : fb w a = 0 := by
      rcases Nat.mul_eq_zero.mp h1 with q | q
      · exact q
      · omega
    exact fk_1 h (by unfold fX; rw [if_pos h3, h2])
  · exact c
theorem fm_lt2 {w : Int32} {a : Nat} (h : fk w a = 1) : fm w a < mo w * 2 ^ dg w := by
  have hb1 : fb w a < mo w + 1 := Nat.mod_lt _ (by omega)
  have hbm : ¬ fb w a = mo w := by
    intro q
    unfold fk at h
    rw [if_pos q] at h
    split at h <;> exact absurd h (by decide)
  have hf : ff w a < 2 ^ dg w := Nat.mod_lt _ (Nat.two_pow_pos _)
  have : (fb w a + 1) * 2 ^ dg w ≤ mo w * 2 ^ dg w := Nat.mul_le_mul_right _ (by omega)
  rw [Nat.add_mul, Nat.one_mul] at this
  unfold fm
  omega
/-- which is larger, by the class -/
theorem fr_csize {w na nb : Int32} {a b : Nat} {L O : Fr4} {P : Int32 → Prop} (hL : fr_is w a na L) (hO : fr_is w b nb O) (h3 : ¬ fk w a = 3) (h4 : ¬ fk w b = 3)
    (h : ∀ c : Int32, (c = 0 ↔ fm w a = fm w b) → (c < 0 ↔ fm w a < fm w b) → P c) (h0 : fk w a = 0 ↔ fk w b = 0) : wp_Fr_compareSize L O P := by
  obtain ⟨n1, k1, x1, m1⟩ := L
  obtain ⟨n2, k2, x2, m2⟩ := O
  obtain ⟨a1, a2, a3⟩ := hL
  obtain ⟨b1, b2, b3⟩ := hO
  dsimp only at a1 a2 a3 b1 b2 b3
  unfold wp_Fr_compareSize wp_JL_compare
  dsimp only
  rw [a2, b2]
  have pa := fp_in w a
  have pb := fp_in w b
  rcases fk_4 w a with q | q | q | q <;> rcases fk_4 w b with r | r | r | r
  all_goals first
    | exact absurd q h3
    | exact absurd r h4
    | exact absurd (h0.mp q) (by rw [r]; decide)
    | exact absurd (h0.mpr r) (by rw [q]; decide)
    | skip
  all_goals rw [q, r]
  · refine ⟨fun z => absurd z (by decide), fun _ => h _ ?_ ?_⟩
    · rw [fm_0 q, fm_0 r]; decide
    · rw [fm_0 q, fm_0 r]; decide
  · obtain ⟨e1, e2⟩ := a3 q
    obtain ⟨f1, f2⟩ := b3 r
    rw [e1, e2, f1, f2]
    obtain ⟨m1, m2⟩ := fm_mono q r
    obtain ⟨m3, m4⟩ := fm_mono r q
    have hA := fA_in (fk_1 q)
    have hB := fA_in (fk_1 r)
    generalize fA w a = A at *
    generalize fA w b = B at *
    generalize fp w a = p at *
    generalize fp w b = t at *
    generalize fm w a = x at *
    generalize fm w b = y at *
    have he : iI (p + 52) = iI (t + 52) ↔ p = t := by rw [fq_eq ⟨by omega, by omega⟩ ⟨by omega, by omega⟩]; omega
    have hA2 : A * 2 ^ 10 < 2 ^ 63 := by omega
    have hB2 : B * 2 ^ 10 < 2 ^ 63 := by clear hA2; omega
    have hle : lN (B * 2 ^ 10) ≤ lN (A * 2 ^ 10) ↔ B ≤ A := by
      rw [pk_lLE hB2 hA2]
      exact ⟨fun z => Nat.le_of_mul_le_mul_right z (by decide), fun z => Nat.mul_le_mul_right _ z⟩
    have heq : lN (A * 2 ^ 10) = lN (B * 2 ^ 10) ↔ A = B := by
      rw [pk_lEQ hA2 hB2]
      exact ⟨fun z => Nat.eq_of_mul_eq_mul_right (by decide) z, fun z => by rw [z]⟩
    clear hA2 hB2
    refine ⟨fun _ => ⟨fun _ => ⟨fun c => ?_, fun c => h _ ?_ ?_⟩, fun z => absurd rfl z⟩, fun z => absurd rfl z⟩
    · have c := he.mp c
      rw [hle, heq]
      refine ⟨fun z => ⟨fun z2 => h _ ?_ ?_, fun z2 => h _ ?_ ?_⟩, fun z => h _ ?_ ?_⟩
      · exact ⟨fun _ => by omega, fun _ => rfl⟩
      · exact ⟨fun f => absurd f (by decide), fun f => by omega⟩
      · exact ⟨fun f => absurd f (by decide), fun f => by omega⟩
      · exact ⟨fun f => absurd f (by decide), fun f => by omega⟩
      · exact ⟨fun f => absurd f (by decide), fun f => by omega⟩
      · exact ⟨fun _ => by omega, fun _ => by decide⟩
    · have c : ¬ p = t := fun z => c (he.mpr z)
      rw [fq_sub, show (0 : Int32) = iI 0 from rfl, fq_eq ⟨by omega, by omega⟩ ⟨by omega, by omega⟩]
      omega
    · have c : ¬ p = t := fun z => c (he.mpr z)
      rw [fq_sub, show (0 : Int32) = iI 0 from rfl, fq_lt ⟨by omega, by omega⟩ ⟨by omega, by omega⟩]
      omega
  · have := fm_lt2 q
    rw [← fm_2 r] at this
    refine ⟨fun _ => ⟨fun z => absurd z (by decide), fun _ => h _ ?_ ?_⟩, fun z => absurd rfl z⟩
    · exact ⟨fun f => absurd f (by decide), fun f => by omega⟩
    · exact ⟨fun _ => this, fun _ => by decide⟩
  · have := fm_lt2 r
    rw [← fm_2 q] at this
    refine ⟨fun z => absurd z (by decide), fun _ => h _ ?_ ?_⟩
    · exact ⟨fun f => absurd f (by decide), fun f => by omega⟩
    · exact ⟨fun f => absurd f (by decide), fun f => by omega⟩
  · refine ⟨fun z => absurd z (by decide), fun _ => h _ ?_ ?_⟩
    · rw [fm_2 q, fm_2 r]; exact ⟨fun _ => rfl, fun _ => by decide⟩
    · rw [fm_2 q, fm_2 r]; exact ⟨fun f => absurd f (by decide), fun f => absurd f (Nat.lt_irrefl _)⟩
/-- the order of two, as the bits of C have it -/
def cmpC (w : Int32) (a b : Nat) : Int32 := if fk w a = 3 ∨ fk w b = 3 then 1 else if sgz (fn w a) (fm w a) = sgz (fn w b) (fm w b) then 2 else if sgz (fn w a) (fm w a) < sgz (fn w b) (fm w b) then 4 else 0
theorem fr_side {w n : Int32} {a : Nat} {L : Fr4} {P : Int32 → Prop} (hL : fr_is w a n L) (h : P (if fk w a = 0 then 0 else if n = 0 then 1 else -1)) : wp_Fr_side L P := by
  obtain ⟨a1, a2, -⟩ := hL
  unfold wp_Fr_side
  rw [a1, a2]
  refine ⟨fun c => by rw [if_pos c] at h; exact h, fun c => ⟨fun d => ?_, fun d => ?_⟩⟩
  · rw [if_neg c, if_pos d] at h; exact h
  · rw [if_neg c, if_neg d] at h; exact h
theorem fm_pos2 {w : Int32} {a : Nat} (h3 : ¬ fk w a = 3) : (fk w a = 0 → fm w a = 0) ∧ (¬ fk w a = 0 → 0 < fm w a) := by
  refine ⟨fm_0, fun c => ?_⟩
  rcases fk_4 w a with q | q | q | q
  · exact absurd q c
  · exact fm_pos q
  · rw [fm_2 q]
    have hp := Nat.two_pow_pos (dg w)
    have : 0 < mo w := by rcases rn_fm w with ⟨-, -, z, -⟩ | ⟨-, -, z, -⟩ <;> rw [z] <;> decide
    exact Nat.mul_pos this hp
  · exact absurd q h3
theorem fr_order {w : Int32} {a b : Nat} {L O : Fr4} {P : Int32 → Prop} (hL : fr_is w a (fn w a) L) (hO : fr_is w b (fn w b) O) (h : P (cmpC w a b)) : wp_Fr_order L O P := by
  unfold wp_Fr_order
  unfold cmpC at h
  rw [hL.2.1, hO.2.1]
  refine ⟨fun c => by rw [if_pos (Or.inl c)] at h; exact h, fun c => ⟨fun c2 => by rw [if_pos (Or.inr c2)] at h; exact h, fun c2 => ?_⟩⟩
  rw [if_neg (fun z => z.elim c c2)] at h
  refine fr_side hL (fr_side hO ?_)
  have pa := fm_pos2 c
  have pb := fm_pos2 c2
  have ba := fn_bz w a
  have bb := fn_bz w b
  unfold sgz at h
  refine ⟨fun e => ?_, fun e => ⟨fun e2 => ?_, fun e2 => ?_⟩⟩
  · have h0 : fk w a = 0 ↔ fk w b = 0 := by
      by_cases z : fk w a = 0 <;> by_cases y : fk w b = 0
      · exact ⟨fun _ => y, fun _ => z⟩
      · rw [if_pos z, if_neg y] at e; split at e <;> exact absurd e (by decide)
      · rw [if_neg z, if_pos y] at e; split at e <;> exact absurd e (by decide)
      · exact ⟨fun q => absurd q z, fun q => absurd q y⟩
    have hn : ¬ fk w a = 0 → (fn w a = 0 ↔ fn w b = 0) := by
      intro z
      rw [if_neg z, if_neg (fun q => z (h0.mpr q))] at e
      by_cases u : fn w a = 0 <;> by_cases v : fn w b = 0
      · exact ⟨fun _ => v, fun _ => u⟩
      · rw [if_pos u, if_neg v] at e; exact absurd e (by decide)
      · rw [if_neg u, if_pos v] at e; exact absurd e (by decide)
      · exact ⟨fun q => absurd q u, fun q => absurd q v⟩
    refine fr_csize hL hO c c2 (fun cs k1 k2 => ?_) h0
    rw [hL.1]
    refine ⟨fun d => ?_, fun d => ⟨fun d2 => ⟨fun d3 => ?_, fun d3 => ?_⟩, fun d2 => ⟨fun d3 => ?_, fun d3 => ?_⟩⟩⟩
    · have d := k1.mp d
      rw [if_pos ?_] at h
      · exact h
      · by_cases z : fk w a = 0
        · have z1 := pa.1 z
          have z2 := pb.1 (h0.mp z)
          rw [z1, z2]; split <;> split <;> rfl
        · have hn := hn z
          rw [d]
          by_cases u : fn w a = 0
          · rw [if_pos u, if_pos (hn.mp u)]
          · rw [if_neg u, if_neg (fun q => u (hn.mpr q))]
    all_goals have dd : ¬ fm w a = fm w b := fun q => d (k1.mpr q)
    all_goals have z : ¬ fk w a = 0 := fun q => dd (by rw [pa.1 q, pb.1 (h0.mp q)])
    all_goals have hn := hn z
    all_goals have lt : cs < 0 ↔ ¬ 0 ≤ cs := by rw [Int32.not_le]
    · have u : fn w a = 0 := d3.symm
      rw [if_pos u, if_pos (hn.mp u)] at h
      have : ¬ fm w a < fm w b := fun q => (lt.mp (k2.mpr q)) d2
      rw [if_neg (by omega), if_neg (by omega)] at h
      exact h
    · have u : ¬ fn w a = 0 := fun q => d3 q.symm
      rw [if_neg u, if_neg (fun q => u (hn.mpr q))] at h
      have : ¬ fm w a < fm w b := fun q => (lt.mp (k2.mpr q)) d2
      rw [if_neg (by omega), if_pos (by omega)] at h
      exact h
    · have u : ¬ fn w a = 0 := by rw [← d3]; decide
      rw [if_neg u, if_neg (fun q => u (hn.mpr q))] at h
      have : fm w a < fm w b := k2.mp (lt.mpr d2)
      rw [if_neg (by omega), if_neg (by omega)] at h
      exact h
    · have u : fn w a = 0 := by
        rcases ba with q | q
        · exact q
        · exact absurd q.symm d3
      rw [if_pos u, if_pos (hn.mp u)] at h
      have : fm w a < fm w b := k2.mp (lt.mpr d2)
      rw [if_neg (by omega), if_pos (by omega)] at h
      exact h
  · by_cases z : fk w a = 0 <;> by_cases y : fk w b = 0
    · rw [if_pos z, if_pos y] at e; exact absurd rfl e
    · rw [if_pos z, if_neg y] at e2
      have z1 := pa.1 z
      have y1 := pb.2 y
      by_cases v : fn w b = 0
      · rw [if_pos v] at e2; exact absurd e2 (by decide)
      · rw [z1, if_neg v] at h
        rw [if_neg (by split <;> omega), if_neg (by split <;> omega)] at h
        exact h
    · rw [if_neg z, if_pos y] at e2
      have z1 := pa.2 z
      have y1 := pb.1 y
      by_cases u : fn w a = 0
      · rw [y1, if_pos u] at h
        rw [if_neg (by split <;> omega), if_neg (by split <;> omega)] at h
        exact h
      · rw [if_neg u] at e2; exact absurd e2 (by decide)
    · have z1 := pa.2 z
      have y1 := pb.2 y
      rw [if_neg z, if_neg y] at e e2
      by_cases u : fn w a = 0 <;> by_cases v : fn w b = 0
      · rw [if_pos u, if_pos v] at e; exact absurd rfl e
      · rw [if_pos u, if_neg v, if_neg (by omega), if_neg (by omega)] at h; exact h
      · rw [if_neg u, if_pos v] at e2; exact absurd e2 (by decide)
      · rw [if_neg u, if_neg v] at e; exact absurd rfl e
  · by_cases z : fk w a = 0 <;> by_cases y : fk w b = 0
    · rw [if_pos z, if_pos y] at e; exact absurd rfl e
    · rw [if_pos z, if_neg y] at e2
      have z1 := pa.1 z
      have y1 := pb.2 y
      by_cases v : fn w b = 0
      · rw [z1, if_pos v] at h
        rw [if_neg (by split <;> omega), if_pos (by split <;> omega)] at h
        exact h
      · rw [if_neg v] at e2; exact absurd (by decide) e2
    · rw [if_neg z, if_pos y] at e2
      have z1 := pa.2 z
      have y1 := pb.1 y
      by_cases u : fn w a = 0
      · rw [if_pos u] at e2; exact absurd (by decide) e2
      · rw [y1, if_neg u] at h
        rw [if_neg (by split <;> omega), if_pos (by split <;> omega)] at h
        exact h
    · have z1 := pa.2 z
      have y1 := pb.2 y
      rw [if_neg z, if_neg y] at e e2
      by_cases u : fn w a = 0 <;> by_cases v : fn w b = 0
      · rw [if_pos u, if_pos v] at e; exact absurd rfl e
      · rw [if_pos u, if_neg v] at e2; exact absurd (by decide) e2
      · rw [if_neg u, if_pos v, if_neg (by omega), if_pos (by omega)] at h; exact h
      · rw [if_neg u, if_neg v] at e; exact absurd rfl e
/-- the reference's order -/
theorem md_order {w : Int32} {a b : Nat} {P : Int32 → Prop} (ha : fin w a) (hb : fin w b) (h : P (if sgz (fn w a) (fm w a) = sgz (fn w b) (fm w b) then 0 else if sgz (fn w a) (fm w a) < sgz (fn w b) (fm w b) then -1 else 1)) : wp_Md_order (lN a) (lN b) w P := by
  have fl : ∀ c, fm w c < 2 ^ 63 := fun c => by
    have := fm_lt w c
    rcases (sb_p w).2.2 with ⟨-, q⟩ | ⟨-, q⟩ <;> rw [q] at this <;> omega
  have key : ∀ c, fin w c → ∀ mk : Int64, mk = lN (2 ^ sb w - 1) → (lN c &&& mk = lN (fm w c)) ∧ (lN c &&& mk = lN c ↔ fn w c = 0) ∧ (fn w c = 0 → (lN c).toInt = sgz (fn w c) (fm w c)) ∧ (¬ fn w c = 0 → (-(lN c &&& mk)).toInt = sgz (fn w c) (fm w c)) := by
    intro c hc mk hmk
    have e1 : lN c &&& mk = lN (fm w c) := by rw [hmk, fq_mask, fm_mod]
    obtain ⟨s1, s2⟩ := fm_split hc
    have hq : c / 2 ^ sb w = 0 ∨ c / 2 ^ sb w = 1 := by
      generalize c / 2 ^ sb w = z at s2; omega
    have e0 : fn w c = 0 → fm w c = c := by
      intro q
      rcases hq with t | t
      · rw [t, Nat.zero_mul, Nat.zero_add] at s1; exact s1.symm
      · unfold fn at q; rw [t, if_neg (by decide)] at q; exact absurd q (by decide)
    refine ⟨e1, ?_, ?_, ?_⟩
    · rw [e1, fq_linj (by have := fl c; omega) hc.1]
      refine ⟨fun q => ?_, e0⟩
      rcases hq with t | t
      · unfold fn; rw [t, if_pos (by decide)]
      · rw [t, Nat.one_mul] at s1
        have := Nat.two_pow_pos (sb w)
        omega
    · intro q
      unfold sgz
      rw [if_pos q, e0 q, pk_lT]
      have := fl c
      rw [e0 q] at this
      exact this
    · intro q
      unfold sgz
      rw [if_neg q, e1, lN_neg (fl c)]
  have t54 : ∀ x y : Int64, x.toInt = sgz (fn w a) (fm w a) → y.toInt = sgz (fn w b) (fm w b) → wj_Md_order_54 (lN a) (lN b) w P x y := by
    intro x y hx hy
    unfold wj_Md_order_54
    have h1 : y ≤ x ↔ sgz (fn w b) (fm w b) ≤ sgz (fn w a) (fm w a) := by rw [Int64.le_iff_toInt_le, hx, hy]
    have h2 : x ≤ y ↔ sgz (fn w a) (fm w a) ≤ sgz (fn w b) (fm w b) := by rw [Int64.le_iff_toInt_le, hx, hy]
    rw [h1, h2]
    refine ⟨fun c => ⟨fun d => ?_, fun d => ?_⟩, fun c => ?_⟩
    · rw [if_pos (by omega)] at h; exact h
    · rw [if_neg (by omega), if_neg (by omega)] at h; exact h
    · rw [if_neg (by omega), if_pos (by omega)] at h; exact h
  have t14 : ∀ mk : Int64, mk = lN (2 ^ sb w - 1) → wj_Md_order_14 (lN a) (lN b) w P mk := by
    intro mk hmk
    obtain ⟨-, a2, a3, a4⟩ := key a ha mk hmk
    obtain ⟨-, b2, b3, b4⟩ := key b hb mk hmk
    unfold wj_Md_order_14 wj_Md_order_34
    rw [a2, b2]
    exact ⟨fun c => ⟨fun d => t54 _ _ (a3 c) (b3 d), fun d => t54 _ _ (a3 c) (b4 d)⟩, fun c => ⟨fun d => t54 _ _ (a4 c) (b3 d), fun d => t54 _ _ (a4 c) (b4 d)⟩⟩
  unfold wp_Md_order
  refine ⟨fun c => t14 _ ?_, fun c => t14 _ ?_⟩
  · unfold sb; rw [if_pos c]; rfl
  · unfold sb; rw [if_neg c]; rfl
