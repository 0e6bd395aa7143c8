/-! ===== bits taken apart: by the class, by the reference ===== -/
def sb (w : Int32) : Nat := if w = 0 then 31 else 63
def ff (w : Int32) (a : Nat) : Nat := a % 2 ^ dg w
def fb (w : Int32) (a : Nat) : Nat := a / 2 ^ dg w % (mo w + 1)
def fn (w : Int32) (a : Nat) : Int32 := if a / 2 ^ sb w % 2 = 0 then 0 else 1
def fX (w : Int32) (a : Nat) : Nat := if fb w a = 0 then ff w a else ff w a + 2 ^ dg w
def fE (w : Int32) (a : Nat) : Int := ((max (fb w a) 1 : Nat) : Int) - bi w - dg w
def fk (w : Int32) (a : Nat) : Int32 := if fb w a = mo w then (if ff w a = 0 then 2 else 3) else if fX w a = 0 then 0 else 1
def fA (w : Int32) (a : Nat) : Nat := fX w a * 2 ^ (52 - (fX w a).log2)
def fp (w : Int32) (a : Nat) : Int := fE w a - ((52 - (fX w a).log2 : Nat) : Int)
/-- bits of this width -/
def fin (w : Int32) (a : Nat) : Prop := a < 2 ^ 64 ∧ (w = 0 → a < 2 ^ 32)
theorem fX_lt (w : Int32) (a : Nat) : fX w a < 2 ^ (dg w + 1) := by
  have := Nat.mod_lt a (Nat.two_pow_pos (dg w))
  unfold fX ff
  rw [Nat.pow_succ]
  split <;> omega
theorem fX_log {w : Int32} {a : Nat} (h : fX w a ≠ 0) : (fX w a).log2 ≤ dg w := by
  have := (Nat.log2_lt h).mpr (fX_lt w a)
  omega
theorem fk_1 {w : Int32} {a : Nat} (h : fk w a = 1) : fX w a ≠ 0 := by
  unfold fk at h
  intro q
  rw [q] at h
  split at h
  · split at h <;> exact absurd h (by decide)
  · exact absurd h (by decide)
theorem fk_4 (w : Int32) (a : Nat) : fk w a = 0 ∨ fk w a = 1 ∨ fk w a = 2 ∨ fk w a = 3 := by
  unfold fk
  split <;> split <;> simp
theorem fn_bz (w : Int32) (a : Nat) : zz_bz (fn w a) := by
  unfold fn zz_bz
  split <;> simp
theorem fA_in {w : Int32} {a : Nat} (h : fX w a ≠ 0) : 2 ^ 52 ≤ fA w a ∧ fA w a < 2 ^ 53 := by
  have l1 := Nat.log2_self_le h
  have l2 := Nat.lt_log2_self (n := fX w a)
  have l3 := fX_log h
  have d := (rn_dl w).1
  unfold fA
  generalize fX w a = X at *
  constructor
  · calc 2 ^ 52 = 2 ^ X.log2 * 2 ^ (52 - X.log2) := by rw [← Nat.pow_add]; congr 1; omega
      _ ≤ _ := Nat.mul_le_mul_right _ l1
  · calc X * 2 ^ (52 - X.log2) < 2 ^ (X.log2 + 1) * 2 ^ (52 - X.log2) := Nat.mul_lt_mul_of_pos_right l2 (Nat.two_pow_pos _)
      _ = 2 ^ 53 := by rw [← Nat.pow_add]; congr 1; omega
theorem fp_in (w : Int32) (a : Nat) : -1200 ≤ fp w a ∧ fp w a ≤ 1100 := by
  have hb : fb w a < mo w + 1 := Nat.mod_lt _ (by omega)
  unfold fp fE
  rcases rn_fm w with ⟨-, q1, q2, q3, q4⟩ | ⟨-, q1, q2, q3, q4⟩ <;> rw [q2] at hb <;> rw [q1, q3] <;> omega
/-- what the class has of the bits a -/
def fr_of (w : Int32) (a : Nat) (L : Fr4) : Prop := L.1 = fn w a ∧ L.2.1 = fk w a ∧ (fk w a = 1 → L.2.2.1 = iI (fp w a + 52) ∧ L.2.2.2 = lN (fA w a * 2 ^ 10))
/-- the two bits of the sign -/
theorem fn_bit {w : Int32} {a : Nat} (ha : a < 2 ^ 64) {s : Int32} (hs : s = nI (sb w)) : (zz_lushr (lN a) s &&& 1 = (0 : Int64)) ↔ a / 2 ^ sb w % 2 = 0 := by
  have : sb w < 64 := by unfold sb; split <;> decide
  rw [hs, fq_ushr ha this, fq_odd, fq_l0, fq_linj (by omega) (by decide)]
theorem fr_bec {w : Int32} {a : Nat} {n k x0 : Int32} {m0 : Int64} {P : Fr4 → Prop} (hm : ¬ fb w a = mo w) (hn : n = fn w a) (h : ∀ L', fr_of w a L' → P L') {v : Int64} {e : Int32} (hv : v = lN (fX w a * 2 ^ (62 - dg w))) (he : e = iI (fE w a + dg w)) : wp_Fr_become (n, k, x0, m0) v e P := by
  have d := rn_dl w
  subst hv; subst he
  by_cases h0 : fX w a = 0
  · rw [h0, Nat.zero_mul]
    refine fr_bzero (fun x => h _ ⟨hn, ?_, fun q => ?_⟩)
    · show (0 : Int32) = _
      unfold fk; rw [if_neg hm, if_pos h0]
    · exact absurd h0 (fk_1 q)
  · have hlt := fX_lt w a
    have hp := Nat.two_pow_pos (62 - dg w)
    refine fr_become (Nat.mul_pos (by omega) hp) ?_ (fun t t1 t2 t3 => h _ ⟨hn, ?_, fun _ => ?_⟩)
    · calc fX w a * 2 ^ (62 - dg w) < 2 ^ (dg w + 1) * 2 ^ (62 - dg w) := Nat.mul_lt_mul_of_pos_right hlt hp
        _ = 2 ^ 63 := by rw [← Nat.pow_add]; congr 1; omega
    · show (1 : Int32) = _
      unfold fk; rw [if_neg hm, if_neg h0]
    · have hl := fX_log h0
      rw [Nat.mul_assoc, ← Nat.pow_add] at t2 t3
      have l := rx_log t2 t3
      unfold fp fA
      show iI _ = iI _ ∧ lN _ = lN _
      constructor
      · congr 1; omega
      · rw [Nat.mul_assoc, Nat.mul_assoc, ← Nat.pow_add, ← Nat.pow_add]
        congr 3; omega
theorem fr_unpack {L : Fr4} {w : Int32} {a : Nat} {P : Fr4 → Prop} (ha : fin w a) (h : ∀ L', fr_of w a L' → P L') : wp_Fr_unpack L (lN a) w P := by
  obtain ⟨h64, h32⟩ := ha
  have d := rn_dl w
  -- the fields
  have e1 : ∀ x : Int32, (w = 0 → x = (zz_lushr (lN a) (nI (dg w))).toInt32 &&& 255) → (¬ w = 0 → x = (zz_lushr (lN a) (nI (dg w))).toInt32 &&& 2047) → x = nI (fb w a) := by
    intro x x1 x2
    rw [fq_ushr h64 (by omega), lN_i] at x1 x2
    unfold fb
    rcases rn_fm w with ⟨c, q1, q2, -⟩ | ⟨c, q1, q2, -⟩
    · rw [x1 c, q1, q2]
      exact pk_andN (by have := h32 c; omega) 8 (by decide)
    · rw [x2 c, q1, q2]
      exact pk_andN (by omega) 11 (by decide)
  have e2 : ∀ x y : Int64, x = zz_lshl 1 (nI (dg w)) - 1 → y = lN a &&& x → y = lN (ff w a) := by
    intro x y hx hy
    rw [hy, hx, fq_m1 (by omega)]
    exact fq_mask _ _
  have hb : fb w a < mo w + 1 := Nat.mod_lt _ (by omega)
  have mb : mo w < 5000 := by rcases rn_fm w with ⟨-, -, q, -⟩ | ⟨-, -, q, -⟩ <;> rw [q] <;> decide
  have hf : ff w a < 2 ^ dg w := Nat.mod_lt _ (Nat.two_pow_pos _)
  have hf2 : (2 : Nat) ^ dg w ≤ 2 ^ 52 := Nat.pow_le_pow_right (by decide) d.1
  have z1 : ∀ x : Int64, x = lN (ff w a) → (x = 0 ↔ ff w a = 0) := fun x hx => by rw [hx, fq_l0, fq_linj (by omega) (by decide)]
  have z2 : ∀ x : Int32, x = nI (fb w a) → (x = 0 ↔ fb w a = 0) := fun x hx => by rw [hx]; exact nI_eq (b := 0) (by omega) (by decide)
  -- no number, or without end
  have inf : ∀ (n x0 : Int32) (m0 : Int64), n = fn w a → fb w a = mo w → ff w a = 0 → P (n, 2, x0, m0) := by
    intro n x0 m0 hn hm h0
    have : fk w a = 2 := by unfold fk; rw [if_pos hm, if_pos h0]
    exact h _ ⟨hn, this.symm, fun q => by rw [this] at q; exact absurd q (by decide)⟩
  have non : ∀ (n x0 : Int32) (m0 : Int64), n = fn w a → fb w a = mo w → ¬ ff w a = 0 → P (n, 3, x0, m0) := by
    intro n x0 m0 hn hm h0
    have : fk w a = 3 := by unfold fk; rw [if_pos hm, if_neg h0]
    exact h _ ⟨hn, this.symm, fun q => by rw [this] at q; exact absurd q (by decide)⟩
  -- a number
  have sub : ∀ (n k x0 : Int32) (m0 y x : Int64), n = fn w a → ¬ fb w a = mo w → fb w a = 0 → y = lN (ff w a) → x = zz_lshl y (62 - nI (dg w)) → wp_Fr_lowest w (fun r => wp_Fr_become (n, k, x0, m0) x r (fun u => P u)) := by
    intro n k x0 m0 y x hn hm h0 hy hx
    rw [hy, show (62 : Int32) = nI 62 from rfl, pk_sub (by omega), fq_shl _ (by omega)] at hx
    refine fr_lowest (fr_bec hm hn h ?_ ?_)
    · rw [hx]; unfold fX; rw [if_pos h0]
    · unfold fE lw0; rw [h0]; congr 1
      rcases rn_fm w with ⟨-, q1, q2, q3, q4⟩ | ⟨-, q1, q2, q3, q4⟩ <;> rw [q1, q3, q4] <;> decide
  have nor : ∀ (n k x0 z : Int32) (m0 y y2 x : Int64), n = fn w a → ¬ fb w a = mo w → ¬ fb w a = 0 → z = nI (fb w a) → y = lN (ff w a) → y2 = (y ||| zz_lshl 1 (nI (dg w))) → x = zz_lshl y2 (62 - nI (dg w)) → wp_Fr_lowest w (fun r => ∀ x_44 : Int32, x_44 = ((z - 1) + r) → wp_Fr_become (n, k, x0, m0) x x_44 (fun u => P u)) := by
    intro n k x0 z m0 y y2 x hn hm h0 hz hy hy2 hx
    have q : y2 = lN (ff w a + 2 ^ dg w) := by
      rw [hy2, hy, fq_1 (by omega), l_orc]
      have := fq_ors (a := 1) hf
      rw [Nat.one_mul] at this
      rw [this, Nat.add_comm]
    rw [q, show (62 : Int32) = nI 62 from rfl, pk_sub (by omega), fq_shl _ (by omega)] at hx
    refine fr_lowest (fun x44 e44 => fr_bec hm hn h ?_ ?_)
    · rw [hx]; unfold fX; rw [if_neg h0]
    · rw [e44, hz, fq_n, show (1 : Int32) = iI 1 from rfl, fq_sub, fq_add]
      unfold fE lw0; congr 1
      rcases rn_fm w with ⟨-, q1, q2, q3, q4⟩ | ⟨-, q1, q2, q3, q4⟩ <;> rw [q1, q3, q4] <;> omega
  have nor' : ∀ (n k x0 z : Int32) (m0 y y2 x : Int64), n = fn w a → ¬ fb w a = mo w → ¬ fb w a = 0 → z = nI (fb w a) → y = lN (ff w a) → y2 = (y ||| zz_lshl 1 (nI (dg w))) → x = zz_lshl y2 (62 - nI (dg w)) → wp_Fr_lowest w (fun r => wp_Fr_become (n, k, x0, m0) x ((z - 1) + r) (fun u => P u)) := by
    intro n k x0 z m0 y y2 x hn hm h0 hz hy hy2 hx
    have := nor n k x0 z m0 y y2 x hn hm h0 hz hy hy2 hx
    unfold wp_Fr_lowest at this ⊢
    exact ⟨fun c => this.1 c _ rfl, fun c => this.2 c _ rfl⟩
  unfold wp_Fr_unpack
  refine fr_width ⟨fun w0 x3 h3 x4 h4 x5 h5 x7 h7 => ?_, fun w0 x3 h3 x4 h4 x5 h5 x7 h7 => ?_⟩
  · have h3 := e1 x3 (fun _ => h3) (fun c => absurd w0 c)
    have h5 := e2 _ _ h4 h5
    have hq := fn_bit (w := w) h64 (s := 31) (by unfold sb; rw [if_pos w0]; rfl)
    have hm : x3 = 255 ↔ fb w a = mo w := by
      rw [h3, show mo w = 255 by unfold mo; rw [if_pos w0]]
      exact nI_eq (b := 255) (by omega) (by decide)
    refine ⟨fun c => ?_, fun c => ?_⟩
    · have hn : (0 : Int32) = fn w a := by unfold fn; rw [h7, hq] at c; rw [if_pos c]
      refine ⟨fun a1 => ⟨fun b1 => inf _ _ _ hn (hm.mp a1) ((z1 _ h5).mp b1), fun b1 => non _ _ _ hn (hm.mp a1) (fun q => b1 ((z1 _ h5).mpr q))⟩, fun a1 => ⟨fun b1 x hx => sub _ _ _ _ _ _ hn (fun q => a1 (hm.mpr q)) ((z2 _ h3).mp b1) h5 hx, fun b1 y2 hy2 x hx => nor' _ _ _ _ _ _ _ _ hn (fun q => a1 (hm.mpr q)) (fun q => b1 ((z2 _ h3).mpr q)) h3 h5 hy2 hx⟩⟩
    · have hn : (1 : Int32) = fn w a := by unfold fn; rw [h7, hq] at c; rw [if_neg c]
      refine ⟨fun a1 => ⟨fun b1 => inf _ _ _ hn (hm.mp a1) ((z1 _ h5).mp b1), fun b1 => non _ _ _ hn (hm.mp a1) (fun q => b1 ((z1 _ h5).mpr q))⟩, fun a1 => ⟨fun b1 x hx => sub _ _ _ _ _ _ hn (fun q => a1 (hm.mpr q)) ((z2 _ h3).mp b1) h5 hx, fun b1 y2 hy2 x hx => nor' _ _ _ _ _ _ _ _ hn (fun q => a1 (hm.mpr q)) (fun q => b1 ((z2 _ h3).mpr q)) h3 h5 hy2 hx⟩⟩
  · have h3 := e1 x3 (fun c => absurd c w0) (fun _ => h3)
    have h5 := e2 _ _ h4 h5
    have hq := fn_bit (w := w) h64 (s := 63) (by unfold sb; rw [if_neg w0]; rfl)
    have hm : x3 = 2047 ↔ fb w a = mo w := by
      rw [h3, show mo w = 2047 by unfold mo; rw [if_neg w0]]
      exact nI_eq (b := 2047) (by omega) (by decide)
    refine ⟨fun c => ?_, fun c => ?_⟩
    · have hn : (0 : Int32) = fn w a := by unfold fn; rw [h7, hq] at c; rw [if_pos c]
      refine ⟨fun a1 => ⟨fun b1 => inf _ _ _ hn (hm.mp a1) ((z1 _ h5).mp b1), fun b1 => non _ _ _ hn (hm.mp a1) (fun q => b1 ((z1 _ h5).mpr q))⟩, fun a1 => ⟨fun b1 x hx => sub _ _ _ _ _ _ hn (fun q => a1 (hm.mpr q)) ((z2 _ h3).mp b1) h5 hx, fun b1 y2 hy2 x hx => nor _ _ _ _ _ _ _ _ hn (fun q => a1 (hm.mpr q)) (fun q => b1 ((z2 _ h3).mpr q)) h3 h5 hy2 hx⟩⟩
    · have hn : (1 : Int32) = fn w a := by unfold fn; rw [h7, hq] at c; rw [if_neg c]
      refine ⟨fun a1 => ⟨fun b1 => inf _ _ _ hn (hm.mp a1) ((z1 _ h5).mp b1), fun b1 => non _ _ _ hn (hm.mp a1) (fun q => b1 ((z1 _ h5).mpr q))⟩, fun a1 => ⟨fun b1 x hx => sub _ _ _ _ _ _ hn (fun q => a1 (hm.mpr q)) ((z2 _ h3).mp b1) h5 hx, fun b1 y2 hy2 x hx => nor _ _ _ _ _ _ _ _ hn (fun q => a1 (hm.mpr q)) (fun q => b1 ((z2 _ h3).mpr q)) h3 h5 hy2 hx⟩⟩
section TK
variable {ms : Int32} {dd bm rr kt : Nat → Int32} {l1 l2 : Int64}
abbrev MdT : Type := (Nat → Int32) × Int64 × Int64 × (Nat → Int32) × (Nat → Int32) × (Nat → Int32)
/-- what the reference has of the bits a -/
def md_of (w : Int32) (a : Nat) (dd dd' : Nat → Int32) (l : Int64) : Prop := (∀ j, j ≠ 14 → j ≠ 15 → j ≠ 18 → dd' j = dd j) ∧ dd' 18 = fn w a ∧ dd' 14 = fk w a ∧ (fk w a = 1 → dd' 15 = iI (fp w a) ∧ l = lN (fA w a))
theorem md_tloop {a0 : Int64} {a1 : Int32} {P : MdT → Prop} {w : Int32} {a : Nat} (h : ∀ dd' l, md_of w a dd dd' l → P (dd', l, l2, bm, rr, kt)) (h1 : fk w a = 1) :
    ∀ (t v : Nat) (e : Int) (d1 : Nat → Int32), (∀ j, j ≠ 14 → j ≠ 15 → j ≠ 18 → d1 j = dd j) → d1 18 = fn w a → d1 14 = 1 → d1 15 = iI e → v * 2 ^ t = fA w a → e - t = fp w a → wl_Md_take_143 ms a0 a1 P (t + 1) d1 (lN v) l2 bm rr kt := by
  have hA := fA_in (fk_1 h1)
  intro t
  induction t with
  | zero =>
    intro v e d1 hj h18 h14 h15 hv he
    rw [Nat.pow_zero, Nat.mul_one] at hv
    rw [wl_Md_take_143]
    refine ⟨fun _ x ex => ⟨fun c => ?_, fun _ => ?_⟩, fun c => absurd h14 c⟩
    · rw [show (52 : Int32) = nI 52 from rfl, fq_shr (by omega) (by decide)] at ex
      rw [ex, fq_l0, fq_linj (Nat.lt_of_le_of_lt (Nat.div_le_self _ _) (by omega)) (by decide)] at c
      omega
    · refine h d1 (lN v) ⟨hj, h18, by rw [h14, h1], fun _ => ⟨?_, by rw [hv]⟩⟩
      rw [h15]; congr 1; omega
  | succ t ih =>
    intro v e d1 hj h18 h14 h15 hv he
    have p2 : v * 2 ^ (t + 1) = v * 2 * 2 ^ t := by rw [Nat.pow_succ]; rw [Nat.mul_assoc, Nat.mul_comm (2 ^ t)]
    have hb : v * 2 < 2 ^ 53 := by
      have : v * 2 * 1 ≤ v * 2 * 2 ^ t := Nat.mul_le_mul_left _ Nat.one_le_two_pow
      omega
    rw [wl_Md_take_143]
    refine ⟨fun _ x ex => ⟨fun c y ey z ez => ?_, fun c => ?_⟩, fun c => absurd h14 c⟩
    · rw [show (1 : Int32) = nI 1 from rfl, fq_shl _ (by decide), Nat.pow_one] at ey
      rw [h15, show (1 : Int32) = iI 1 from rfl, fq_sub] at ez
      subst ey
      refine ih (v * 2) (e - 1) _ ?_ ?_ ?_ ?_ ?_ ?_
      · intro j j1 j2 j3; rw [pk_un j2]; exact hj j j1 j2 j3
      · rw [pk_un (by decide)]; exact h18
      · rw [pk_un (by decide)]; exact h14
      · rw [pk_us, ez]
      · rw [← p2]; exact hv
      · omega
    · rw [show (52 : Int32) = nI 52 from rfl, fq_shr (by omega) (by decide), Nat.div_eq_of_lt (by omega)] at ex
      exact absurd ex c
theorem md_take {w : Int32} {a : Nat} {P : MdT → Prop} (ha : fin w a) (h : ∀ dd' l, md_of w a dd dd' l → P (dd', l, l2, bm, rr, kt)) : wp_Md_take ms dd l1 l2 bm rr kt (lN a) w P := by
  obtain ⟨h64, h32⟩ := ha
  have d := rn_dl w
  have hb : fb w a < mo w + 1 := Nat.mod_lt _ (by omega)
  have mb : mo w < 5000 := by rcases rn_fm w with ⟨-, -, q, -⟩ | ⟨-, -, q, -⟩ <;> rw [q] <;> decide
  have hf : ff w a < 2 ^ dg w := Nat.mod_lt _ (Nat.two_pow_pos _)
  have hf2 : (2 : Nat) ^ dg w ≤ 2 ^ 52 := Nat.pow_le_pow_right (by decide) d.1
  have hX : fX w a < 2 ^ 63 := Nat.lt_of_lt_of_le (fX_lt w a) (Nat.pow_le_pow_right (by decide) (by omega))
  have z1 : lN (ff w a) = 0 ↔ ff w a = 0 := by rw [fq_l0, fq_linj (by omega) (by decide)]
  have z2 : nI (fb w a) = 0 ↔ fb w a = 0 := nI_eq (b := 0) (by omega) (by decide)
  have z3 : lN (fX w a) = 0 ↔ fX w a = 0 := by rw [fq_l0, fq_linj (by omega) (by decide)]
  -- the last part
  have t140 : ∀ (d1 : Nat → Int32) (a0 : Int64) (a1 : Int32), (∀ j, j ≠ 14 → j ≠ 15 → j ≠ 18 → d1 j = dd j) → d1 18 = fn w a → d1 15 = iI (fE w a) → wj_Md_take_140 ms a0 a1 P (fk w a) d1 (lN (fX w a)) l2 bm rr kt := by
    intro d1 a0 a1 hj h18 h15
    unfold wj_Md_take_140
    by_cases c : fk w a = 1
    · have c0 := fk_1 c
      refine ⟨52 - (fX w a).log2 + 1, md_tloop h c _ _ (fE w a) _ ?_ ?_ ?_ ?_ rfl rfl⟩
      · intro j j1 j2 j3; rw [pk_un j1]; exact hj j j1 j2 j3
      · rw [pk_un (by decide)]; exact h18
      · rw [pk_us, c]
      · rw [pk_un (by decide)]; exact h15
    · refine ⟨1, ?_⟩
      rw [wl_Md_take_143]
      refine ⟨fun q => absurd (by rw [pk_us] at q; exact q) c, fun _ => h _ _ ⟨?_, ?_, ?_, fun q => absurd q c⟩⟩
      · intro j j1 j2 j3; rw [pk_un j1]; exact hj j j1 j2 j3
      · rw [pk_un (by decide)]; exact h18
      · rw [pk_us]
  have t90 : ∀ (d1 : Nat → Int32) (a0 : Int64) (s : Int32), (∀ j, j ≠ 14 → j ≠ 15 → j ≠ 18 → d1 j = dd j) → d1 18 = fn w a → s = nI (max (fb w a) 1) → wj_Md_take_90 ms a0 w P (nI (dg w)) (nI (fb w a)) (lN (ff w a)) s d1 (lN (fX w a)) l2 bm rr kt := by
    intro d1 a0 s hj h18 hs
    unfold wj_Md_take_90
    have k := t140 (upd d1 15 (iI (fE w a))) a0 w (fun j j1 j2 j3 => by rw [pk_un j2]; exact hj j j1 j2 j3) (by rw [pk_un (by decide)]; exact h18) pk_us
    refine md_bias (fun x ex => md_most ?_)
    have ex : x = iI (fE w a) := by
      rw [ex, hs, fq_n, fq_n, fq_n, fq_sub, fq_sub]; rfl
    rw [ex]
    have hm : nI (fb w a) = nI (mo w) ↔ fb w a = mo w := nI_eq (by omega) (by omega)
    refine ⟨fun c => ⟨fun c1 => ?_, fun c1 => ?_⟩, fun c => ⟨fun c1 => ?_, fun c1 => ?_⟩⟩
    · have : fk w a = 2 := by unfold fk; rw [if_pos (hm.mp c), if_pos (z1.mp c1)]
      rw [this] at k; exact k
    · have : fk w a = 3 := by unfold fk; rw [if_pos (hm.mp c), if_neg (fun q => c1 (z1.mpr q))]
      rw [this] at k; exact k
    · have : fk w a = 0 := by unfold fk; rw [if_neg (fun q => c (hm.mpr q)), if_pos (z3.mp c1)]
      rw [this] at k; exact k
    · have : fk w a = 1 := by unfold fk; rw [if_neg (fun q => c (hm.mpr q)), if_neg (fun q => c1 (z3.mpr q))]
      rw [this] at k; exact k
  have t54 : ∀ (a0 : Int64) (s : Int32), s = fn w a → wj_Md_take_54 ms a0 w P (nI (dg w)) (nI (fb w a)) (lN (ff w a)) s dd l1 l2 bm rr kt := by
    intro a0 s hs
    have j0 : ∀ j, j ≠ 14 → j ≠ 15 → j ≠ 18 → upd dd 18 s j = dd j := fun j _ _ j3 => pk_un j3
    have n0 : upd dd 18 s 18 = fn w a := by rw [pk_us, hs]
    unfold wj_Md_take_54 wj_Md_take_75
    refine ⟨by rw [hs]; exact fn_bz w a, fun c => ⟨fun _ => ?_, fun q => absurd c q⟩, fun c x ex => ⟨fun q => absurd q c, fun _ => ?_⟩⟩
    · have c0 := z2.mp c
      have k := t90 (upd dd 18 s) a0 1 j0 n0 (by rw [c0]; rfl)
      rw [show fX w a = ff w a by unfold fX; rw [if_pos c0]] at k
      exact k
    · have c0 : ¬ fb w a = 0 := fun q => c (z2.mpr q)
      have k := t90 (upd dd 18 s) a0 (nI (fb w a)) j0 n0 (by congr 1; omega)
      rw [show fX w a = ff w a + 2 ^ dg w by unfold fX; rw [if_neg c0]] at k
      have q : x = lN (ff w a + 2 ^ dg w) := by
        rw [ex, fq_1 (by omega), l_orc]
        have := fq_ors (a := 1) hf
        rw [Nat.one_mul] at this
        rw [this, Nat.add_comm]
      rw [q]; exact k
  have t41 : ∀ (s : Int32), s = nI (sb w) → wj_Md_take_41 ms (lN a) w P (nI (dg w)) (nI (fb w a)) (lN (ff w a)) (lN a) s dd l1 l2 bm rr kt := by
    intro s hs
    have hq := fn_bit (w := w) h64 hs
    have hq1 : (zz_lushr (lN a) s &&& 1 = (1 : Int64)) ↔ ¬ a / 2 ^ sb w % 2 = 0 := by
      have : sb w < 64 := by unfold sb; split <;> decide
      rw [hs, fq_ushr h64 this, fq_odd, fq_l1, fq_linj (by omega) (by decide)]
      omega
    unfold wj_Md_take_41
    refine fun x ex => ⟨fun c => t54 _ _ ?_, fun c => t54 _ _ ?_⟩
    · rw [ex, hq1] at c; unfold fn; rw [if_neg c]
    · rw [ex, hq1, Classical.not_not] at c; unfold fn; rw [if_pos c]
  unfold wp_Md_take
  refine md_digits (md_most (fun x ex y ey z ez => ?_))
  have e1 : x = nI (fb w a) := by
    rw [ex, fq_ushr h64 (by omega), lN_i]
    unfold fb
    rcases rn_fm w with ⟨c, q1, q2, -⟩ | ⟨c, q1, q2, -⟩
    · rw [q1, q2]
      exact pk_andN (by have := h32 c; omega) 8 (by decide)
    · rw [q1, q2]
      exact pk_andN (by omega) 11 (by decide)
  have e2 : z = lN (ff w a) := by
    rw [ez, ey, fq_m1 (by omega)]
    exact fq_mask _ _
  rw [e1, e2]
  exact ⟨fun c => t41 31 (by unfold sb; rw [if_pos c]; rfl), fun c => t41 63 (by unfold sb; rw [if_neg c]; rfl)⟩
end TK
