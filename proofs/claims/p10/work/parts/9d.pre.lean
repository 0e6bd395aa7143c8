/-! ===== branches, HI and LO, leading zeros: what is shared ===== -/
section BRS
variable {ms : Int32} {mn S : Nat} {g rg hq mf : Nat → Int32} {cd : Int32} {fg : Nat → Int32} {L O : Fr4} {dd bm rr kt : Nat → Int32} {l1 l2 : Int64} {w : Int32}
def bu (g : Nat → Int32) (goes lik t : Int32) : Nat → Int32 := if goes = 0 then (if lik = 0 then upd (upd (upd g 0 (g 1)) 1 (g 1 + 4)) 2 1 else upd (upd (upd (upd g 11 (g 11 + 1)) 0 (g 1 + 4)) 1 (g 1 + 8)) 2 0) else upd (upd (upd (upd g 10 (g 10 + 1)) 0 (g 1)) 1 t) 2 1
def bd (dd : Nat → Int32) (goes lik t : Int32) : Nat → Int32 := upd (upd (upd (upd dd 12 1) 11 goes) 10 t) 13 (if goes = 0 ∧ ¬ lik = 0 then 1 else 0)
theorem oc_br {goes lik t : Int32} (hb : zz_bz goes) (h : q_rel mn g rg hq mf cd fg dd bm rr kt) (h5 : dd 5 = 0) : oc mn (-1) (bu g goes lik t, rg, hq, mf, cd, fg, L, O) (bd dd goes lik t, l1, l2, bm, rr, kt) := by
  unfold bu bd
  rcases hb with rfl | rfl
  · rw [if_pos rfl]
    by_cases c : lik = 0
    · rw [if_pos c, if_neg (fun q => q.2 c)]; exact oc_nt h h5
    · rw [if_neg c, if_pos ⟨rfl, c⟩]; exact oc_lk h h5
  · rw [if_neg (by decide), if_neg (fun q => absurd q.1 (by decide))]; exact oc_go h h5
theorem pr_leave {t : Int32} {P : Int32 → CoT → Prop} (h : P (-1) (upd (upd (upd (upd g 10 (g 10 + 1)) 0 (g 1)) 1 t) 2 1, rg, hq, mf, cd, fg, L, O)) : wp_Pr_leave ms mn g rg hq mf cd fg L O t P := by
  unfold wp_Pr_leave wp_Pr_move
  exact fun x ex => ⟨Or.inr rfl, by subst ex; exact h⟩
theorem pr_branch {goes lik : Int32} {P : Int32 → CoT → Prop} (h : P (-1) (bu g goes lik (g 1 + zz_shl w.toInt16.toInt32 2), rg, hq, mf, cd, fg, L, O)) : wp_Pr_branch ms mn g rg hq mf cd fg L O w goes lik P := by
  unfold wp_Pr_branch wp_Pr_move wp_Pr_signed
  unfold bu at h
  refine ⟨fun c => ⟨fun d => ⟨Or.inr rfl, ?_⟩, fun d x ex => ⟨Or.inl rfl, ?_⟩⟩, fun c x ex => ?_⟩
  · rw [if_pos c, if_pos d] at h; exact h
  · rw [if_pos c, if_neg d] at h; subst ex; exact h
  · rw [if_neg c] at h; subst ex; exact pr_leave h
theorem md_jumps {goes lik t : Int32} {P : MdT → Prop} (h6 : dd 6 = 0) (hb : zz_bz goes) (h : P (bd dd goes lik t, l1, l2, bm, rr, kt)) : wp_Md_jumps ms dd l1 l2 bm rr kt goes t lik P := by
  unfold wp_Md_jumps
  unfold bd at h
  refine ⟨fun _ => ⟨hb, fun c => ?_, fun c => ⟨fun d => ?_, fun d => ?_⟩⟩, fun q => absurd h6 q⟩
  · rw [if_neg (fun q => q.2 c)] at h; exact h
  · rw [if_pos ⟨d, c⟩] at h; exact h
  · rw [if_neg (fun q => d q.1)] at h; exact h
theorem md_jumps_s {goes lik t : Int32} {P : MdT → Prop} (h6 : ¬ dd 6 = 0) (h5 : dd 5 = 0) (h : P (upd dd 5 8, l1, l2, bm, rr, kt)) : wp_Md_jumps ms dd l1 l2 bm rr kt goes t lik P := ⟨fun q => absurd q h6, fun _ => md_ends h5 h⟩
/-- after an end nothing more is seen of it -/
theorem md_jumps_e {goes lik t : Int32} {P : MdT → Prop} (h5 : ¬ dd 5 = 0) (hb : zz_bz goes) (h : ∀ dd', (∀ j, j < 10 → dd' j = dd j) → P (dd', l1, l2, bm, rr, kt)) : wp_Md_jumps ms dd l1 l2 bm rr kt goes t lik P := by
  unfold wp_Md_jumps
  have k : ∀ a b c d : Int32, ∀ j, j < 10 → upd (upd (upd (upd dd 12 a) 11 b) 10 c) 13 d j = dd j := fun a b c d j hj => by
    rw [pk_un (by omega), pk_un (by omega), pk_un (by omega), pk_un (by omega)]
  exact ⟨fun _ => ⟨hb, fun _ => h _ (k _ _ _ _), fun _ => ⟨fun _ => h _ (k _ _ _ _), fun _ => h _ (k _ _ _ _)⟩⟩, fun _ => md_ends_n h5 (h _ (fun _ _ => rfl))⟩
theorem md_near {P : Int32 → Prop} (e9 : dd 9 = w) (e3 : dd 3 + 4 = g 1) (h : P (g 1 + zz_shl w.toInt16.toInt32 2)) : wp_Md_near ms dd l1 l2 bm rr kt P := by
  unfold wp_Md_near
  refine md_offset e9 (fun x ex => ?_)
  rw [ex, e3]; exact h
theorem q_u31 {v : Int32} (h : q_rel mn g rg hq mf cd fg dd bm rr kt) : q_rel mn g (upd rg 31 v) hq mf cd fg dd bm (upd rr 31 v) kt := by
  obtain ⟨r1, r2, r3, r4, r5, r6, r7, r8, r9⟩ := h
  refine ⟨fun j hj => ?_, r2, r3, r4, fun j hj => ?_, r6, r7, r8, r9⟩
  · by_cases c : j = 31
    · subst c; rw [pk_us, pk_us]
    · rw [pk_un c, pk_un c]; exact r1 j hj
  · rw [pk_un (by omega)]; exact r5 j hj
/-! HI and LO -/
theorem q_hi {v : Int32} (h : q_rel mn g rg hq mf cd fg dd bm rr kt) : q_rel mn g rg (upd (upd hq 0 v) 2 1) mf cd fg (upd dd 1 1) bm (upd rr 32 v) kt := by
  obtain ⟨r1, r2, r3, r4, r5, r6, r7, r8, r9⟩ := h
  refine ⟨fun j hj => ?_, r2, ⟨Or.inr rfl, rfl, fun q => absurd (show (1 : Int32) = 0 from q) (by decide), fun _ => rfl⟩, r4, fun j hj => ?_, r6, r7, r8, r9⟩
  · rw [pk_un (by omega)]; exact r1 j hj
  · rw [pk_un (by omega)]; exact r5 j hj
theorem q_lo {v : Int32} (h : q_rel mn g rg hq mf cd fg dd bm rr kt) : q_rel mn g rg (upd (upd hq 1 v) 3 1) mf cd fg (upd dd 2 1) bm (upd rr 33 v) kt := by
  obtain ⟨r1, r2, r3, r4, r5, r6, r7, r8, r9⟩ := h
  refine ⟨fun j hj => ?_, r2, r3, ⟨Or.inr rfl, rfl, fun q => absurd (show (1 : Int32) = 0 from q) (by decide), fun _ => rfl⟩, fun j hj => ?_, r6, r7, r8, r9⟩
  · rw [pk_un (by omega)]; exact r1 j hj
  · rw [pk_un (by omega)]; exact r5 j hj
/-- what HI and LO become -/
def hlw (hq : Nat → Int32) (a b : Int32) : Nat → Int32 := upd (upd (upd (upd hq 0 a) 2 1) 1 b) 3 1
def hlf (hq : Nat → Int32) : Nat → Int32 := upd (upd (upd (upd hq 0 0) 1 0) 2 0) 3 0
theorem q_both {a b : Int32} (h : q_rel mn g rg hq mf cd fg dd bm rr kt) : q_rel mn g rg (hlw hq a b) mf cd fg (upd (upd dd 1 1) 2 1) bm (upd (upd rr 32 a) 33 b) kt := q_lo (q_hi h)
theorem q_forget (h : q_rel mn g rg hq mf cd fg dd bm rr kt) : q_rel mn g rg (hlf hq) mf cd fg (upd (upd dd 1 0) 2 0) bm rr kt := by
  obtain ⟨r1, r2, r3, r4, r5, r6, r7, r8, r9⟩ := h
  exact ⟨r1, r2, ⟨Or.inl rfl, rfl, fun _ => rfl, fun q => absurd rfl q⟩, ⟨Or.inl rfl, rfl, fun _ => rfl, fun q => absurd rfl q⟩, r5, r6, r7, r8, r9⟩
theorem hl_keep {v : Int64} {P : (Nat → Int32) → Prop} (h : P (hlw hq (zz_lushr v 32).toInt32 v.toInt32)) : wp_Hl_keep hq v P := by
  unfold wp_Hl_keep wp_Hl_keepHi wp_Hl_keepLo
  exact fun x ex => by subst ex; exact h
theorem md_both {v : Int64} {P : MdT → Prop} (h : P (upd (upd dd 1 1) 2 1, l1, l2, bm, upd (upd rr 32 (zz_lshr v 32).toInt32) 33 v.toInt32, kt)) : wp_Md_both ms dd l1 l2 bm rr kt v P := by
  unfold wp_Md_both
  exact fun x ex => ⟨by unfold vp_in; decide, by unfold vp_in; decide, by subst ex; exact h⟩
theorem l32_bit (v : Int64) (i : Nat) (hi : i < 32) : v.toInt32.toBitVec.getLsbD i = v.toBitVec.getLsbD i := by
  show (BitVec.signExtend 32 v.toBitVec).getLsbD i = _
  rw [BitVec.getLsbD_signExtend]
  have : i < 64 := by omega
  simp [hi, this]
theorem i_ext {a b : Int32} (h : ∀ i, i < 32 → a.toBitVec.getLsbD i = b.toBitVec.getLsbD i) : a = b := Int32.toBitVec_inj.mp (BitVec.eq_of_getLsbD_eq (fun i hi => h i hi))
theorem lshr_bit (v : Int64) (i : Nat) (hi : i < 32) : (zz_lshr v 32).toBitVec.getLsbD i = v.toBitVec.getLsbD (i + 32) := by
  unfold zz_lshr
  show (v.toBitVec.sshiftRight (((32 : Int32).toInt64 &&& 63).toBitVec.smod 64).toNat).getLsbD i = _
  rw [show (((32 : Int32).toInt64 &&& 63).toBitVec.smod 64).toNat = 32 by decide, BitVec.getLsbD_sshiftRight]
  have h1 : ¬ 64 ≤ i := by omega
  have h2 : 32 + i < 64 := by omega
  have h3 : ¬ 32 ≤ i := by omega
  simp [h1, h2, h3, Nat.add_comm]
theorem lushr_bit (v : Int64) (i : Nat) : (zz_lushr v 32).toBitVec.getLsbD i = v.toBitVec.getLsbD (i + 32) := by
  unfold zz_lushr
  show (v.toUInt64 >>> ((32 : Int32).toInt64.toUInt64 &&& Int64.toUInt64 63)).toBitVec.getLsbD i = _
  rw [UInt64.toBitVec_shiftRight, show ((32 : Int32).toInt64.toUInt64 &&& Int64.toUInt64 63).toBitVec % 64 = 32#64 by decide]
  show (v.toBitVec >>> (32#64).toNat).getLsbD i = _
  rw [BitVec.getLsbD_ushiftRight]
  simp [Nat.add_comm]
theorem lshl_bit (v : Int64) (i : Nat) (hi : i < 64) : (zz_lshl v 32).toBitVec.getLsbD i = (decide (32 ≤ i) && v.toBitVec.getLsbD (i - 32)) := by
  unfold zz_lshl
  rw [Int64.toBitVec_shiftLeft, show ((32 : Int32).toInt64 &&& 63).toBitVec.smod 64 = 32#64 by decide]
  show (v.toBitVec <<< (32#64).toNat).getLsbD i = _
  rw [BitVec.getLsbD_shiftLeft]
  have e : (32#64).toNat = 32 := by decide
  rw [e]
  by_cases c : i < 32
  · have : ¬ 32 ≤ i := by omega
    simp [c, this]
  · have : 32 ≤ i := by omega
    simp [c, this, hi]
theorem hi_eq (v : Int64) : (zz_lushr v 32).toInt32 = (zz_lshr v 32).toInt32 := by
  apply i_ext
  intro i hi
  rw [l32_bit _ _ hi, l32_bit _ _ hi, lshr_bit _ _ hi, lushr_bit]
theorem m32_bit (y : Int64) (i : Nat) (hi : i < 64) : (y &&& (4294967295 : Int64)).toBitVec.getLsbD i = (decide (i < 32) && y.toBitVec.getLsbD i) := by
  rw [Int64.toBitVec_and, BitVec.getLsbD_and, m32, fq_ltb, BitVec.getLsbD_ofNat, Nat.testBit_two_pow_sub_one]
  simp [hi, Bool.and_comm]
/-- two halves put together, and taken apart again -/
theorem cat_hi (x y : Int64) : (zz_lshr (zz_lshl x 32 ||| (y &&& (4294967295 : Int64))) 32).toInt32 = x.toInt32 := by
  apply i_ext
  intro i hi
  have h1 : i + 32 < 64 := by omega
  have h2 : ¬ i + 32 < 32 := by omega
  rw [l32_bit _ _ hi, lshr_bit _ _ hi, Int64.toBitVec_or, BitVec.getLsbD_or, lshl_bit _ _ h1, m32_bit _ _ h1, l32_bit _ _ hi]
  simp [h2]
theorem cat_lo (x y : Int64) : (zz_lshl x 32 ||| (y &&& (4294967295 : Int64))).toInt32 = y.toInt32 := by
  apply i_ext
  intro i hi
  have h1 : i < 64 := by omega
  have h2 : ¬ 32 ≤ i := by omega
  rw [l32_bit _ _ hi, Int64.toBitVec_or, BitVec.getLsbD_or, lshl_bit _ _ h1, m32_bit _ _ h1, l32_bit _ _ hi]
  simp [h2, hi]
/-! conditions -/
def cnd (cd w : Int32) : Prop := (zz_ushr cd (zz_ushr w 18 &&& 7) &&& 1) = (zz_ushr w 16 &&& 1)
theorem sh_cd {cd k : Int32} (hc : cd &&& 255 = cd) (hk : ∃ j : Nat, j < 8 ∧ k = nI j) : zz_shr cd k = zz_ushr cd k := by
  obtain ⟨c, hc1, hc2⟩ := pk_andE cd (m := 255) 8 (by decide)
  rw [hc] at hc2
  obtain ⟨j, hj, rfl⟩ := hk
  subst hc2
  unfold zz_shr zz_ushr
  have : j = 0 ∨ j = 1 ∨ j = 2 ∨ j = 3 ∨ j = 4 ∨ j = 5 ∨ j = 6 ∨ j = 7 := by omega
  rcases this with rfl | rfl | rfl | rfl | rfl | rfl | rfl | rfl
  · rw [pk_shrN (by omega) _ 0 (by decide), pk_ushrN (by omega) _ 0 (by decide)]
  · rw [pk_shrN (by omega) _ 1 (by decide), pk_ushrN (by omega) _ 1 (by decide)]
  · rw [pk_shrN (by omega) _ 2 (by decide), pk_ushrN (by omega) _ 2 (by decide)]
  · rw [pk_shrN (by omega) _ 3 (by decide), pk_ushrN (by omega) _ 3 (by decide)]
  · rw [pk_shrN (by omega) _ 4 (by decide), pk_ushrN (by omega) _ 4 (by decide)]
  · rw [pk_shrN (by omega) _ 5 (by decide), pk_ushrN (by omega) _ 5 (by decide)]
  · rw [pk_shrN (by omega) _ 6 (by decide), pk_ushrN (by omega) _ 6 (by decide)]
  · rw [pk_shrN (by omega) _ 7 (by decide), pk_ushrN (by omega) _ 7 (by decide)]
theorem fu_cond {P : Int32 → Prop} (h1 : cnd cd w → P 1) (h0 : ¬ cnd cd w → P 0) : wp_Fu_conditionAsAsked cd fg L O w P := by
  unfold wp_Fu_conditionAsAsked
  intro x ex y ey z ez
  subst ex; subst ey; subst ez
  exact ⟨h1, h0⟩
theorem md_cnd (H : pre mn g rg hq mf cd fg w dd bm rr kt) : ((zz_shr (rr 66) (zz_ushr (dd 9) 18 &&& 7) &&& 1) = (zz_ushr (dd 9) 16 &&& 1)) ↔ cnd cd w := by
  rw [H.e9, H.rel.2.2.2.2.2.1.1, sh_cd H.rel.2.2.2.2.2.1.2 (pk_andE _ 3 (by decide))]
  rfl
end BRS
