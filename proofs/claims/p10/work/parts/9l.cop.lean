/-! ===== the coprocessor's instructions: what is shared ===== -/
section COP
variable {ms : Int32} {mn S : Nat} {g rg hq mf : Nat → Int32} {cd : Int32} {fg : Nat → Int32} {L O : Fr4} {dd bm rr kt : Nat → Int32} {l1 l2 : Int64} {w : Int32}
/-- the bits of a fraction in registers -/
def fbt (fg : Nat → Int32) (wd : Int32) (j : Nat) : Nat := if wd = 0 then (fg j).toBitVec.toNat else (fg (j + 1)).toBitVec.toNat * 2 ^ 32 + (fg j).toBitVec.toNat
theorem fbt_fin (fg : Nat → Int32) (wd : Int32) (j : Nat) : fin wd (fbt fg wd j) := by
  have h1 := (fg j).toBitVec.isLt
  have h2 := (fg (j + 1)).toBitVec.isLt
  unfold fin fbt
  by_cases c : wd = 0
  · rw [if_pos c]; exact ⟨by omega, fun _ => by omega⟩
  · rw [if_neg c]; exact ⟨by omega, fun q => absurd q c⟩
theorem hi32 (y : Int32) : zz_lshl y.toInt64 32 = lN (y.toBitVec.toNat * 2 ^ 32) := by
  apply fq_inj
  apply BitVec.eq_of_getLsbD_eq
  intro i hi
  rw [lshl_bit _ _ hi, fq_ltb, BitVec.getLsbD_ofNat, Nat.testBit_mul_two_pow]
  by_cases c : 32 ≤ i
  · have c2 : i - 32 < 32 := by omega
    have e : y.toInt64.toBitVec.getLsbD (i - 32) = y.toBitVec.toNat.testBit (i - 32) := by
      show (BitVec.signExtend 64 y.toBitVec).getLsbD (i - 32) = _
      rw [BitVec.getLsbD_signExtend]
      have : i - 32 < 64 := by omega
      simp [c2, this]; rfl
    rw [e]; simp [c, hi]
  · simp [c]
/-- a width, and an even register where it is wide -/
def evn (wd : Int32) (j : Nat) : Prop := wd = 0 ∨ j % 2 = 0
theorem fu_fs {P : Int32 → Prop} (h : P (fI w 11)) : wp_Fu_fs w P := fun _ e => e ▸ h
theorem fu_ft {P : Int32 → Prop} (h : P (fI w 16)) : wp_Fu_ft w P := fun _ e => e ▸ h
theorem fu_fd {P : Int32 → Prop} (h : P (fI w 6)) : wp_Fu_fd w P := fun _ e => e ▸ h
theorem fu_bits {wd k : Int32} {j : Nat} {P : Int64 → Prop} (hj : j < 32) (ej : fI w k = nI j) (he : evn wd j) (h : P (lN (fbt fg wd j))) : wp_Fu_bits cd fg L O (fI w k) wd P := by
  unfold wp_Fu_bits
  unfold fbt at h
  refine ⟨fI_in w k, fun x ex y ey => ?_⟩
  rw [ej, nI_clamp (by omega)] at ex
  subst ex
  rw [u_toN] at ey
  subst ey
  refine ⟨fun c => by rw [if_pos c] at h; exact h, fun c => ?_⟩
  have hev : j % 2 = 0 := by
    rcases he with q | q
    · exact absurd q c
    · exact q
  rw [if_neg c] at h
  have eo : fI w k ||| 1 = nI (j + 1) := by rw [ej]; exact or1_ev j hj hev
  rw [eo]
  refine ⟨vp_in_nI (by omega) (by decide), fun z ez t et => ?_⟩
  rw [nI_clamp (by omega)] at ez
  subst ez
  rw [hi32] at et
  subst et
  rw [fq_ors (fg j).toBitVec.isLt]
  exact h
theorem md_bits {wd k : Int32} {j : Nat} {P : Int64 → Prop} (hr : q_rel mn g rg hq mf cd fg dd bm rr kt) (hj : j < 32) (ej : fI w k = nI j) (he : evn wd j) (h : P (lN (fbt fg wd j))) : wp_Md_bitsOf ms dd l1 l2 bm rr kt (fI w k) wd P := by
  unfold wp_Md_bitsOf
  unfold fbt at h
  have e34 : (34 : Int32) + fI w k = nI (34 + j) := by rw [ej, show (34 : Int32) = nI 34 from rfl, nI_add]
  have e35 : (35 : Int32) + fI w k = nI (35 + j) := by rw [ej, show (35 : Int32) = nI 35 from rfl, nI_add]
  rw [e34, e35]
  have i34 : vp_in (nI (34 + j)) 67 := vp_in_nI (by omega) (by decide)
  refine ⟨fun c => ⟨i34, fun x ex y ey => ?_⟩, fun c => ?_⟩
  · rw [if_pos c] at h
    rw [nI_clamp (by omega), hr.2.2.2.2.1 j hj] at ex
    subst ex
    rw [u_toN] at ey
    subst ey
    exact h
  · have hev : j % 2 = 0 := by
      rcases he with q | q
      · exact absurd q c
      · exact q
    rw [if_neg c] at h
    refine ⟨vp_in_nI (by omega) (by decide), fun z ez t et => ⟨i34, fun x ex y ey => ?_⟩⟩
    rw [nI_clamp (by omega), show 35 + j = 34 + (j + 1) by omega, hr.2.2.2.2.1 (j + 1) (by omega)] at ez
    rw [nI_clamp (by omega), hr.2.2.2.2.1 j hj] at ex
    subst ez
    subst ex
    rw [hi32] at et
    rw [u_toN] at ey
    subst et
    subst ey
    rw [fq_ors (fg j).toBitVec.isLt]
    exact h
/-- a result in registers -/
def fgR (fg : Nat → Int32) (wd : Int32) (j : Nat) (B : Int64) : Nat → Int32 := if wd = 0 then upd fg j B.toInt32 else upd (upd fg j B.toInt32) (j + 1) (zz_lushr B 32).toInt32
def rrR (rr : Nat → Int32) (wd : Int32) (j : Nat) (B : Int64) : Nat → Int32 := if wd = 0 then upd rr (34 + j) B.toInt32 else upd (upd rr (34 + j) B.toInt32) (35 + j) (zz_lushr B 32).toInt32
theorem q_fgR {wd : Int32} {j : Nat} {B : Int64} (hj : j < 32) (he : evn wd j) (h : q_rel mn g rg hq mf cd fg dd bm rr kt) : q_rel mn g rg hq mf cd (fgR fg wd j B) dd bm (rrR rr wd j B) kt := by
  unfold fgR rrR
  by_cases c : wd = 0
  · rw [if_pos c, if_pos c]; exact q_fg hj h
  · have hev : j % 2 = 0 := by
      rcases he with q | q
      · exact absurd q c
      · exact q
    rw [if_neg c, if_neg c]
    exact q_fg2 (by omega) (q_fg hj h)
theorem fu_result {wd : Int32} {j : Nat} {B : Int64} {P : Int32 → (Int32 × (Nat → Int32) × Fr4 × Fr4) → Prop} (hj : j < 32) (ej : fI w 6 = nI j) (he : evn wd j) (h : P 0 (cd, fgR fg wd j B, L, O)) : wp_Fu_result cd fg L O w B wd P := by
  unfold wp_Fu_result
  unfold fgR at h
  refine fu_fd ?_
  rw [ej, nI_clamp (by omega)]
  refine ⟨vp_in_nI hj (by decide), fun c => by rw [if_pos c] at h; exact h, fun c => fu_fd (fun z ez => ?_)⟩
  rw [ej]
  have hev : j % 2 = 0 := by
    rcases he with q | q
    · exact absurd q c
    · exact q
  rw [if_neg c] at h
  rw [or1_ev j hj hev, nI_clamp (by omega)]
  subst ez
  exact ⟨vp_in_nI (by omega) (by decide), h⟩
theorem md_put {wd : Int32} {j : Nat} {B : Int64} {P : MdT → Prop} (h5 : dd 5 = 0) (hj : j < 32) (ej : fI w 6 = nI j) (he : evn wd j) (h : P (dd, l1, l2, bm, rrR rr wd j B, kt)) : wp_Md_put_IZJV ms dd l1 l2 bm rr kt (fI w 6) wd B P := by
  unfold wp_Md_put_IZJV
  unfold rrR at h
  have e34 : (34 : Int32) + fI w 6 = nI (34 + j) := by rw [ej, show (34 : Int32) = nI 34 from rfl, nI_add]
  have e35 : (35 : Int32) + fI w 6 = nI (35 + j) := by rw [ej, show (35 : Int32) = nI 35 from rfl, nI_add]
  rw [e34, e35, nI_clamp (by omega)]
  refine bq_t (by rw [h5]; decide) ⟨vp_in_nI (by omega) (by decide), fun c => by rw [if_pos c] at h; exact h, fun c x ex => ?_⟩
  have hev : j % 2 = 0 := by
    rcases he with q | q
    · exact absurd q c
    · exact q
  rw [if_neg c] at h
  rw [nI_clamp (by omega)]
  rw [← hi_eq] at ex
  subst ex
  exact ⟨vp_in_nI (by omega) (by decide), h⟩
theorem or_n (a b : Nat) : nI a ||| nI b = nI (a ||| b) := by
  apply Int32.toBitVec_inj.mp
  rw [Int32.toBitVec_or]
  show BitVec.ofNat 32 a ||| BitVec.ofNat 32 b = BitVec.ofNat 32 (a ||| b)
  rw [BitVec.ofNat_or]
theorem or_ev (a b : Nat) : (a ||| b) % 2 = 0 ↔ a % 2 = 0 ∧ b % 2 = 0 := by
  have := Nat.or_mod_two_eq_one (a := a) (b := b)
  omega
theorem or_32 {a b : Nat} (ha : a < 32) (hb : b < 32) : a ||| b < 32 := Nat.or_lt_two_pow (n := 5) ha hb
theorem fu_odd {wd : Int32} {x : Nat} {P : Int32 → Prop} (hx : x < 32) (h0 : evn wd x → P 0) (h1 : ¬ evn wd x → P 1) : wp_Fu_odd wd (nI x) P := by
  unfold wp_Fu_odd
  have e : (nI x &&& 1 = 0) ↔ x % 2 = 0 := by rw [and1_n hx, show (0 : Int32) = nI 0 from rfl, nI_eq (by omega) (by decide)]
  rw [e]
  refine ⟨fun c => h0 (Or.inl c), fun c => ⟨fun d => h0 (Or.inr d), fun d => h1 (fun q => q.elim c d)⟩⟩
theorem evn_or {wd : Int32} {a b : Nat} : evn wd (a ||| b) ↔ evn wd a ∧ evn wd b := by
  unfold evn
  rw [or_ev]
  by_cases c : wd = 0 <;> simp [c]
theorem md_evn {wd k : Int32} {j : Nat} {P : MdT → Prop} (hj : j < 32) (ej : fI w k = nI j) (he : evn wd j) (h : P (dd, l1, l2, bm, rr, kt)) : wp_Md_even ms dd l1 l2 bm rr kt wd (fI w k) P := by
  unfold wp_Md_even
  have e : (fI w k &&& 1 = 1) ↔ ¬ j % 2 = 0 := by rw [ej, and1_n hj, show (1 : Int32) = nI 1 from rfl, nI_eq (by omega) (by decide)]; omega
  rw [e]
  refine ⟨fun _ => h, fun c => ⟨fun d => ?_, fun _ => h⟩⟩
  rcases he with q | q
  · exact absurd q c
  · exact absurd q d
theorem md_odd {wd k : Int32} {j : Nat} {P : MdT → Prop} (h5 : dd 5 = 0) (hj : j < 32) (ej : fI w k = nI j) (he : ¬ evn wd j) (h : P (upd dd 5 8, l1, l2, bm, rr, kt)) : wp_Md_even ms dd l1 l2 bm rr kt wd (fI w k) P := by
  unfold wp_Md_even
  have e : (fI w k &&& 1 = 1) ↔ ¬ j % 2 = 0 := by rw [ej, and1_n hj, show (1 : Int32) = nI 1 from rfl, nI_eq (by omega) (by decide)]; omega
  rw [e]
  exact ⟨fun c => absurd (Or.inl c) he, fun c => ⟨fun _ => md_ends h5 h, fun d => absurd (Or.inr (Classical.not_not.mp d)) he⟩⟩
theorem md_evn8 {wd x : Int32} {P : MdT → Prop} (h5 : ¬ dd 5 = 0) (h : P (dd, l1, l2, bm, rr, kt)) : wp_Md_even ms dd l1 l2 bm rr kt wd x P := by
  unfold wp_Md_even
  exact ⟨fun _ => h, fun _ => ⟨fun _ => md_ends_n h5 h, fun _ => h⟩⟩
theorem lo_tr {a b c : Nat → Int32} (h : mdlo a b) (k : mdlo b c) : mdlo a c := fun j hj => (k j hj).trans (h j hj)
theorem lo_rf (a : Nat → Int32) : mdlo a a := fun _ _ => rfl
/-- an instruction of the coprocessor that is done -/
theorem pfx_fr (H : pre mn g rg hq mf cd fg w dd bm rr kt) {rg' : Nat → Int32} {cd' : Int32} {fg' rr' : Nat → Int32} (hq' : q_rel mn g rg' hq mf cd' fg' dd bm rr' kt)
    (hc : ∀ (L O : Fr4) (P : Int32 → CoT → Prop), (∀ L' O', P 0 (g, rg', hq, mf, cd', fg', L', O')) → wp_Pr_perform ms mn g rg hq mf cd fg L O w P)
    (hr : ∀ (dd : Nat → Int32) (l1 l2 : Int64), pre mn g rg hq mf cd fg w dd bm rr kt → ∀ Q : MdT → Prop, (∀ dd' l1' l2', mdlo dd dd' → Q (dd', l1', l2', bm, rr', kt)) → wp_Md_operate ms dd l1 l2 bm rr kt (zz_ushr w 26) Q) : pfx ms mn g rg hq mf cd fg w dd bm rr kt := by
  refine ⟨0, (g, rg', hq, mf, cd', fg', (0, 0, 0, 0), (0, 0, 0, 0)), (dd, 0, 0, bm, rr', kt), ⟨oc_0 hq' H.e5 H.e11 H.e12 H.e13, Or.inl (by unfold q_e; decide), rfl⟩, hc, fun dd' l1 l2 hd Q hQ => hr dd' l1 l2 (pre_lo H hd) Q (fun d2 m1 m2 h2 => hQ _ ⟨lo_tr hd h2, rfl, rfl, rfl⟩)⟩
/-! the class's methods -/
theorem fu_compute {wd f : Int32} {a b d : Nat} {P : Int32 → (Int32 × (Nat → Int32) × Fr4 × Fr4) → Prop} (hf : w &&& 63 = f) (hf4 : f = 0 ∨ f = 1 ∨ f = 2 ∨ f = 3) (ha : a < 32) (hb : b < 32) (hd : d < 32) (ea : fI w 11 = nI a) (eb : fI w 16 = nI b) (ed : fI w 6 = nI d)
    (h0 : evn wd a ∧ evn wd b ∧ evn wd d → ∀ L' O', P 0 (cd, fgR fg wd d (twoB f wd (fbt fg wd a) (fbt fg wd b)), L', O')) (h1 : ¬ (evn wd a ∧ evn wd b ∧ evn wd d) → P 8 (cd, fg, L, O)) : wp_Fu_compute cd fg L O w wd P := by
  unfold wp_Fu_compute
  refine fu_fs (fu_ft (fu_fd ?_))
  rw [ea, eb, ed, or_n, or_n]
  have hev : evn wd (a ||| b ||| d) ↔ evn wd a ∧ evn wd b ∧ evn wd d := by rw [evn_or, evn_or, and_assoc]
  refine fu_odd (or_32 (or_32 ha hb) hd) (fun he => bq_t rfl ?_) (fun he => bq_f (by decide) (h1 (fun q => he (hev.mpr q))))
  have he := hev.mp he
  have h0 := h0 he
  refine fu_fs ?_
  refine fu_bits ha ea he.1 (fr_unpack (fbt_fin fg wd a) (fun L1 o1 => ?_))
  refine fu_ft ?_
  refine fu_bits hb eb he.2.1 (fr_unpack (fbt_fin fg wd b) (fun O1 o2 => ?_))
  rw [hf]
  have bzb := fn_bz wd (fbt fg wd b)
  have fin : ∀ (B : Int64) (L' O' : Fr4), B = twoB f wd (fbt fg wd a) (fbt fg wd b) → frv wd B L' → wp_Fr_pack L' wd (fun r => wp_Fu_result cd fg L' O' w r wd P) := by
    intro B L' O' eB hv
    refine frv_pack hv (fu_result hd ed he.2.2 ?_)
    rw [eB]; exact h0 L' O'
  rcases hf4 with rfl | rfl | rfl | rfl
  · refine bq_t rfl (fr_add o1 o2 (fn_bz _ _) bzb (fun L' hv => fin _ L' O1 ?_ hv))
    rw [twoB_0]
  · refine bq_f (by decide) (bq_t rfl ?_)
    unfold wp_Fr_negate
    have neg : ∀ n, n = fneg (fn wd (fbt fg wd b)) → wp_Fr_add L1 (n, O1.2.1, O1.2.2.1, O1.2.2.2) (fun u => wp_Fr_pack u.1 wd (fun r => wp_Fu_result cd fg u.1 u.2 w r wd P)) := by
      intro n hn
      refine fr_add (na := fn wd (fbt fg wd a)) (nb := n) o1 ⟨rfl, o2.2.1, o2.2.2⟩ (fn_bz _ _) ?_ (fun L' hv => fin _ L' _ ?_ hv)
      · rw [hn]; unfold fneg zz_bz; split <;> simp
      · rw [twoB_1, hn]
    have e1 := o2.1
    exact ⟨fun c => neg 1 (by rw [← e1, c]; rfl), fun c => neg 0 (by rw [← e1]; unfold fneg; rw [if_neg c])⟩
  · refine bq_f (by decide) (bq_f (by decide) (bq_t rfl (fr_multiply o1 o2 (fun L' hv => fin _ L' O1 ?_ hv))))
    rw [twoB_2]
  · refine bq_f (by decide) (bq_f (by decide) (bq_f (by decide) (fr_divide o1 o2 (fun L' hv => fin _ L' O1 ?_ hv))))
    rw [twoB_3]
end COP
