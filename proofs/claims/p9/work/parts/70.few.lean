/-! ===== the pure side: what the class's state and the reference's state have to do with each other ===== -/
abbrev Fr4 : Type := Int32 × Int32 × Int32 × Int64
/-- four bytes as a word, the highest first -/
def q_word (bm : Nat → Int32) (k : Nat) : Int32 := (zz_shl ((zz_shl ((zz_shl ((zz_shl 0 8) ||| (bm (4 * k) &&& 255)) 8) ||| (bm (4 * k + 1) &&& 255)) 8) ||| (bm (4 * k + 2) &&& 255)) 8) ||| (bm (4 * k + 3) &&& 255)
/-- registers, HI and LO (what is unknown is 0 in the class, anything in the reference), fractions, conditions, the way, the counts, memory -/
def q_rel (mn : Nat) (g rg hq mf : Nat → Int32) (cd : Int32) (fg dd bm rr kt : Nat → Int32) : Prop :=
  (∀ j, j < 32 → rr j = rg j) ∧ rg 0 = 0 ∧
  (zz_bz (hq 2) ∧ dd 1 = hq 2 ∧ (hq 2 = 0 → hq 0 = 0) ∧ (¬ hq 2 = 0 → rr 32 = hq 0)) ∧ (zz_bz (hq 3) ∧ dd 2 = hq 3 ∧ (hq 3 = 0 → hq 1 = 0) ∧ (¬ hq 3 = 0 → rr 33 = hq 1)) ∧
  (∀ j, j < 32 → rr (34 + j) = fg j) ∧ (rr 66 = cd ∧ cd &&& 255 = cd) ∧
  (dd 3 = g 0 ∧ dd 4 = g 1 ∧ dd 5 = g 5 ∧ dd 6 = g 2 ∧ zz_bz (g 2) ∧ dd 7 = g 3 ∧ zz_bz (g 3) ∧ (¬ g 3 = 0 → dd 8 = g 4)) ∧
  (kt 0 = g 7 ∧ kt 1 = g 8 ∧ kt 2 = g 9 ∧ kt 3 = g 10 ∧ kt 4 = g 11) ∧
  (∀ k, k < mn → mf k = q_word bm k)
section QM
variable {ms : Int32} {mn S : Nat} {g rg hq mf : Nat → Int32} {cd : Int32} {fg : Nat → Int32} {L O : Fr4} {ov : Nat → Int64} {dd bm rr kt : Nat → Int32} {l1 l2 : Int64} {a0 a1 : Int32}
/-! ===== memory: good addresses, words ===== -/
/-- an address that is good for so many bytes -/
def q_gd (S k : Nat) (a0 : Int32) : Prop := ∃ a : Nat, a0 = nI a ∧ a + k ≤ S ∧ a % k = 0
def q_k (k : Nat) : Prop := k = 1 ∨ k = 2 ∨ k = 4 ∨ k = 8
theorem and_k {k a : Nat} (hk : q_k k) (ha : a < 2 ^ 31) : nI a &&& (nI k - 1) = nI (a % k) := by
  rcases hk with rfl | rfl | rfl | rfl
  · exact pk_andN (by omega) 0 (by decide)
  · exact pk_andN (by omega) 1 (by decide)
  · exact pk_andN (by omega) 2 (by decide)
  · exact pk_andN (by omega) 3 (by decide)
theorem me_good {P : Int32 → Prop} {k : Nat} (hk : q_k k) (hS : S ≤ 262144) (hS8 : 8 ≤ S) (hms : ms = nI S) (h1 : q_gd S k a0 → P 1) (h2 : ¬ q_gd S k a0 → P 0) : wp_Me_good ms mn mf a0 (nI k) P := by
  have hk8 : 1 ≤ k ∧ k ≤ 8 := by rcases hk with rfl | rfl | rfl | rfl <;> omega
  unfold wp_Me_good
  rw [hms, pk_sub (a := S) (b := k) (by omega)]
  refine ⟨fun c => h2 ?_, fun c => ?_⟩
  · rintro ⟨a, rfl, ha, -⟩
    exact nI_pos (by omega) c
  · obtain ⟨a, ha, rfl⟩ := nI_of c
    rw [and_k hk ha, nI_ltI (by omega) ha, show (0 : Int32) = nI 0 from rfl, nI_eq (Nat.lt_of_le_of_lt (Nat.mod_le a k) ha) (by decide)]
    refine ⟨fun d => h2 ?_, fun d => ⟨fun e => h1 ⟨a, rfl, by omega, e⟩, fun e => h2 ?_⟩⟩
    · rintro ⟨b, hb, hb1, -⟩
      have e1 : a = b := (nI_eq ha (by omega)).mp hb
      omega
    · rintro ⟨b, hb, hb1, hb2⟩
      have e1 : a = b := (nI_eq ha (by omega)).mp hb
      exact e (by rw [e1]; exact hb2)
theorem md_good {P : Int32 → Prop} {k : Nat} (hk : q_k k) (hS : S ≤ 262144) (hS8 : 8 ≤ S) (hms : ms = nI S) (h1 : q_gd S k a0 → P 1) (h2 : ¬ q_gd S k a0 → P 0) : wp_Md_good ms dd l1 l2 bm rr kt a0 (nI k) P := by
  have hk8 : 1 ≤ k ∧ k ≤ 8 := by rcases hk with rfl | rfl | rfl | rfl <;> omega
  unfold wp_Md_good
  rw [hms, pk_sub (a := S) (b := k) (by omega)]
  refine ⟨fun c => h2 ?_, fun c => ⟨nI_ne0 (by omega) (by omega), ?_⟩⟩
  · rintro ⟨a, rfl, ha, -⟩
    exact nI_pos (by omega) c
  · obtain ⟨a, ha, rfl⟩ := nI_of c
    rw [pk_rem ha (by omega) (by omega), nI_ltI (by omega) ha, show (0 : Int32) = nI 0 from rfl, nI_eq (Nat.lt_of_le_of_lt (Nat.mod_le a k) ha) (by decide)]
    refine ⟨fun e => ⟨fun d => h2 ?_, fun d => h1 ⟨a, rfl, by omega, e⟩⟩, fun e => h2 ?_⟩
    · rintro ⟨b, hb, hb1, -⟩
      have e1 : a = b := (nI_eq ha (by omega)).mp hb
      omega
    · rintro ⟨b, hb, hb1, hb2⟩
      have e1 : a = b := (nI_eq ha (by omega)).mp hb
      exact e (by rw [e1]; exact hb2)
theorem ushr2 {a : Nat} (ha : a < 2 ^ 31) : zz_ushr (nI a) 2 = nI (a / 4) := pk_ushrN (n := a) (by omega) 2 2 (by decide)
theorem and3 {a : Nat} (ha : a < 2 ^ 31) : nI a &&& 3 = nI (a % 4) := pk_andN (by omega) 2 (by decide)
theorem ushr_0 (x : Int32) : zz_ushr x 0 = x := by
  apply Int32.toBitVec_inj.mp
  apply BitVec.eq_of_toNat_eq
  unfold zz_ushr
  rw [pk_ushr x 0 0 (by decide)]
  simp
theorem and_m1 (x : Int32) : x &&& (-1) = x := by
  apply Int32.toBitVec_inj.mp
  show x.toBitVec &&& BitVec.allOnes 32 = x.toBitVec
  exact BitVec.and_allOnes
/-- a word that is read -/
theorem me_read4 {P : Int32 → Prop} {a : Nat} (ha : a + 4 ≤ S) (h4 : a % 4 = 0) (hS : S ≤ 262144) (hmn : mn = S / 4) (h : P (mf (a / 4))) : wp_Me_read ms mn mf (nI a) 4 P := by
  unfold wp_Me_read wp_Me_shift wp_Me_mask
  rw [ushr2 (by omega), and3 (by omega), h4]
  refine ⟨vp_in_nI (by omega) (by omega), fun x ex y ey z ez => ?_⟩
  rw [nI_clamp (by omega)] at ex
  have e1 : y * 8 = 0 := by rw [ey]; decide
  have e2 : zz_ushr (-1) z = -1 := by rw [ez]; decide
  rw [e1, e2, ushr_0, and_m1, ex]
  exact h
/-- four bytes that are read -/
theorem md_part4 {P : Int32 → Prop} {a : Nat} (ha : a + 4 ≤ S) (h4 : a % 4 = 0) (hS : S ≤ 262144) (h : P (q_word bm (a / 4))) : wp_Md_part ms dd l1 l2 bm rr kt (nI a) 4 P := by
  have ea : 4 * (a / 4) = a := by omega
  refine ⟨5, ?_⟩
  have c0 : ∀ j : Nat, j ≤ 3 → nI a + nI j = nI (a + j) := fun j _ => nI_add a j
  have hin : ∀ j : Nat, j ≤ 3 → vp_in (nI (a + j)) 262144 := fun j hj => vp_in_nI (by omega) (by decide)
  rw [wl_Md_part_5]
  refine ⟨fun c => absurd c (by decide), fun _ => ?_⟩
  rw [show (0 : Int32) = nI 0 from rfl, c0 0 (by decide), nI_clamp (by omega)]
  refine ⟨hin 0 (by decide), fun x0 e0 y0 f0 z0 g0 => ?_⟩
  have k0 : z0 = nI 1 := g0.trans (by decide)
  subst k0
  rw [wl_Md_part_5]
  refine ⟨fun c => absurd c (by decide), fun _ => ?_⟩
  rw [c0 1 (by decide), nI_clamp (by omega)]
  refine ⟨hin 1 (by decide), fun x1 e1 y1 f1 z1 g1 => ?_⟩
  have k1 : z1 = nI 2 := g1.trans (by decide)
  subst k1
  rw [wl_Md_part_5]
  refine ⟨fun c => absurd c (by decide), fun _ => ?_⟩
  rw [c0 2 (by decide), nI_clamp (by omega)]
  refine ⟨hin 2 (by decide), fun x2 e2 y2 f2 z2 g2 => ?_⟩
  have k2 : z2 = nI 3 := g2.trans (by decide)
  subst k2
  rw [wl_Md_part_5]
  refine ⟨fun c => absurd c (by decide), fun _ => ?_⟩
  rw [c0 3 (by decide), nI_clamp (by omega)]
  refine ⟨hin 3 (by decide), fun x3 e3 y3 f3 z3 g3 => ?_⟩
  have k3 : z3 = nI 4 := g3.trans (by decide)
  subst k3
  rw [wl_Md_part_5]
  refine ⟨fun _ => ?_, fun c => absurd (by decide) c⟩
  have e : y3 = q_word bm (a / 4) := by
    unfold q_word
    rw [ea, f3, f2, f1, f0, e0, e1, e2, e3]
    rfl
  rw [e]
  exact h
end QM
section TK
variable {ms : Int32} {dd bm rr kt : Nat → Int32} {l1 l2 : Int64}
abbrev MdT : Type := (Nat → Int32) × Int64 × Int64 × (Nat → Int32) × (Nat → Int32) × (Nat → Int32)
end TK
section MO
variable {ms : Int32} {dd bm rr kt : Nat → Int32} {l1 l2 : Int64}
/-- what all these leave of the reference's scalars -/
def mdlo (dd dd' : Nat → Int32) : Prop := ∀ j, j < 14 → dd' j = dd j
end MO
/-! ===== one step of both: what is to be kept ===== -/
abbrev CoT : Type := (Nat → Int32) × (Nat → Int32) × (Nat → Int32) × (Nat → Int32) × Int32 × (Nat → Int32) × Fr4 × Fr4
/-- the relation, and that outside a slot the next instruction is the one behind -/
def q_st (mn : Nat) (u : CoT) (v : MdT) : Prop := q_rel mn u.1 u.2.1 u.2.2.1 u.2.2.2.1 u.2.2.2.2.1 u.2.2.2.2.2.1 v.1 v.2.2.2.1 v.2.2.2.2.1 v.2.2.2.2.2 ∧ (u.1 2 = 0 → u.1 1 = u.1 0 + 4)
def q_e (r : Int32) : Prop := r = 1 ∨ r = 2 ∨ r = 3 ∨ r = 4 ∨ r = 5 ∨ r = 6 ∨ r = 7 ∨ r = 8
def mvd (dd : Nat → Int32) : Nat → Int32 := if dd 13 = 0 then upd (upd (upd dd 4 (if dd 11 = 0 then dd 4 + 4 else dd 10)) 3 (dd 4)) 6 (dd 12) else upd (upd (upd dd 3 (dd 4 + 4)) 4 (dd 4 + 8)) 6 0
def mvk (dd kt : Nat → Int32) : Nat → Int32 := if dd 13 = 0 then upd (upd kt 0 (kt 0 + 1)) 3 (kt 3 + (if dd 11 = 0 then 0 else 1)) else upd (upd kt 0 (kt 0 + 1)) 4 (kt 4 + 1)
/-- how an instruction comes out: an end, done, or moved -/
def oc (mn : Nat) (r : Int32) (u : CoT) (v : MdT) : Prop :=
  (q_e r ∧ v.1 5 = r ∧ q_st mn (upd u.1 5 r, u.2) v) ∨
  (r = 0 ∧ v.1 5 = 0 ∧ zz_bz (v.1 12) ∧ q_st mn (upd (upd (upd (upd u.1 0 (u.1 1)) 1 (u.1 1 + 4)) 2 0) 7 (u.1 7 + 1), u.2) (mvd v.1, v.2.1, v.2.2.1, v.2.2.2.1, v.2.2.2.2.1, mvk v.1 v.2.2.2.2.2)) ∨
  (r = -1 ∧ v.1 5 = 0 ∧ zz_bz (v.1 12) ∧ q_st mn (upd u.1 7 (u.1 7 + 1), u.2) (mvd v.1, v.2.1, v.2.2.1, v.2.2.2.1, v.2.2.2.2.1, mvk v.1 v.2.2.2.2.2))
section PRE
variable {ms : Int32} {mn S : Nat} {g rg hq mf : Nat → Int32} {cd : Int32} {fg : Nat → Int32} {L O : Fr4} {dd bm rr kt : Nat → Int32} {l1 l2 : Int64} {w : Int32}
/-- what all these leave of the reference's scalars is the same, and memory, registers, counts -/
def vsim (v v' : MdT) : Prop := mdlo v.1 v'.1 ∧ v'.2.2.2.1 = v.2.2.2.1 ∧ v'.2.2.2.2.1 = v.2.2.2.2.1 ∧ v'.2.2.2.2.2 = v.2.2.2.2.2
theorem lo_upd {a b : Nat → Int32} {k : Nat} {x : Int32} (h : mdlo a b) : mdlo (upd a k x) (upd b k x) := by
  intro j hj
  by_cases c : j = k
  · subst c; rw [pk_us, pk_us]
  · rw [pk_un c, pk_un c]; exact h j hj
/-- an instruction: what both come to (the class's fractions at work and the reference's are not told) -/
def pfx (ms : Int32) (mn : Nat) (g rg hq mf : Nat → Int32) (cd : Int32) (fg : Nat → Int32) (w : Int32) (dd : Nat → Int32) (bm rr kt : Nat → Int32) : Prop :=
  ∃ (r : Int32) (u : CoT) (v : MdT), (oc mn r u v ∧ (¬ q_e r ∨ u.1 0 = g 0) ∧ v.1 0 = dd 0) ∧ (∀ (L O : Fr4) (P : Int32 → CoT → Prop), (∀ L' O', P r (u.1, u.2.1, u.2.2.1, u.2.2.2.1, u.2.2.2.2.1, u.2.2.2.2.2.1, L', O')) → wp_Pr_perform ms mn g rg hq mf cd fg L O w P) ∧ (∀ (dd' : Nat → Int32) (l1 l2 : Int64), mdlo dd dd' → ∀ Q : MdT → Prop, (∀ v', vsim v v' → Q v') → wp_Md_operate ms dd' l1 l2 bm rr kt (zz_ushr w 26) Q)
/-- what holds as an instruction begins -/
abbrev pre (mn : Nat) (g rg hq mf : Nat → Int32) (cd : Int32) (fg : Nat → Int32) (w : Int32) (dd bm rr kt : Nat → Int32) : Prop := q_rel mn g rg hq mf cd fg dd bm rr kt ∧ (g 2 = 0 → g 1 = g 0 + 4) ∧ dd 5 = 0 ∧ dd 9 = w ∧ dd 11 = 0 ∧ dd 12 = 0 ∧ dd 13 = 0
theorem pre.rel (h : pre mn g rg hq mf cd fg w dd bm rr kt) : q_rel mn g rg hq mf cd fg dd bm rr kt := h.1
theorem pre.nxt (h : pre mn g rg hq mf cd fg w dd bm rr kt) : g 2 = 0 → g 1 = g 0 + 4 := h.2.1
theorem pre.e5 (h : pre mn g rg hq mf cd fg w dd bm rr kt) : dd 5 = 0 := h.2.2.1
theorem pre.e9 (h : pre mn g rg hq mf cd fg w dd bm rr kt) : dd 9 = w := h.2.2.2.1
theorem pre.e11 (h : pre mn g rg hq mf cd fg w dd bm rr kt) : dd 11 = 0 := h.2.2.2.2.1
theorem pre.e12 (h : pre mn g rg hq mf cd fg w dd bm rr kt) : dd 12 = 0 := h.2.2.2.2.2.1
theorem pre.e13 (h : pre mn g rg hq mf cd fg w dd bm rr kt) : dd 13 = 0 := h.2.2.2.2.2.2
theorem md_moveOn {P : MdT → Prop} (hb : zz_bz (dd 12)) (h : P (mvd dd, l1, l2, bm, rr, mvk dd kt)) : wp_Md_moveOn ms dd l1 l2 bm rr kt P := by
  unfold wp_Md_moveOn
  unfold mvd mvk at h
  have i0 : vp_in (0 : Int32) 5 := by unfold vp_in; decide
  have i3 : vp_in (3 : Int32) 5 := by unfold vp_in; decide
  have i4 : vp_in (4 : Int32) 5 := by unfold vp_in; decide
  have c0 : (0 : Int32).toNatClampNeg = 0 := by decide
  have c3 : (3 : Int32).toNatClampNeg = 3 := by decide
  have c4 : (4 : Int32).toNatClampNeg = 4 := by decide
  intro x ex
  rw [c0, c3, c4]
  refine ⟨i0, fun y ey => ⟨i0, ⟨fun c => ⟨fun d z ez => ⟨i3, fun t et => ⟨i3, fun a ea => ⟨by rw [ea]; exact hb, ?_⟩⟩⟩, fun d z ez => ⟨i3, fun t et => ⟨i3, fun a ea => ⟨by rw [ea]; exact hb, ?_⟩⟩⟩⟩, fun c => ⟨i4, fun z ez => ⟨i4, fun t et a ea => ?_⟩⟩⟩⟩⟩
  · rw [if_pos c, if_pos d, if_pos c, if_pos d] at h
    subst ex; subst ey; subst ez; subst ea
    rw [pk_un (by decide)] at et
    subst et
    exact h
  · rw [if_pos c, if_neg d, if_pos c, if_neg d] at h
    subst ex; subst ey; subst ez; subst ea
    rw [pk_un (by decide)] at et
    subst et
    exact h
  · rw [if_neg c, if_neg c] at h
    subst ex; subst ey; subst ea; subst et
    rw [pk_un (by decide)] at ez
    subst ez
    exact h
theorem pre_lo {dd' : Nat → Int32} (H : pre mn g rg hq mf cd fg w dd bm rr kt) (h : mdlo dd dd') : pre mn g rg hq mf cd fg w dd' bm rr kt := by
  obtain ⟨⟨r1, r2, r3, r4, r5, r6, r7, r8, r9⟩, hn, e5, e9, e11, e12, e13⟩ := H
  refine ⟨⟨r1, r2, ?_, ?_, r5, r6, ?_, r8, r9⟩, hn, ?_, ?_, ?_, ?_, ?_⟩
  · rw [h 1 (by decide)]; exact r3
  · rw [h 2 (by decide)]; exact r4
  · rw [h 3 (by decide), h 4 (by decide), h 5 (by decide), h 6 (by decide), h 7 (by decide), h 8 (by decide)]; exact r7
  · rw [h 5 (by decide)]; exact e5
  · rw [h 9 (by decide)]; exact e9
  · rw [h 11 (by decide)]; exact e11
  · rw [h 12 (by decide)]; exact e12
  · rw [h 13 (by decide)]; exact e13
theorem pfx_mk (H : pre mn g rg hq mf cd fg w dd bm rr kt) (r : Int32) (U : Fr4 → Fr4 → CoT) (V : (Nat → Int32) → Int64 → Int64 → MdT)
    (hc : ∀ (L O : Fr4) (P : Int32 → CoT → Prop), P r (U L O) → wp_Pr_perform ms mn g rg hq mf cd fg L O w P)
    (hr : ∀ (dd : Nat → Int32) (l1 l2 : Int64), pre mn g rg hq mf cd fg w dd bm rr kt → ∀ L O : Fr4, oc mn r (U L O) (V dd l1 l2) ∧ ∀ Q : MdT → Prop, Q (V dd l1 l2) → wp_Md_operate ms dd l1 l2 bm rr kt (zz_ushr w 26) Q)
    (hu : ∀ L O L' O', U L' O' = ((U L O).1, (U L O).2.1, (U L O).2.2.1, (U L O).2.2.2.1, (U L O).2.2.2.2.1, (U L O).2.2.2.2.2.1, L', O'))
    (hs : ∀ (dd' : Nat → Int32) (l1 l2 l1' l2' : Int64), mdlo dd dd' → vsim (V dd l1 l2) (V dd' l1' l2'))
    (he : ¬ q_e r ∨ ∀ L O, (U L O).1 0 = g 0) (hz : ∀ dd l1 l2, (V dd l1 l2).1 0 = dd 0) : pfx ms mn g rg hq mf cd fg w dd bm rr kt := by
  have z : Fr4 := (0, 0, 0, 0)
  refine ⟨r, U z z, V dd 0 0, ⟨(hr dd 0 0 H z z).1, he.imp id (fun q => q z z), hz _ _ _⟩, fun L O P hP => hc L O P ?_, fun dd' l1 l2 hd Q hQ => (hr dd' l1 l2 (pre_lo H hd) z z).2 Q (hQ _ (hs dd' 0 0 l1 l2 hd))⟩
  have := hP L O
  rw [← hu z z L O] at this
  exact this
theorem q_e_pos {r : Int32} (h : q_e r) : ¬ r ≤ 0 := by
  rcases h with rfl | rfl | rfl | rfl | rfl | rfl | rfl | rfl <;> decide
/-- after a step, of the reference's scalars only these count -/
def vs9 (v v' : MdT) : Prop := (∀ j, j < 11 → j ≠ 9 → v'.1 j = v.1 j) ∧ v'.2.2.2.1 = v.2.2.2.1 ∧ v'.2.2.2.2.1 = v.2.2.2.2.1 ∧ v'.2.2.2.2.2 = v.2.2.2.2.2
end PRE
section OCS
variable {ms : Int32} {mn S : Nat} {g rg hq mf : Nat → Int32} {cd : Int32} {fg : Nat → Int32} {L O : Fr4} {dd bm rr kt : Nat → Int32} {l1 l2 : Int64} {w : Int32}
theorem oc_endc {r c : Int32} (hr : q_e r) (h : q_rel mn g rg hq mf cd fg dd bm rr kt) (hn : g 2 = 0 → g 1 = g 0 + 4) : oc mn r (upd g 6 c, rg, hq, mf, cd, fg, L, O) (upd dd 5 r, l1, l2, bm, rr, kt) := by
  obtain ⟨r1, r2, r3, r4, r5, r6, r7, r8, r9⟩ := h
  exact Or.inl ⟨hr, rfl, ⟨r1, r2, r3, r4, r5, r6, ⟨r7.1, r7.2.1, rfl, r7.2.2.2⟩, r8, r9⟩, hn⟩
/-- done: PC moves on -/
theorem oc_0 (h : q_rel mn g rg hq mf cd fg dd bm rr kt) (h5 : dd 5 = 0) (h11 : dd 11 = 0) (h12 : dd 12 = 0) (h13 : dd 13 = 0) : oc mn 0 (g, rg, hq, mf, cd, fg, L, O) (dd, l1, l2, bm, rr, kt) := by
  obtain ⟨r1, r2, r3, r4, r5, r6, r7, r8, r9⟩ := h
  refine Or.inr (Or.inl ⟨rfl, h5, Or.inl h12, ⟨r1, r2, ?_, ?_, r5, r6, ?_, ?_, r9⟩, fun _ => rfl⟩)
  · unfold mvd; rw [if_pos h13]; exact r3
  · unfold mvd; rw [if_pos h13]; exact r4
  · unfold mvd; rw [if_pos h13, if_pos h11]
    refine ⟨r7.2.1, ?_, r7.2.2.1, h12, Or.inl rfl, r7.2.2.2.2.2⟩
    show dd 4 + 4 = g 1 + 4
    rw [r7.2.1]
  · unfold mvk; dsimp only; rw [if_pos h13, if_pos h11]
    refine ⟨?_, r8.2.1, r8.2.2.1, ?_, r8.2.2.2.2⟩
    · show kt 0 + 1 = g 7 + 1
      rw [r8.1]
    · show kt 3 + 0 = g 10
      rw [Int32.add_zero, r8.2.2.2.1]
theorem md_ends {r : Int32} {P : MdT → Prop} (h5 : dd 5 = 0) (h : P (upd dd 5 r, l1, l2, bm, rr, kt)) : wp_Md_ends ms dd l1 l2 bm rr kt r P := ⟨fun _ => h, fun q => absurd h5 q⟩
theorem pr_fun {P : Int32 → Prop} (h : P (w &&& 63)) : wp_Pr_function w P := h
theorem pr_op {P : Int32 → Prop} (h : P (zz_ushr w 26)) : wp_Pr_opcode w P := h
end OCS
/-! ===== integer instructions ===== -/
theorem bq_t {c A B : Prop} (hc : c) (h : A) : (c → A) ∧ (¬ c → B) := ⟨fun _ => h, fun q => absurd hc q⟩
theorem bq_f {c A B : Prop} (hc : ¬ c) (h : B) : (c → A) ∧ (¬ c → B) := ⟨fun q => absurd q hc, fun _ => h⟩
section BRS
variable {ms : Int32} {mn S : Nat} {g rg hq mf : Nat → Int32} {cd : Int32} {fg : Nat → Int32} {L O : Fr4} {dd bm rr kt : Nat → Int32} {l1 l2 : Int64} {w : Int32}
theorem i_ext {a b : Int32} (h : ∀ i, i < 32 → a.toBitVec.getLsbD i = b.toBitVec.getLsbD i) : a = b := Int32.toBitVec_inj.mp (BitVec.eq_of_getLsbD_eq (fun i hi => h i hi))
end BRS
section INT2
variable {ms : Int32} {mn S : Nat} {g rg hq mf : Nat → Int32} {cd : Int32} {fg : Nat → Int32} {L O : Fr4} {dd bm rr kt : Nat → Int32} {l1 l2 : Int64} {w : Int32}
theorem i_break (H : pre mn g rg hq mf cd fg w dd bm rr kt) (ho : zz_ushr w 26 = 0) (hf : w &&& 63 = 13) : pfx ms mn g rg hq mf cd fg w dd bm rr kt := by
  refine pfx_mk H 6 (fun L O => (upd g 6 (zz_ushr w 6 &&& 1048575), rg, hq, mf, cd, fg, L, O)) (fun dd l1 l2 => (upd dd 5 6, l1, l2, bm, rr, kt)) (fun L O P hP => ?_) (fun dd l1 l2 H L O => ⟨oc_endc (by unfold q_e; simp) H.rel H.nxt, fun Q hQ => ?_⟩) (fun _ _ _ _ => rfl) (fun _ _ _ _ _ hs => ⟨by repeat first | exact hs | apply lo_upd, rfl, rfl, rfl⟩) (by first | exact Or.inr (fun _ _ => rfl) | exact Or.inl (by unfold q_e; decide)) (fun _ _ _ => rfl)
  · unfold wp_Pr_perform
    refine pr_op ?_
    rw [ho]
    repeat first | refine bq_t (by decide) ?_ | refine bq_f (by decide) ?_
    unfold wp_Pr_special
    refine pr_fun ?_
    rw [hf]
    repeat first | refine bq_t (by decide) ?_ | refine bq_f (by decide) ?_
    unfold wp_Pr_jumpOrMoveOrCall
    refine pr_fun ?_
    rw [hf]
    repeat first | refine bq_t (by decide) ?_ | refine bq_f (by decide) ?_
    unfold wp_Pr_call
    exact fun x ex => by subst ex; exact hP
  · unfold wp_Md_operate
    rw [ho]
    repeat first | refine bq_t (by decide) ?_ | refine bq_f (by decide) ?_
    rw [H.e9, hf]
    unfold wp_Md_special
    repeat first | refine bq_t (by decide) ?_ | refine bq_f (by decide) ?_
    try unfold wp_Md_moves
    repeat first | refine bq_t (by decide) ?_ | refine bq_f (by decide) ?_
    skip
    exact md_ends H.e5 hQ

end INT2
theorem ushr_bit (a s : Int32) (k : Nat) (hs : ((s.toUInt32 &&& Int32.toUInt32 31).toBitVec % 32) = BitVec.ofNat 32 k) (hk : k < 32) (i : Nat) : (zz_ushr a s).toBitVec.getLsbD i = a.toBitVec.getLsbD (i + k) := by
  unfold zz_ushr
  show (a.toUInt32 >>> (s.toUInt32 &&& Int32.toUInt32 31)).toBitVec.getLsbD i = _
  rw [UInt32.toBitVec_shiftRight, hs]
  show (a.toBitVec >>> (BitVec.ofNat 32 k).toNat).getLsbD i = _
  rw [BitVec.getLsbD_ushiftRight, BitVec.toNat_ofNat, Nat.mod_eq_of_lt (by omega), Nat.add_comm]
/-! ===== memory: words and bytes, lane by lane ===== -/
/-- bit r of byte t, the lowest byte first -/
def ln (x : Int32) (t r : Nat) : Bool := x.toBitVec.getLsbD (8 * t + r)
theorem ln_ext {x y : Int32} (h : ∀ t, t < 4 → ∀ r, r < 8 → ln x t r = ln y t r) : x = y := by
  apply i_ext
  intro i hi
  have := h (i / 8) (by omega) (i % 8) (Nat.mod_lt _ (by decide))
  unfold ln at this
  rw [Nat.div_add_mod] at this
  exact this
theorem ln_or (x y : Int32) (t r : Nat) : ln (x ||| y) t r = (ln x t r || ln y t r) := by unfold ln; rw [Int32.toBitVec_or, BitVec.getLsbD_or]
theorem ln_and (x y : Int32) (t r : Nat) : ln (x &&& y) t r = (ln x t r && ln y t r) := by unfold ln; rw [Int32.toBitVec_and, BitVec.getLsbD_and]
theorem ln_not (x : Int32) {t r : Nat} (ht : t < 4) (hr : r < 8) : ln (x ^^^ (-1)) t r = !ln x t r := by
  unfold ln
  rw [Int32.toBitVec_xor, BitVec.getLsbD_xor]
  have : (-1 : Int32).toBitVec.getLsbD (8 * t + r) = true := by
    show (BitVec.allOnes 32).getLsbD _ = true
    rw [BitVec.getLsbD_allOnes]; simp; omega
  rw [this]; simp
theorem sm32 : ∀ k, k < 32 → (nI k &&& 31).toBitVec.smod 32 = BitVec.ofNat 32 k := by decide +kernel
theorem um32 : ∀ k, k < 32 → ((nI k).toUInt32 &&& Int32.toUInt32 31).toBitVec % 32 = BitVec.ofNat 32 k := by decide +kernel
theorem ln_shl (x : Int32) {u t r : Nat} (hu : u < 4) (ht : t < 4) (hr : r < 8) : ln (zz_shl x (nI (8 * u))) t r = (decide (u ≤ t) && ln x (t - u) r) := by
  unfold ln zz_shl
  rw [Int32.toBitVec_shiftLeft, sm32 _ (by omega), BitVec.shiftLeft_eq', BitVec.getLsbD_shiftLeft, BitVec.toNat_ofNat, Nat.mod_eq_of_lt (by omega)]
  by_cases c : u ≤ t
  · have c1 : ¬ 8 * t + r < 8 * u := by omega
    have c2 : 8 * t + r < 32 := by omega
    have c3 : 8 * t + r - 8 * u = 8 * (t - u) + r := by omega
    simp [c, c1, c2, c3]
  · have c1 : 8 * t + r < 8 * u := by omega
    simp [c, c1]
theorem ln_ushr (x : Int32) {u t r : Nat} (hu : u < 4) : ln (zz_ushr x (nI (8 * u))) t r = ln x (t + u) r := by
  unfold ln
  rw [ushr_bit x (nI (8 * u)) (8 * u) (um32 _ (by omega)) (by omega)]
  congr 1; omega
theorem ln_255 : ∀ t, t < 4 → ∀ r, r < 8 → ln 255 t r = decide (t = 0) := by decide +kernel
theorem ln_64k : ∀ t, t < 4 → ∀ r, r < 8 → ln 65535 t r = decide (t < 2) := by decide +kernel
theorem ln_m1 : ∀ t, t < 4 → ∀ r, r < 8 → ln (-1) t r = true := by decide +kernel
theorem ln_0 (t r : Nat) : ln 0 t r = false := by unfold ln; simp
/-- the byte that a store puts down -/
def vB (v : Int32) (s : Nat) : Int32 := (zz_shr v (nI s)).toInt8.toInt32
theorem ln_vB (v : Int32) {u r : Nat} (hu : u < 4) (hr : r < 8) : ln (vB v (8 * u)) 0 r = ln v u r := by
  unfold ln vB
  have e1 : ∀ z : Int32, z.toInt8.toInt32.toBitVec.getLsbD r = z.toBitVec.getLsbD r := by
    intro z
    show (BitVec.signExtend 32 (BitVec.signExtend 8 z.toBitVec)).getLsbD r = _
    rw [BitVec.getLsbD_signExtend, BitVec.getLsbD_signExtend]
    have h1 : r < 32 := by omega
    simp [h1, hr]
  rw [Nat.mul_zero, Nat.zero_add, e1]
  unfold zz_shr
  show (v.toBitVec.sshiftRight ((nI (8 * u) &&& 31).toBitVec.smod 32).toNat).getLsbD r = _
  rw [sm32 _ (by omega), BitVec.toNat_ofNat, Nat.mod_eq_of_lt (by omega), BitVec.getLsbD_sshiftRight]
  have h1 : ¬ 32 ≤ r := by omega
  have h2 : 8 * u + r < 32 := by omega
  simp [h1, h2]
theorem ln_q (bm : Nat → Int32) (K : Nat) {t r : Nat} (ht : t < 4) (hr : r < 8) : ln (q_word bm K) t r = ln (bm (4 * K + 3 - t)) 0 r := by
  unfold q_word
  have s8 : ∀ (x : Int32) (t : Nat), t < 4 → ln (zz_shl x 8) t r = (decide (1 ≤ t) && ln x (t - 1) r) := fun x t ht => ln_shl (u := 1) x (by decide) ht hr
  have h4 : t = 0 ∨ t = 1 ∨ t = 2 ∨ t = 3 := by omega
  rcases h4 with rfl | rfl | rfl | rfl <;>
    simp [ln_or, ln_and, s8, ln_255 0 (by decide) r hr, ln_255 1 (by decide) r hr, ln_255 2 (by decide) r hr, ln_255 3 (by decide) r hr, ln_0]
theorem q_keep {bm bm' : Nat → Int32} {K k : Nat} (h : ∀ j, j / 4 ≠ K → bm' j = bm j) (hk : k ≠ K) : q_word bm' k = q_word bm k := by
  apply ln_ext
  intro t ht r hr
  rw [ln_q _ _ ht hr, ln_q _ _ ht hr, h _ (by omega)]
section MEM
variable {ms : Int32} {mn S : Nat} {g rg hq mf : Nat → Int32} {cd : Int32} {fg : Nat → Int32} {L O : Fr4} {dd bm rr kt : Nat → Int32} {l1 l2 : Int64} {w : Int32}
theorem q_mem {bm' : Nat → Int32} {K : Nat} (h : q_rel mn g rg hq mf cd fg dd bm rr kt) (hb : ∀ j, j / 4 ≠ K → bm' j = bm j) : q_rel mn g rg hq (upd mf K (q_word bm' K)) cd fg dd bm' rr kt := by
  obtain ⟨r1, r2, r3, r4, r5, r6, r7, r8, r9⟩ := h
  refine ⟨r1, r2, r3, r4, r5, r6, r7, r8, fun k hk => ?_⟩
  by_cases c : k = K
  · subst c; rw [pk_us]
  · rw [pk_un c, r9 k hk, q_keep hb c]
/-- so many bytes as a word -/
def rdv (bm : Nat → Int32) (a k : Nat) : Int32 := if k = 1 then bm a &&& 255 else if k = 2 then zz_shl (bm a &&& 255) 8 ||| (bm (a + 1) &&& 255) else q_word bm (a / 4)
theorem me_rd {P : Int32 → Prop} {a k : Nat} (hk : k = 1 ∨ k = 2 ∨ k = 4) (hS : S ≤ 262144) (hmn : mn = S / 4) (hg : a + k ≤ S) (h4 : a % k = 0) (hS4 : S % 4 = 0) (hw : mf (a / 4) = q_word bm (a / 4)) (h : P (rdv bm a k)) : wp_Me_read ms mn mf (nI a) (nI k) P := by
  unfold wp_Me_read wp_Me_shift wp_Me_mask
  have hk4 : k ≤ 4 := by omega
  have hok : k + a % 4 ≤ 4 := by rcases hk with rfl | rfl | rfl <;> omega
  rw [ushr2 (by omega), and3 (by omega), nI_clamp (by omega), hw]
  refine ⟨vp_in_nI (by omega) (by omega), fun x ex y ey z ez => ?_⟩
  have ho : a % 4 = 0 ∨ a % 4 = 1 ∨ a % 4 = 2 ∨ a % 4 = 3 := by omega
  have hy : y * 8 = nI (8 * (4 - k - a % 4)) := by
    rw [ey, show (4 : Int32) = nI 4 from rfl, pk_sub hk4, pk_sub (by omega), show (8 : Int32) = nI 8 from rfl, pk_mul, Nat.mul_comm]
  rw [hy, ex, ez]
  dsimp only
  have e : zz_ushr (q_word bm (a / 4)) (nI (8 * (4 - k - a % 4))) &&& zz_ushr (-1) ((4 - nI k) * 8) = rdv bm a k := by
    unfold rdv
    apply ln_ext
    intro t ht r hr
    have hu : 4 - k - a % 4 < 4 := by omega
    rw [ln_and, ln_ushr _ hu]
    rcases hk with rfl | rfl | rfl
    · rw [if_pos rfl, show zz_ushr (-1) ((4 - nI 1) * 8) = 255 by decide, ln_255 t ht r hr, ln_and, ln_255 t ht r hr]
      by_cases c : t = 0
      · subst c
        rw [ln_q _ _ (by omega) hr, show 4 * (a / 4) + 3 - (0 + (4 - 1 - a % 4)) = a by omega]
      · simp [c]
    · rw [if_neg (by decide), if_pos rfl, show zz_ushr (-1) ((4 - nI 2) * 8) = 65535 by decide, ln_64k t ht r hr, ln_or, ln_and, show (8 : Int32) = nI (8 * 1) from rfl, ln_shl _ (by decide) ht hr, ln_and, ln_255 t ht r hr]
      have h2 : t = 0 ∨ t = 1 ∨ 2 ≤ t := by omega
      rcases h2 with rfl | rfl | c
      · rw [ln_q _ _ (by omega) hr, show 4 * (a / 4) + 3 - (0 + (4 - 2 - a % 4)) = a + 1 by omega]
        simp
      · rw [ln_q _ _ (by omega) hr, show 4 * (a / 4) + 3 - (1 + (4 - 2 - a % 4)) = a by omega, show 1 - 1 = 0 from rfl, ln_255 0 (by decide) r hr]
        simp
      · have c1 : ¬ t < 2 := by omega
        have c2 : ¬ t = 0 := by omega
        rw [ln_255 (t - 1) (by omega) r hr]
        have c3 : ¬ t - 1 = 0 := by omega
        simp [c1, c2, c3]
    · rw [if_neg (by decide), if_neg (by decide), show zz_ushr (-1) ((4 - nI 4) * 8) = -1 by decide, ln_m1 t ht r hr, Bool.and_true]
      congr 1; omega
  rw [e]
  exact h
theorem md_part {P : Int32 → Prop} {a k : Nat} (hk : k = 1 ∨ k = 2 ∨ k = 4) (hS : S ≤ 262144) (hg : a + k ≤ S) (h4 : a % k = 0) (h : P (rdv bm a k)) : wp_Md_part ms dd l1 l2 bm rr kt (nI a) (nI k) P := by
  rcases hk with rfl | rfl | rfl
  · unfold rdv at h
    rw [if_pos rfl] at h
    refine ⟨2, ?_⟩
    rw [wl_Md_part_5]
    refine ⟨fun c => absurd c (by decide), fun _ => ⟨?_, fun x0 e0 y0 f0 z0 g0 => ?_⟩⟩
    · rw [show (0 : Int32) = nI 0 from rfl, nI_add]; exact vp_in_nI (by omega) (by decide)
    · have k0 : z0 = nI 1 := g0.trans (by decide)
      subst k0
      rw [wl_Md_part_5]
      refine ⟨fun _ => ?_, fun c => absurd (by decide) c⟩
      rw [show (0 : Int32) = nI 0 from rfl, nI_add, nI_clamp (by omega), Nat.add_zero] at e0
      rw [f0, e0, show zz_shl 0 8 = 0 by decide, Int32.zero_or]
      exact h
  · unfold rdv at h
    rw [if_neg (by decide), if_pos rfl] at h
    refine ⟨3, ?_⟩
    rw [wl_Md_part_5]
    refine ⟨fun c => absurd c (by decide), fun _ => ⟨?_, fun x0 e0 y0 f0 z0 g0 => ?_⟩⟩
    · rw [show (0 : Int32) = nI 0 from rfl, nI_add]; exact vp_in_nI (by omega) (by decide)
    · have k0 : z0 = nI 1 := g0.trans (by decide)
      subst k0
      rw [wl_Md_part_5]
      refine ⟨fun c => absurd c (by decide), fun _ => ⟨?_, fun x1 e1 y1 f1 z1 g1 => ?_⟩⟩
      · rw [nI_add]; exact vp_in_nI (by omega) (by decide)
      · have k1 : z1 = nI 2 := g1.trans (by decide)
        subst k1
        rw [wl_Md_part_5]
        refine ⟨fun _ => ?_, fun c => absurd (by decide) c⟩
        rw [show (0 : Int32) = nI 0 from rfl, nI_add, nI_clamp (by omega), Nat.add_zero] at e0
        rw [nI_add, nI_clamp (by omega)] at e1
        rw [f1, e1, f0, e0, show zz_shl 0 8 = 0 by decide, Int32.zero_or]
        exact h
  · unfold rdv at h
    rw [if_neg (by decide), if_neg (by decide)] at h
    exact md_part4 hg h4 hS h
/-- so many bytes put down -/
def stb (bm : Nat → Int32) (a k : Nat) (v : Int32) : Nat → Int32 := if k = 1 then upd bm a (vB v 0) else if k = 2 then upd (upd bm a (vB v 8)) (a + 1) (vB v 0) else upd (upd (upd (upd bm a (vB v 24)) (a + 1) (vB v 16)) (a + 2) (vB v 8)) (a + 3) (vB v 0)
theorem stb_k {a k : Nat} {v : Int32} (hk : k = 1 ∨ k = 2 ∨ k = 4) (h4 : a % k = 0) : ∀ j, j / 4 ≠ a / 4 → stb bm a k v j = bm j := by
  intro j hj
  unfold stb
  rcases hk with rfl | rfl | rfl
  · rw [if_pos rfl, pk_un (by rintro rfl; exact hj rfl)]
  · rw [if_neg (by decide), if_pos rfl, pk_un (by omega), pk_un (by omega)]
  · rw [if_neg (by decide), if_neg (by decide), pk_un (by omega), pk_un (by omega), pk_un (by omega), pk_un (by omega)]
theorem me_wrt {P : (Nat → Int32) → Prop} {a k : Nat} {v : Int32} (hk : k = 1 ∨ k = 2 ∨ k = 4) (hS : S ≤ 262144) (hmn : mn = S / 4) (hg : a + k ≤ S) (h4 : a % k = 0) (hS4 : S % 4 = 0) (hw : mf (a / 4) = q_word bm (a / 4)) (h : P (upd mf (a / 4) (q_word (stb bm a k v) (a / 4)))) : wp_Me_write ms mn mf (nI a) (nI k) v P := by
  unfold wp_Me_write wp_Me_shift wp_Me_mask
  have hk4 : k ≤ 4 := by omega
  have hok : k + a % 4 ≤ 4 := by rcases hk with rfl | rfl | rfl <;> omega
  rw [ushr2 (by omega), and3 (by omega), nI_clamp (by omega), hw]
  have hin : vp_in (nI (a / 4)) mn := vp_in_nI (by omega) (by omega)
  refine fun y ey => ⟨hin, fun x ex z ez m em q eq z2 ez2 t et => ⟨hin, ?_⟩⟩
  have hy : y * 8 = nI (8 * (4 - k - a % 4)) := by
    rw [ey, show (4 : Int32) = nI 4 from rfl, pk_sub hk4, pk_sub (by omega), show (8 : Int32) = nI 8 from rfl, pk_mul, Nat.mul_comm]
  have e : t = q_word (stb bm a k v) (a / 4) := by
    rw [et, eq, ex, em, ez, ez2, hy]
    unfold stb
    apply ln_ext
    intro t ht r hr
    have hu : 4 - k - a % 4 < 4 := by omega
    rw [ln_or, ln_and, ln_not _ ht hr, ln_shl _ hu ht hr, ln_shl _ hu ht hr, ln_and, ln_q _ _ ht hr, ln_q _ _ ht hr]
    rcases hk with rfl | rfl | rfl
    · rw [if_pos rfl, show zz_ushr (-1) ((4 - nI 1) * 8) = 255 by decide, ln_255 (t - (4 - 1 - a % 4)) (by omega) r hr]
      by_cases c : 4 * (a / 4) + 3 - t = a
      · rw [c, pk_us, ln_vB (u := 0) _ (by decide) hr]
        have c1 : 4 - 1 - a % 4 ≤ t := by omega
        have c2 : t - (4 - 1 - a % 4) = 0 := by omega
        simp [c1, c2]
      · rw [pk_un c]
        by_cases d : 4 - 1 - a % 4 ≤ t
        · have c2 : ¬ t - (4 - 1 - a % 4) = 0 := by omega
          simp [d, c2]
        · simp [d]
    · rw [if_neg (by decide), if_pos rfl, show zz_ushr (-1) ((4 - nI 2) * 8) = 65535 by decide, ln_64k (t - (4 - 2 - a % 4)) (by omega) r hr]
      by_cases c : 4 * (a / 4) + 3 - t = a + 1
      · rw [c, pk_us, ln_vB (u := 0) _ (by decide) hr]
        have c1 : 4 - 2 - a % 4 ≤ t := by omega
        have c2 : t - (4 - 2 - a % 4) = 0 := by omega
        simp [c1, c2]
      · rw [pk_un c]
        by_cases c' : 4 * (a / 4) + 3 - t = a
        · rw [c', pk_us, ln_vB (u := 1) _ (by decide) hr]
          have c1 : 4 - 2 - a % 4 ≤ t := by omega
          have c2 : t - (4 - 2 - a % 4) = 1 := by omega
          simp [c1, c2]
        · rw [pk_un c']
          by_cases d : 4 - 2 - a % 4 ≤ t
          · have c2 : ¬ t - (4 - 2 - a % 4) < 2 := by omega
            simp [d, c2]
          · simp [d]
    · rw [if_neg (by decide), if_neg (by decide), show zz_ushr (-1) ((4 - nI 4) * 8) = -1 by decide, ln_m1 _ (by omega) r hr]
      have e0 : 4 - 4 - a % 4 = 0 := by omega
      rw [e0]
      have hh : t = 0 ∨ t = 1 ∨ t = 2 ∨ t = 3 := by omega
      have ea : 4 * (a / 4) = a := by omega
      rw [ea]
      rcases hh with rfl | rfl | rfl | rfl
      · rw [show a + 3 - 0 = a + 3 from rfl, pk_us, ln_vB (u := 0) _ (by decide) hr]; simp
      · rw [show a + 3 - 1 = a + 2 from rfl, pk_un (by omega), pk_us, ln_vB (u := 1) _ (by decide) hr]; simp
      · rw [show a + 3 - 2 = a + 1 from rfl, pk_un (by omega), pk_un (by omega), pk_us, ln_vB (u := 2) _ (by decide) hr]; simp
      · rw [show a + 3 - 3 = a from rfl, pk_un (by omega), pk_un (by omega), pk_un (by omega), pk_us, ln_vB (u := 3) _ (by decide) hr]; simp
  rw [e]
  exact h
theorem vB_e {v s x y : Int32} {n : Nat} (hs : s = nI n) (hx : x = (zz_shr v s).toInt8.toInt32) : vp_nar .byte x = vB v n := by
  rw [hx, pk_vb, hs]; rfl
theorem md_store {P : MdT → Prop} {a k : Nat} {v : Int32} (hk : k = 1 ∨ k = 2 ∨ k = 4) (hS : S ≤ 262144) (hg : a + k ≤ S) (h : P (dd, l1, l2, stb bm a k v, rr, kt)) : wp_Md_store ms dd l1 l2 bm rr kt (nI a) (nI k) v P := by
  have hin : ∀ j, j < k → vp_in (nI a + nI j) 262144 ∧ (nI a + nI j).toNatClampNeg = a + j := fun j hj => by
    rw [nI_add]; exact ⟨vp_in_nI (by omega) (by decide), nI_clamp (by omega)⟩
  unfold stb at h
  rcases hk with rfl | rfl | rfl
  · rw [if_pos rfl] at h
    refine ⟨2, ?_⟩
    rw [wl_Md_store_3]
    refine ⟨fun c => absurd c (by decide), fun _ s0 e0 b0 f0 => ⟨(hin 0 (by decide)).1, fun t0 g0 => ?_⟩⟩
    rw [vB_e (n := 0) (y := 0) (e0.trans (by decide)) f0, show (0 : Int32) = nI 0 from rfl, (hin 0 (by decide)).2, g0]
    rw [wl_Md_store_3]
    exact ⟨fun _ => h, fun c => absurd (by decide) c⟩
  · rw [if_neg (by decide), if_pos rfl] at h
    refine ⟨3, ?_⟩
    rw [wl_Md_store_3]
    refine ⟨fun c => absurd c (by decide), fun _ s0 e0 b0 f0 => ⟨(hin 0 (by decide)).1, fun t0 g0 => ?_⟩⟩
    have g0 : t0 = nI 1 := g0.trans (by decide)
    rw [vB_e (n := 8) (y := 0) (e0.trans (by decide)) f0, show (0 : Int32) = nI 0 from rfl, (hin 0 (by decide)).2, g0]
    rw [wl_Md_store_3]
    refine ⟨fun c => absurd c (by decide), fun _ s1 e1 b1 f1 => ⟨(hin 1 (by decide)).1, fun t1 g1 => ?_⟩⟩
    have g1 : t1 = nI 2 := g1.trans (by decide)
    rw [vB_e (n := 0) (y := 0) (e1.trans (by decide)) f1, (hin 1 (by decide)).2, g1]
    rw [wl_Md_store_3]
    exact ⟨fun _ => h, fun c => absurd (by decide) c⟩
  · rw [if_neg (by decide), if_neg (by decide)] at h
    refine ⟨5, ?_⟩
    rw [wl_Md_store_3]
    refine ⟨fun c => absurd c (by decide), fun _ s0 e0 b0 f0 => ⟨(hin 0 (by decide)).1, fun t0 g0 => ?_⟩⟩
    have g0 : t0 = nI 1 := g0.trans (by decide)
    rw [vB_e (n := 24) (y := 0) (e0.trans (by decide)) f0, show (0 : Int32) = nI 0 from rfl, (hin 0 (by decide)).2, g0]
    rw [wl_Md_store_3]
    refine ⟨fun c => absurd c (by decide), fun _ s1 e1 b1 f1 => ⟨(hin 1 (by decide)).1, fun t1 g1 => ?_⟩⟩
    have g1 : t1 = nI 2 := g1.trans (by decide)
    rw [vB_e (n := 16) (y := 0) (e1.trans (by decide)) f1, (hin 1 (by decide)).2, g1]
    rw [wl_Md_store_3]
    refine ⟨fun c => absurd c (by decide), fun _ s2 e2 b2 f2 => ⟨(hin 2 (by decide)).1, fun t2 g2 => ?_⟩⟩
    have g2 : t2 = nI 3 := g2.trans (by decide)
    rw [vB_e (n := 8) (y := 0) (e2.trans (by decide)) f2, (hin 2 (by decide)).2, g2]
    rw [wl_Md_store_3]
    refine ⟨fun c => absurd c (by decide), fun _ s3 e3 b3 f3 => ⟨(hin 3 (by decide)).1, fun t3 g3 => ?_⟩⟩
    have g3 : t3 = nI 4 := g3.trans (by decide)
    rw [vB_e (n := 0) (y := 0) (e3.trans (by decide)) f3, (hin 3 (by decide)).2, g3]
    rw [wl_Md_store_3]
    exact ⟨fun _ => h, fun c => absurd (by decide) c⟩
end MEM
/-! ===== loads and stores ===== -/
/-- how large memory is -/
abbrev mem (ms : Int32) (mn S : Nat) : Prop := S ≤ 262144 ∧ 8 ≤ S ∧ ms = nI S ∧ mn = S / 4 ∧ S % 8 = 0
theorem mem.hS {ms : Int32} {mn S : Nat} (h : mem ms mn S) : S ≤ 262144 := h.1
theorem mem.h8 {ms : Int32} {mn S : Nat} (h : mem ms mn S) : 8 ≤ S := h.2.1
theorem mem.hms {ms : Int32} {mn S : Nat} (h : mem ms mn S) : ms = nI S := h.2.2.1
theorem mem.hmn {ms : Int32} {mn S : Nat} (h : mem ms mn S) : mn = S / 4 := h.2.2.2.1
theorem mem.m8 {ms : Int32} {mn S : Nat} (h : mem ms mn S) : S % 8 = 0 := h.2.2.2.2
section LS
variable {ms : Int32} {mn S : Nat} {g rg hq mf : Nat → Int32} {cd : Int32} {fg : Nat → Int32} {L O : Fr4} {dd bm rr kt : Nat → Int32} {l1 l2 : Int64} {w : Int32}
theorem me_gd {P : Int32 → Prop} {k : Nat} {x : Int32} (M : mem ms mn S) (hk : q_k k) (h1 : q_gd S k x → P 1) (h2 : ¬ q_gd S k x → P 0) : wp_Me_good ms mn mf x (nI k) P := me_good hk M.hS M.h8 M.hms h1 h2
theorem md_gd {P : Int32 → Prop} {k : Nat} {x : Int32} (M : mem ms mn S) (hk : q_k k) (h1 : q_gd S k x → P 1) (h2 : ¬ q_gd S k x → P 0) : wp_Md_good ms dd l1 l2 bm rr kt x (nI k) P := md_good hk M.hS M.h8 M.hms h1 h2
end LS
section LS2
variable {ms : Int32} {mn S : Nat} {g rg hq mf : Nat → Int32} {cd : Int32} {fg : Nat → Int32} {L O : Fr4} {dd bm rr kt : Nat → Int32} {l1 l2 : Int64} {w : Int32}
theorem rd4_e {a : Nat} : rdv bm a 4 = q_word bm (a / 4) := by unfold rdv; rw [if_neg (by decide), if_neg (by decide)]
end LS2
section STEP
variable {ms : Int32} {mn S : Nat} {g rg hq mf : Nat → Int32} {cd : Int32} {fg : Nat → Int32} {L O : Fr4} {dd bm rr kt : Nat → Int32} {l1 l2 : Int64} {w : Int32}
/-! ===== the calls: run, pass, put, word, and the rest ===== -/
/-- what is known of the end: none or one of the eight; behind a BREAK or SYSCALL, PC is good -/
def q_kd (S : Nat) (e p : Int32) : Prop := ((e = 6 ∨ e = 7) → q_gd S 4 p) ∧ (e = 0 ∨ q_e e)
end STEP
/-- the relation between calls: and behind a BREAK or SYSCALL, PC is good -/
def q_ok (S mn : Nat) (u : CoT) (v : MdT) : Prop := q_st mn u v ∧ q_kd S (u.1 5) (u.1 0)
section CALLS
variable {ms : Int32} {mn S : Nat} {g rg hq mf : Nat → Int32} {cd : Int32} {fg : Nat → Int32} {L O : Fr4} {dd bm rr kt : Nat → Int32} {l1 l2 : Int64} {ov : Nat → Int64} {a0 a1 : Int32}
/-! ===== each call of both ===== -/
abbrev ClT : Type := Fr4 → Fr4 → (Int32 → (CoT × (Nat → Int64)) → Prop) → Prop
abbrev RfT : Type := MdT → (Int32 → MdT → Prop) → Prop
/-- what a call comes to on both sides: k tells a refusal, b is the reference's answer; e: whether the answers are one -/
def cal (S mn : Nat) (v : MdT) (cls : ClT) (ref : RfT) (e : Prop) : Prop :=
  ∃ (k b : Int32) (u' : CoT) (v' : MdT) (ov' : Nat → Int64), (q_ok S mn u' v' ∧ v'.1 0 = k ∧ (e → k = 0 → ov' 0 = b.toInt64)) ∧ (∀ (L O : Fr4) (P : Int32 → (CoT × (Nat → Int64)) → Prop), (∀ L' O', P k ((u'.1, u'.2.1, u'.2.2.1, u'.2.2.2.1, u'.2.2.2.2.1, u'.2.2.2.2.2.1, L', O'), ov')) → cls L O P) ∧ (∀ v0 : MdT, vs9 v v0 → ∀ Q : Int32 → MdT → Prop, (∀ v'', vs9 v' v'' → Q b v'') → ref v0 Q)
theorem ov_0 (x : Int64) : vp_updL ov (0 : Int32).toNatClampNeg x 0 = x := by rw [show (0 : Int32).toNatClampNeg = 0 by decide]; exact pk_uLs
/-- the scalars after an upd -/
theorem s9 {d d0 : Nat → Int32} {k : Nat} {x : Int32} (h : ∀ j, j < 11 → j ≠ 9 → d0 j = d j) : ∀ j, j < 11 → j ≠ 9 → upd d0 k x j = upd d k x j := by
  intro j hj h9
  by_cases c : j = k
  · subst c; rw [pk_us, pk_us]
  · rw [pk_un c, pk_un c]; exact h j hj h9
theorem cal_put (M : mem ms mn S) (h : q_ok S mn (g, rg, hq, mf, cd, fg, L, O) (dd, l1, l2, bm, rr, kt)) :
    cal S mn (dd, l1, l2, bm, rr, kt) (fun L O P => wp_La_put ms mn g rg hq mf cd fg L O ov a0 a1 P) (fun v0 Q => wp_Md_put_III ms v0.1 v0.2.1 v0.2.2.1 v0.2.2.2.1 v0.2.2.2.2.1 v0.2.2.2.2.2 a0 a1 Q) True := by
  obtain ⟨⟨hr, hn⟩, hb⟩ := h
  by_cases c : q_gd S 4 a0
  · obtain ⟨a, ea, h1, h2⟩ := id c
    have hm := M.m8
    have hmn := M.hmn
    have hw : mf (a / 4) = q_word bm (a / 4) := hr.2.2.2.2.2.2.2.2 _ (by omega)
    refine ⟨0, q_word bm (a / 4), (g, rg, hq, upd mf (a / 4) (q_word (stb bm a 4 a1) (a / 4)), cd, fg, L, O), (upd dd 0 0, l1, l2, stb bm a 4 a1, rr, kt), vp_updL ov (0 : Int32).toNatClampNeg (q_word bm (a / 4)).toInt64, ⟨⟨⟨q_mem (dd := upd dd 0 0) hr (stb_k (Or.inr (Or.inr rfl)) h2), hn⟩, hb⟩, rfl, fun _ _ => ov_0 _⟩, fun L O P hP => ?_, fun v0 h0 Q hQ => ?_⟩
    · unfold wp_La_put wp_Co_put
      refine me_gd (k := 4) M (Or.inr (Or.inr (Or.inl rfl))) (fun _ => ?_) (fun q => absurd c q)
      refine bq_f (by decide) ?_
      rw [ea]
      refine me_rd (k := 4) (Or.inr (Or.inr rfl)) M.hS hmn h1 h2 (by omega) hw ?_
      rw [rd4_e]
      exact me_wrt (k := 4) (Or.inr (Or.inr rfl)) M.hS hmn h1 h2 (by omega) hw (hP L O)
    · obtain ⟨d0, m1, m2, b0, r0, k0⟩ := v0
      obtain ⟨z1, z2, z3, z4⟩ := h0
      dsimp only at z1 z2 z3 z4
      subst z2; subst z3; subst z4
      unfold wp_Md_put_III
      refine md_gd (k := 4) M (Or.inr (Or.inr (Or.inl rfl))) (fun _ => ?_) (fun q => absurd c q)
      refine bq_f (by decide) ?_
      rw [ea]
      refine md_part (k := 4) (Or.inr (Or.inr rfl)) M.hS h1 h2 ?_
      rw [rd4_e]
      exact md_store (k := 4) (Or.inr (Or.inr rfl)) M.hS h1 (hQ _ ⟨s9 z1, rfl, rfl, rfl⟩)
  · refine ⟨1, 0, (g, rg, hq, mf, cd, fg, L, O), (upd (upd dd 0 0) 0 1, l1, l2, bm, rr, kt), ov, ⟨⟨⟨hr, hn⟩, hb⟩, rfl, fun _ q => absurd q (by decide)⟩, fun L O P hP => ?_, fun v0 h0 Q hQ => ?_⟩
    · unfold wp_La_put wp_Co_put
      refine me_gd (k := 4) M (Or.inr (Or.inr (Or.inl rfl))) (fun q => absurd q c) (fun _ => ?_)
      exact bq_t rfl ⟨rfl, hP L O⟩
    · obtain ⟨d0, m1, m2, b0, r0, k0⟩ := v0
      obtain ⟨z1, z2, z3, z4⟩ := h0
      dsimp only at z1 z2 z3 z4
      subst z2; subst z3; subst z4
      unfold wp_Md_put_III wp_Md_fail
      refine md_gd (k := 4) M (Or.inr (Or.inr (Or.inl rfl))) (fun q => absurd q c) (fun _ => ?_)
      exact bq_t rfl (hQ _ ⟨s9 (s9 z1), rfl, rfl, rfl⟩)
end CALLS
section PASS
variable {ms : Int32} {mn S : Nat} {g rg hq mf : Nat → Int32} {cd : Int32} {fg : Nat → Int32} {L O : Fr4} {dd bm rr kt : Nat → Int32} {l1 l2 : Int64} {ov : Nat → Int64} {a0 a1 : Int32}
/-! ===== pass and end ===== -/
theorem upd_cm {f : Nat → Int32} {i j : Nat} {x y : Int32} (h : i ≠ j) : upd (upd f i x) j y = upd (upd f j y) i x := by
  funext k
  by_cases c : k = i
  · subst c; rw [pk_un h, pk_us, pk_us]
  · by_cases d : k = j
    · subst d; rw [pk_us, pk_un c, pk_us]
    · rw [pk_un d, pk_un c, pk_un c, pk_un d]
/-- the reference's scalars as it passes -/
def p_d (d : Nat → Int32) : Nat → Int32 := upd (upd (upd (upd (upd d 0 0) 5 0) 11 0) 12 0) 13 0
theorem p_mv (d : Nat → Int32) : mvd (p_d d) = upd (upd (upd (p_d d) 4 (d 4 + 4)) 3 (d 4)) 6 0 := by
  have e13 : p_d d 13 = 0 := pk_us
  have e12 : p_d d 12 = 0 := (pk_un (by decide)).trans pk_us
  have e11 : p_d d 11 = 0 := (pk_un (by decide)).trans ((pk_un (by decide)).trans pk_us)
  have e4 : p_d d 4 = d 4 := (pk_un (by decide)).trans ((pk_un (by decide)).trans ((pk_un (by decide)).trans ((pk_un (by decide)).trans (pk_un (by decide)))))
  unfold mvd
  rw [if_pos e13, if_pos e11, e12, e4]
theorem p_mk (d kt : Nat → Int32) : mvk (p_d d) kt = upd (upd kt 0 (kt 0 + 1)) 3 (kt 3 + 0) := by
  have e13 : p_d d 13 = 0 := pk_us
  have e11 : p_d d 11 = 0 := (pk_un (by decide)).trans ((pk_un (by decide)).trans pk_us)
  unfold mvk
  rw [if_pos e13, if_pos e11]
/-- the class as it passes -/
def p_g (g : Nat → Int32) : Nat → Int32 := upd (upd (upd (upd (upd g 0 (g 1)) 1 (g 1 + 4)) 2 0) 7 (g 7 + 1)) 5 0
theorem p_st (h : q_rel mn g rg hq mf cd fg dd bm rr kt) : q_st mn (p_g g, rg, hq, mf, cd, fg, L, O) (mvd (p_d dd), l1, l2, bm, rr, mvk (p_d dd) kt) := by
  have hr : q_rel mn (upd g 5 0) rg hq mf cd fg (p_d dd) bm rr kt := by
    obtain ⟨r1, r2, r3, r4, r5, r6, r7, r8, r9⟩ := h
    exact ⟨r1, r2, r3, r4, r5, r6, ⟨r7.1, r7.2.1, rfl, r7.2.2.2⟩, r8, r9⟩
  have e13 : p_d dd 13 = 0 := pk_us
  have e12 : p_d dd 12 = 0 := (pk_un (by decide)).trans pk_us
  have e11 : p_d dd 11 = 0 := (pk_un (by decide)).trans ((pk_un (by decide)).trans pk_us)
  have e5 : p_d dd 5 = 0 := (pk_un (by decide)).trans ((pk_un (by decide)).trans ((pk_un (by decide)).trans pk_us))
  have o := oc_0 (L := L) (O := O) (l1 := l1) (l2 := l2) hr e5 e11 e12 e13
  rcases o with ⟨o1, -⟩ | ⟨-, -, -, o4⟩ | ⟨o1, -⟩
  · exact absurd (Int32.le_refl 0) (q_e_pos o1)
  · have eg : upd (upd (upd (upd (upd g 5 0) 0 (g 1)) 1 (g 1 + 4)) 2 0) 7 (g 7 + 1) = p_g g := by
      unfold p_g
      rw [upd_cm (i := 7) (j := 5) (by decide), upd_cm (i := 2) (j := 5) (by decide), upd_cm (i := 1) (j := 5) (by decide), upd_cm (i := 0) (j := 5) (by decide)]
    have q1 : upd g 5 0 1 = g 1 := pk_un (by decide)
    have q7 : upd g 5 0 7 = g 7 := pk_un (by decide)
    dsimp only at o4
    rw [q1, q7, eg] at o4
    exact o4
  · exact absurd o1 (by decide)
theorem cal_pass (M : mem ms mn S) (h : q_ok S mn (g, rg, hq, mf, cd, fg, L, O) (dd, l1, l2, bm, rr, kt)) :
    cal S mn (dd, l1, l2, bm, rr, kt) (fun L O P => wp_La_pass ms mn g rg hq mf cd fg L O ov P) (fun v0 Q => wp_Md_pass ms v0.1 v0.2.1 v0.2.2.1 v0.2.2.2.1 v0.2.2.2.2.1 v0.2.2.2.2.2 Q) False := by
  obtain ⟨⟨hr, hn⟩, hb⟩ := h
  have e5 : dd 5 = g 5 := hr.2.2.2.2.2.2.1.2.2.1
  have e3 : dd 3 = g 0 := hr.2.2.2.2.2.2.1.1
  by_cases c : g 5 = 6 ∨ g 5 = 7
  · obtain ⟨a, ea, h1, h2⟩ := hb.1 c
    dsimp only at ea
    have p5 : p_g g 5 = 0 := pk_us
    refine ⟨0, (zz_ushr (q_word bm (a / 4)) 6) &&& 1048575, (p_g g, rg, hq, mf, cd, fg, L, O), (mvd (p_d dd), l1, l2, bm, rr, mvk (p_d dd) kt), vp_updL ov (0 : Int32).toNatClampNeg (p_g g 6).toInt64, ⟨⟨p_st hr, ⟨fun q => absurd q (by dsimp only; rw [p5]; decide), Or.inl p5⟩⟩, by dsimp only; rw [p_mv]; rfl, fun q => q.elim⟩, fun L O P hP => ?_, fun v0 h0 Q hQ => ?_⟩
    · have go : wp_Pr_stepOver ms mn g rg hq mf cd fg L O (fun u_2 => P 0 ((u_2.1, u_2.2.1, u_2.2.2.1, u_2.2.2.2.1, u_2.2.2.2.2.1, u_2.2.2.2.2.2.1, u_2.2.2.2.2.2.2.1, u_2.2.2.2.2.2.2.2), vp_updL ov (0 : Int32).toNatClampNeg (u_2.1 6).toInt64)) := by
        unfold wp_Pr_stepOver wp_Pr_move
        refine ⟨Or.inl rfl, fun x ex => ?_⟩
        have e7 : upd (upd (upd g 0 (g 1)) 1 (g 1 + 4)) 2 0 7 = g 7 := (pk_un (by decide)).trans ((pk_un (by decide)).trans (pk_un (by decide)))
        dsimp only at ex
        rw [e7] at ex
        subst ex
        exact hP L O
      unfold wp_La_pass wp_Co_pass
      by_cases d : g 5 = 6
      · exact bq_t d go
      · exact bq_f d (bq_t (c.resolve_left d) go)
    · obtain ⟨d0, m1, m2, b0, r0, k0⟩ := v0
      obtain ⟨z1, z2, z3, z4⟩ := h0
      dsimp only at z1 z2 z3 z4
      subst z2; subst z3; subst z4
      show wp_Md_pass ms d0 m1 m2 b0 r0 k0 Q
      have z5 : d0 5 = g 5 := (z1 5 (by decide) (by decide)).trans e5
      have z3 : d0 3 = nI a := ((z1 3 (by decide) (by decide)).trans e3).trans ea
      have z4 : d0 4 = dd 4 := z1 4 (by decide) (by decide)
      have go : wp_Md_part ms (upd d0 0 0) m1 m2 b0 r0 k0 (d0 3) 4 (fun r_2 => ∀ x_3 : Int32, x_3 = ((zz_ushr r_2 6) &&& 1048575) → wp_Md_moveOn ms (p_d d0) m1 m2 b0 r0 k0 (fun u_4 => Q x_3 (u_4.1, u_4.2.1, u_4.2.2.1, u_4.2.2.2.1, u_4.2.2.2.2.1, u_4.2.2.2.2.2))) := by
        rw [z3]
        refine md_part4 h1 h2 M.hS (fun x ex => ?_)
        subst ex
        have e12 : p_d d0 12 = 0 := (pk_un (by decide)).trans pk_us
        refine md_moveOn (Or.inl e12) (hQ _ ⟨?_, rfl, rfl, ?_⟩)
        · dsimp only
          rw [p_mv, p_mv, z4]
          unfold p_d
          exact s9 (s9 (s9 (s9 (s9 (s9 (s9 (s9 z1)))))))
        · dsimp only
          rw [p_mk, p_mk]
      unfold wp_Md_pass
      by_cases d : d0 5 = 6
      · exact bq_t d go
      · exact bq_f d (bq_t (by rw [z5] at d ⊢; exact c.resolve_left d) go)
  · refine ⟨1, 0, (g, rg, hq, mf, cd, fg, L, O), (upd (upd dd 0 0) 0 1, l1, l2, bm, rr, kt), ov, ⟨⟨⟨hr, hn⟩, hb⟩, rfl, fun q => q.elim⟩, fun L O P hP => ?_, fun v0 h0 Q hQ => ?_⟩
    · unfold wp_La_pass wp_Co_pass
      exact bq_f (fun q => c (Or.inl q)) (bq_f (fun q => c (Or.inr q)) ⟨rfl, hP L O⟩)
    · obtain ⟨d0, m1, m2, b0, r0, k0⟩ := v0
      obtain ⟨z1, z2, z3, z4⟩ := h0
      dsimp only at z1 z2 z3 z4
      subst z2; subst z3; subst z4
      show wp_Md_pass ms d0 m1 m2 b0 r0 k0 Q
      have z5 : d0 5 = g 5 := (z1 5 (by decide) (by decide)).trans e5
      unfold wp_Md_pass wp_Md_fail
      refine bq_f (fun q => c (Or.inl (z5 ▸ q))) (bq_f (fun q => c (Or.inr (z5 ▸ q))) (hQ _ ⟨s9 (s9 z1), rfl, rfl, rfl⟩))
end PASS
