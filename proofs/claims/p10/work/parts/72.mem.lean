/-! ===== memory: good addresses, words ===== -/
section QM
variable {ms : Int32} {mn S : Nat} {g rg hq mf : Nat → Int32} {cd : Int32} {fg : Nat → Int32} {L O : Fr4} {ov : Nat → Int64} {dd bm rr kt : Nat → Int32} {l1 l2 : Int64} {a0 a1 : Int32}
/-- an address that is good for so many bytes -/
def q_gd (S k : Nat) (a0 : Int32) : Prop := ∃ a : Nat, a0 = nI a ∧ a + k ≤ S ∧ a % k = 0
def q_k (k : Nat) : Prop := k = 1 ∨ k = 2 ∨ k = 4 ∨ k = 8
theorem and_k {k a : Nat} (hk : q_k k) (ha : a < 2 ^ 31) : nI a &&& (nI k - 1) = nI (a % k) := by
  rcases hk with rfl | rfl | rfl | rfl
  · exact pk_andN (by omega) 0 (by decide)
  · exact pk_andN (by omega) 1 (by decide)
  · exact pk_andN (by omega) 2 (by decide)
  · exact pk_andN (by omega) 3 (by decide)
theorem me_good {P : Int32 → Prop} {k : Nat} (hk : q_k k) (hS : S ≤ 262144) (hS8 : 8 ≤ S) (hms : ms = nI S) (h1 : q_gd S k a0 → P 1) (h2 : ¬ q_gd S k a0 → P 0) : wp_Me_good ms mn mf a0 (nI k) P := by
  have hk8 : 1 ≤ k ∧ k ≤ 8 := by rcases hk with rfl | rfl | rfl | rfl <;> omega
  unfold wp_Me_good
  rw [hms, pk_sub (a := S) (b := k) (by omega)]
  refine ⟨fun c => h2 ?_, fun c => ?_⟩
  · rintro ⟨a, rfl, ha, -⟩
    exact nI_pos (by omega) c
  · obtain ⟨a, ha, rfl⟩ := nI_of c
    rw [and_k hk ha, nI_ltI (by omega) ha, show (0 : Int32) = nI 0 from rfl, nI_eq (Nat.lt_of_le_of_lt (Nat.mod_le a k) ha) (by decide)]
    refine ⟨fun d => h2 ?_, fun d => ⟨fun e => h1 ⟨a, rfl, by omega, e⟩, fun e => h2 ?_⟩⟩
    · rintro ⟨b, hb, hb1, -⟩
      have e1 : a = b := (nI_eq ha (by omega)).mp hb
      omega
    · rintro ⟨b, hb, hb1, hb2⟩
      have e1 : a = b := (nI_eq ha (by omega)).mp hb
      exact e (by rw [e1]; exact hb2)
theorem md_good {P : Int32 → Prop} {k : Nat} (hk : q_k k) (hS : S ≤ 262144) (hS8 : 8 ≤ S) (hms : ms = nI S) (h1 : q_gd S k a0 → P 1) (h2 : ¬ q_gd S k a0 → P 0) : wp_Md_good ms dd l1 l2 bm rr kt a0 (nI k) P := by
  have hk8 : 1 ≤ k ∧ k ≤ 8 := by rcases hk with rfl | rfl | rfl | rfl <;> omega
  unfold wp_Md_good
  rw [hms, pk_sub (a := S) (b := k) (by omega)]
  refine ⟨fun c => h2 ?_, fun c => ⟨nI_ne0 (by omega) (by omega), ?_⟩⟩
  · rintro ⟨a, rfl, ha, -⟩
    exact nI_pos (by omega) c
  · obtain ⟨a, ha, rfl⟩ := nI_of c
    rw [pk_rem ha (by omega) (by omega), nI_ltI (by omega) ha, show (0 : Int32) = nI 0 from rfl, nI_eq (Nat.lt_of_le_of_lt (Nat.mod_le a k) ha) (by decide)]
    refine ⟨fun e => ⟨fun d => h2 ?_, fun d => h1 ⟨a, rfl, by omega, e⟩⟩, fun e => h2 ?_⟩
    · rintro ⟨b, hb, hb1, -⟩
      have e1 : a = b := (nI_eq ha (by omega)).mp hb
      omega
    · rintro ⟨b, hb, hb1, hb2⟩
      have e1 : a = b := (nI_eq ha (by omega)).mp hb
      exact e (by rw [e1]; exact hb2)
theorem ushr2 {a : Nat} (ha : a < 2 ^ 31) : zz_ushr (nI a) 2 = nI (a / 4) := pk_ushrN (n := a) (by omega) 2 2 (by decide)
theorem and3 {a : Nat} (ha : a < 2 ^ 31) : nI a &&& 3 = nI (a % 4) := pk_andN (by omega) 2 (by decide)
theorem ushr_0 (x : Int32) : zz_ushr x 0 = x := by
  apply Int32.toBitVec_inj.mp
  apply BitVec.eq_of_toNat_eq
  unfold zz_ushr
  rw [pk_ushr x 0 0 (by decide)]
  simp
theorem and_m1 (x : Int32) : x &&& (-1) = x := by
  apply Int32.toBitVec_inj.mp
  show x.toBitVec &&& BitVec.allOnes 32 = x.toBitVec
  exact BitVec.and_allOnes
/-- a word that is read -/
theorem me_read4 {P : Int32 → Prop} {a : Nat} (ha : a + 4 ≤ S) (h4 : a % 4 = 0) (hS : S ≤ 262144) (hmn : mn = S / 4) (h : P (mf (a / 4))) : wp_Me_read ms mn mf (nI a) 4 P := by
  unfold wp_Me_read wp_Me_shift wp_Me_mask
  rw [ushr2 (by omega), and3 (by omega), h4]
  refine ⟨vp_in_nI (by omega) (by omega), fun x ex y ey z ez => ?_⟩
  rw [nI_clamp (by omega)] at ex
  have e1 : y * 8 = 0 := by rw [ey]; decide
  have e2 : zz_ushr (-1) z = -1 := by rw [ez]; decide
  rw [e1, e2, ushr_0, and_m1, ex]
  exact h
theorem shl_0 (x : Int32) : zz_shl x 0 = x := by
  unfold zz_shl
  exact sb_shl0 x
/-- a word that is written -/
theorem me_write4 {P : (Nat → Int32) → Prop} {a : Nat} {v : Int32} (ha : a + 4 ≤ S) (h4 : a % 4 = 0) (hS : S ≤ 262144) (hmn : mn = S / 4) (h : P (upd mf (a / 4) v)) : wp_Me_write ms mn mf (nI a) 4 v P := by
  unfold wp_Me_write wp_Me_shift wp_Me_mask
  rw [ushr2 (by omega), and3 (by omega), h4]
  have hin : vp_in (nI (a / 4)) mn := vp_in_nI (by omega) (by omega)
  refine fun y ey => ⟨hin, fun x ex z ez w ew q eq z2 ez2 t et => ⟨hin, ?_⟩⟩
  have e1 : y * 8 = 0 := by rw [ey]; decide
  have e2 : zz_ushr (-1) z = -1 := by rw [ez]; decide
  have e3 : zz_ushr (-1) z2 = -1 := by rw [ez2]; decide
  rw [e1, e2, shl_0] at ew
  have e4 : w = 0 := by rw [ew]; decide
  rw [e4] at eq
  have e5 : q = 0 := by rw [eq]; exact Int32.and_zero
  rw [e1, e3, shl_0, and_m1, e5] at et
  have e6 : t = v := by rw [et]; exact Int32.zero_or
  rw [nI_clamp (by omega), e6]
  exact h
/-- four bytes that are read -/
theorem md_part4 {P : Int32 → Prop} {a : Nat} (ha : a + 4 ≤ S) (h4 : a % 4 = 0) (hS : S ≤ 262144) (h : P (q_word bm (a / 4))) : wp_Md_part ms dd l1 l2 bm rr kt (nI a) 4 P := by
  have ea : 4 * (a / 4) = a := by omega
  refine ⟨5, ?_⟩
  have c0 : ∀ j : Nat, j ≤ 3 → nI a + nI j = nI (a + j) := fun j _ => nI_add a j
  have hin : ∀ j : Nat, j ≤ 3 → vp_in (nI (a + j)) 262144 := fun j hj => vp_in_nI (by omega) (by decide)
  rw [wl_Md_part_5]
  refine ⟨fun c => absurd c (by decide), fun _ => ?_⟩
  rw [show (0 : Int32) = nI 0 from rfl, c0 0 (by decide), nI_clamp (by omega)]
  refine ⟨hin 0 (by decide), fun x0 e0 y0 f0 z0 g0 => ?_⟩
  have k0 : z0 = nI 1 := g0.trans (by decide)
  subst k0
  rw [wl_Md_part_5]
  refine ⟨fun c => absurd c (by decide), fun _ => ?_⟩
  rw [c0 1 (by decide), nI_clamp (by omega)]
  refine ⟨hin 1 (by decide), fun x1 e1 y1 f1 z1 g1 => ?_⟩
  have k1 : z1 = nI 2 := g1.trans (by decide)
  subst k1
  rw [wl_Md_part_5]
  refine ⟨fun c => absurd c (by decide), fun _ => ?_⟩
  rw [c0 2 (by decide), nI_clamp (by omega)]
  refine ⟨hin 2 (by decide), fun x2 e2 y2 f2 z2 g2 => ?_⟩
  have k2 : z2 = nI 3 := g2.trans (by decide)
  subst k2
  rw [wl_Md_part_5]
  refine ⟨fun c => absurd c (by decide), fun _ => ?_⟩
  rw [c0 3 (by decide), nI_clamp (by omega)]
  refine ⟨hin 3 (by decide), fun x3 e3 y3 f3 z3 g3 => ?_⟩
  have k3 : z3 = nI 4 := g3.trans (by decide)
  subst k3
  rw [wl_Md_part_5]
  refine ⟨fun _ => ?_, fun c => absurd (by decide) c⟩
  have e : y3 = q_word bm (a / 4) := by
    unfold q_word
    rw [ea, f3, f2, f1, f0, e0, e1, e2, e3]
    rfl
  rw [e]
  exact h
end QM
