theorem nat_and8 {j : Nat} (hj : j < 4294967296) : j &&& 4294967288 = j / 8 * 8 := by
  rw [show (4294967288 : Nat) = (2 ^ 29 - 1) * 2 ^ 3 from rfl, show j / 8 * 8 = j / 2 ^ 3 * 2 ^ 3 from rfl]
  apply Nat.eq_of_testBit_eq
  intro i
  rw [Nat.testBit_and, Nat.testBit_mul_two_pow, Nat.testBit_mul_two_pow, Nat.testBit_two_pow_sub_one, Nat.testBit_div_two_pow]
  by_cases h3 : 3 ≤ i
  · rw [show i - 3 + 3 = i by omega]
    by_cases h9 : i - 3 < 29
    · simp [h3, h9]
    · have : j.testBit i = false := Nat.testBit_lt_two_pow (Nat.lt_of_lt_of_le hj (by
        calc 4294967296 = 2 ^ 32 := rfl
          _ ≤ 2 ^ i := Nat.pow_le_pow_right (by decide) (by omega)))
      simp [this]
  · simp [h3]
theorem zz_size_nat2 (a0 : Int32) : ∃ k : Nat, 8 ≤ k ∧ k ≤ 262144 ∧ zz_size a0 = nI k := by
  by_cases h1 : (1024 : Int32) ≤ a0
  · by_cases h2 : a0 ≤ (262144 : Int32)
    · have e1 := Int32.le_iff_toInt_le.mp h1
      rw [zz_t1024] at e1
      have h3 : ¬ a0 < 0 := fun q => by
        have e2 := Int32.lt_iff_toInt_lt.mp q
        rw [Int32.toInt_zero] at e2
        omega
      obtain ⟨j, hj, e⟩ := nI_of2 (x := a0) (M := 262144) (n := 262144) (by decide) h3 h2
      subst e
      rw [nI_toInt (by omega)] at e1
      refine ⟨j &&& 4294967288, ?_, Nat.le_trans Nat.and_le_left hj, ?_⟩
      · rw [nat_and8 (by omega)]; omega
      · rw [zz_size_mid h1 h2, ← zz_nand]
        rfl
    · exact ⟨262144, by decide, Nat.le_refl _, by rw [zz_size_hi h2]; decide⟩
  · exact ⟨1024, by decide, by decide, by rw [zz_size_lo h1]; decide⟩
section P1M
variable {ms : Int32} {mn S : Nat} {ov : Nat → Int64} {a0 a1 : Int32}
abbrev f_4 : Fr4 := (0, 0, 0, 0)
abbrev CT1 : Type := ((Nat → Int32) × (Nat → Int32) × (Nat → Int32) × (Nat → Int32) × Int32 × (Nat → Int32) × Fr4 × Fr4) × (Nat → Int64)
abbrev DT1 : Type := (Nat → Int32) × Int64 × Int64 × (Nat → Int32) × (Nat → Int32) × (Nat → Int32)
theorem n_run {a0 : Int32} (c : ¬ a0 < 1) (d : a0 ≤ 10000) : ∃ N : Nat, 1 ≤ N ∧ N ≤ 10000 ∧ a0 = nI N := by
  have c1 : ¬ a0 < 0 := fun q => c (Int32.lt_iff_toInt_lt.mpr (by
    have := Int32.lt_iff_toInt_lt.mp q
    rw [Int32.toInt_zero] at this
    rw [show (1 : Int32).toInt = 1 by decide]; omega))
  obtain ⟨N, hN, e⟩ := nI_of2 (x := a0) (M := 10000) (n := 10000) (by decide) c1 d
  refine ⟨N, ?_, hN, e⟩
  rcases Nat.eq_zero_or_pos N with z | z
  · subst z; subst e
    exact absurd (by decide) c
  · exact z
theorem co_run1 {P : Int32 → CT1 → Prop} (hS : S ≤ 262144) (hS8 : 8 ≤ S) (hms : ms = nI S) (hmn : mn = S / 4) (h1 : (a0 < 1 ∨ ¬ a0 ≤ 10000) → P 1 ((f_g, f_0, f_h, f_0, 0, f_0, f_4, f_4), ov))
    (h3 : ∀ N : Nat, 1 ≤ N → N ≤ 10000 → a0 = nI N → ∀ g' : Nat → Int32, P 0 ((g', f_0, f_h, f_0, 0, f_0, f_4, f_4), vp_updL ov (0 : Int32).toNatClampNeg (nI (min N (S / 4))).toInt64)) : wp_La_run ms mn f_g f_0 f_h f_0 0 f_0 f_4 f_4 ov a0 P := by
  unfold wp_La_run wp_Co_run
  refine ⟨fun c => Or.inl ⟨rfl, h1 (Or.inl c)⟩, fun c => ⟨fun d => ⟨fun _ => ?_, fun e => absurd rfl e⟩, fun d => Or.inl ⟨rfl, h1 (Or.inr d)⟩⟩⟩
  obtain ⟨N, n1, n2, rfl⟩ := n_run c d
  exact ⟨N + 1, co_zrun n2 hS hS8 hms hmn (fun g' => h3 N n1 n2 rfl g') N 0 f_g (by omega) (by omega) ⟨rfl, rfl, rfl⟩⟩
theorem md_run1 {P : Int32 → DT1 → Prop} (hS : S ≤ 262144) (hS8 : 8 ≤ S) (hms : ms = nI S) (h1 : (a0 < 1 ∨ ¬ a0 ≤ 10000) → P 0 (upd (upd f_d 0 0) 0 1, 0, 0, f_0, f_0, f_0))
    (h3 : ∀ N : Nat, 1 ≤ N → N ≤ 10000 → a0 = nI N → ∀ d' k' : Nat → Int32, d' 0 = 0 → P (nI (min N (S / 4))) (d', 0, 0, f_0, f_0, k')) : wp_Md_run ms f_d 0 0 f_0 f_0 f_0 a0 P := by
  unfold wp_Md_run wp_Md_fail
  refine ⟨fun c => h1 (Or.inl c), fun c => ⟨fun d => ⟨fun _ => ?_, fun e => absurd (by decide) e⟩, fun d => h1 (Or.inr d)⟩⟩
  obtain ⟨N, n1, n2, rfl⟩ := n_run c d
  exact ⟨N + 2, md_zrun n2 hS hS8 hms (fun d' k' q => h3 N n1 n2 rfl d' k' q) N 0 (upd f_d 0 0) f_0 (by omega) (by omega) ⟨rfl, rfl, rfl, rfl⟩⟩
theorem co_word1 {P : Int32 → CT1 → Prop} (hS : S ≤ 262144) (hS8 : 8 ≤ S) (hms : ms = nI S) (hmn : mn = S / 4) (h1 : ¬ q_gd S 4 a0 → P 1 ((f_g, f_0, f_h, f_0, 0, f_0, f_4, f_4), ov))
    (h3 : q_gd S 4 a0 → P 0 ((f_g, f_0, f_h, f_0, 0, f_0, f_4, f_4), vp_updL ov (0 : Int32).toNatClampNeg (0 : Int32).toInt64)) : wp_La_word ms mn f_g f_0 f_h f_0 0 f_0 f_4 f_4 ov a0 P := by
  unfold wp_La_word wp_Co_word
  refine me_good (S := S) (k := 4) (by unfold q_k; omega) hS hS8 hms (fun hg => ⟨fun c => absurd c (by decide), fun _ => ?_⟩) (fun hg => ⟨fun _ => ⟨rfl, h1 hg⟩, fun c => absurd rfl c⟩)
  have h := h3 hg
  obtain ⟨a, rfl, ha, h4⟩ := hg
  exact me_read4 (S := S) ha h4 hS hmn h
theorem md_word1 {P : Int32 → DT1 → Prop} (hS : S ≤ 262144) (hS8 : 8 ≤ S) (hms : ms = nI S) (h1 : ¬ q_gd S 4 a0 → P 0 (upd (upd f_d 0 0) 0 1, 0, 0, f_0, f_0, f_0))
    (h3 : q_gd S 4 a0 → P 0 (upd f_d 0 0, 0, 0, f_0, f_0, f_0)) : wp_Md_word ms f_d 0 0 f_0 f_0 f_0 a0 P := by
  unfold wp_Md_word wp_Md_fail
  refine md_good (S := S) (k := 4) (by unfold q_k; omega) hS hS8 hms (fun hg => ⟨fun c => absurd c (by decide), fun _ => ?_⟩) (fun hg => ⟨fun _ => h1 hg, fun c => absurd rfl c⟩)
  have h := h3 hg
  obtain ⟨a, rfl, ha, h4⟩ := hg
  refine md_part4 (S := S) ha h4 hS ?_
  rw [q_word0]
  exact h
theorem md_store4 {P : DT1 → Prop} {a : Nat} {v : Int32} {dd bm rr kt : Nat → Int32} {l1 l2 : Int64} (ha : a + 4 ≤ S) (hS : S ≤ 262144) (h : ∀ b' : Nat → Int32, P (dd, l1, l2, b', rr, kt)) : wp_Md_store ms dd l1 l2 bm rr kt (nI a) 4 v P := by
  have hin : ∀ j : Nat, j ≤ 3 → vp_in (nI a + nI j) 262144 := fun j hj => by rw [nI_add]; exact vp_in_nI (by omega) (by decide)
  refine ⟨5, ?_⟩
  rw [wl_Md_store_3]
  refine ⟨fun c => absurd c (by decide), fun _ x0 _ y0 _ => ⟨hin 0 (by decide), fun z0 g0 => ?_⟩⟩
  have k0 : z0 = nI 1 := g0.trans (by decide)
  subst k0
  rw [wl_Md_store_3]
  refine ⟨fun c => absurd c (by decide), fun _ x1 _ y1 _ => ⟨hin 1 (by decide), fun z1 g1 => ?_⟩⟩
  have k1 : z1 = nI 2 := g1.trans (by decide)
  subst k1
  rw [wl_Md_store_3]
  refine ⟨fun c => absurd c (by decide), fun _ x2 _ y2 _ => ⟨hin 2 (by decide), fun z2 g2 => ?_⟩⟩
  have k2 : z2 = nI 3 := g2.trans (by decide)
  subst k2
  rw [wl_Md_store_3]
  refine ⟨fun c => absurd c (by decide), fun _ x3 _ y3 _ => ⟨hin 3 (by decide), fun z3 g3 => ?_⟩⟩
  have k3 : z3 = nI 4 := g3.trans (by decide)
  subst k3
  rw [wl_Md_store_3]
  exact ⟨fun _ => h _, fun c => absurd (by decide) c⟩
theorem co_put1 {P : Int32 → CT1 → Prop} (hS : S ≤ 262144) (hS8 : 8 ≤ S) (hms : ms = nI S) (hmn : mn = S / 4) (h1 : ¬ q_gd S 4 a0 → P 1 ((f_g, f_0, f_h, f_0, 0, f_0, f_4, f_4), ov))
    (h3 : q_gd S 4 a0 → ∀ m' : Nat → Int32, P 0 ((f_g, f_0, f_h, m', 0, f_0, f_4, f_4), vp_updL ov (0 : Int32).toNatClampNeg (0 : Int32).toInt64)) : wp_La_put ms mn f_g f_0 f_h f_0 0 f_0 f_4 f_4 ov a0 a1 P := by
  unfold wp_La_put wp_Co_put
  refine me_good (S := S) (k := 4) (by unfold q_k; omega) hS hS8 hms (fun hg => ⟨fun c => absurd c (by decide), fun _ => ?_⟩) (fun hg => ⟨fun _ => ⟨rfl, h1 hg⟩, fun c => absurd rfl c⟩)
  have h := h3 hg
  obtain ⟨a, rfl, ha, h4⟩ := hg
  exact me_read4 (S := S) ha h4 hS hmn (me_write4 (S := S) ha h4 hS hmn (h _))
theorem md_put1 {P : Int32 → DT1 → Prop} (hS : S ≤ 262144) (hS8 : 8 ≤ S) (hms : ms = nI S) (h1 : ¬ q_gd S 4 a0 → P 0 (upd (upd f_d 0 0) 0 1, 0, 0, f_0, f_0, f_0))
    (h3 : q_gd S 4 a0 → ∀ b' : Nat → Int32, P 0 (upd f_d 0 0, 0, 0, b', f_0, f_0)) : wp_Md_put_III ms f_d 0 0 f_0 f_0 f_0 a0 a1 P := by
  unfold wp_Md_put_III wp_Md_fail
  refine md_good (S := S) (k := 4) (by unfold q_k; omega) hS hS8 hms (fun hg => ⟨fun c => absurd c (by decide), fun _ => ?_⟩) (fun hg => ⟨fun _ => h1 hg, fun c => absurd rfl c⟩)
  have h := h3 hg
  obtain ⟨a, rfl, ha, h4⟩ := hg
  refine md_part4 (S := S) ha h4 hS ?_
  rw [q_word0]
  exact md_store4 (S := S) ha hS h
theorem co_pass1 {P : Int32 → CT1 → Prop} (h : P 1 ((f_g, f_0, f_h, f_0, 0, f_0, f_4, f_4), ov)) : wp_La_pass ms mn f_g f_0 f_h f_0 0 f_0 f_4 f_4 ov P := by
  unfold wp_La_pass wp_Co_pass
  exact ⟨fun c => absurd c (by decide), fun _ => ⟨fun c => absurd c (by decide), fun _ => ⟨rfl, h⟩⟩⟩
theorem md_pass1 {P : Int32 → DT1 → Prop} (h : P 0 (upd (upd f_d 0 0) 0 1, 0, 0, f_0, f_0, f_0)) : wp_Md_pass ms f_d 0 0 f_0 f_0 f_0 P := by
  unfold wp_Md_pass wp_Md_fail
  exact ⟨fun c => absurd c (by decide), fun _ => ⟨fun c => absurd c (by decide), fun _ => h⟩⟩
end P1M
theorem wl_exit {xs : Nat → Int32} {ms : Int32} {mn : Nat} {ms2 : Int32} {n : Nat} {y : Int32} {g rg hq mf : Nat → Int32} {cd : Int32} {fg : Nat → Int32} {L O : Int32 × Int32 × Int32 × Int64} {ov : Nat → Int64} {dd : Nat → Int32} {l1 l2 : Int64} {bm rr kt : Nat → Int32} {Ln : Nat} (hy : (Int32.ofNat Ln - 3) < y) : wl_law Ln xs ms mn ms2 (n + 1) y g rg hq mf cd fg L O ov dd l1 l2 bm rr kt := by
  rw [wl_law]
  exact fun x hx => ⟨fun _ => trivial, fun c => absurd (by rw [hx]; exact hy) c⟩
theorem zz_fin {r13 r8 r12 : Int32} {x0 : Int64} {K : Int32 → Prop} {v4 : Int32} (h1 : r13 = r8) (h2 : r8 = 0 → x0 = r12.toInt64) (hK : K (v4 + 3)) : ((r13 = r8 → ((r8 = (0 : Int32) → ∀ x : Int64, x = x0 → ((x = r12.toInt64 → ∀ y : Int32, y = v4 + 3 → K y) ∧ (¬ x = r12.toInt64 → False))) ∧ (¬ r8 = (0 : Int32) → ∀ y : Int32, y = v4 + 3 → K y))) ∧ (¬ r13 = r8 → False)) :=
  ⟨fun _ => ⟨fun h x e => ⟨fun _ y ey => ey ▸ hK, fun q => q (e.trans (h2 h))⟩, fun _ y ey => ey ▸ hK⟩, fun q => q h1⟩
