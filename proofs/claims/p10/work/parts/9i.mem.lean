/-! ===== memory: words and bytes, lane by lane ===== -/
/-- bit r of byte t, the lowest byte first -/
def ln (x : Int32) (t r : Nat) : Bool := x.toBitVec.getLsbD (8 * t + r)
theorem ln_ext {x y : Int32} (h : ∀ t, t < 4 → ∀ r, r < 8 → ln x t r = ln y t r) : x = y := by
  apply i_ext
  intro i hi
  have := h (i / 8) (by omega) (i % 8) (Nat.mod_lt _ (by decide))
  unfold ln at this
  rw [Nat.div_add_mod] at this
  exact this
theorem ln_4 {x : Int32} {t r : Nat} (h : 4 ≤ t) : ln x t r = false := by
  unfold ln
  exact BitVec.getLsbD_of_ge _ _ (by omega)
theorem ln_or (x y : Int32) (t r : Nat) : ln (x ||| y) t r = (ln x t r || ln y t r) := by unfold ln; rw [Int32.toBitVec_or, BitVec.getLsbD_or]
theorem ln_and (x y : Int32) (t r : Nat) : ln (x &&& y) t r = (ln x t r && ln y t r) := by unfold ln; rw [Int32.toBitVec_and, BitVec.getLsbD_and]
theorem ln_not (x : Int32) {t r : Nat} (ht : t < 4) (hr : r < 8) : ln (x ^^^ (-1)) t r = !ln x t r := by
  unfold ln
  rw [Int32.toBitVec_xor, BitVec.getLsbD_xor]
  have : (-1 : Int32).toBitVec.getLsbD (8 * t + r) = true := by
    show (BitVec.allOnes 32).getLsbD _ = true
    rw [BitVec.getLsbD_allOnes]; simp; omega
  rw [this]; simp
theorem sm32 : ∀ k, k < 32 → (nI k &&& 31).toBitVec.smod 32 = BitVec.ofNat 32 k := by decide +kernel
theorem um32 : ∀ k, k < 32 → ((nI k).toUInt32 &&& Int32.toUInt32 31).toBitVec % 32 = BitVec.ofNat 32 k := by decide +kernel
theorem ln_shl (x : Int32) {u t r : Nat} (hu : u < 4) (ht : t < 4) (hr : r < 8) : ln (zz_shl x (nI (8 * u))) t r = (decide (u ≤ t) && ln x (t - u) r) := by
  unfold ln zz_shl
  rw [Int32.toBitVec_shiftLeft, sm32 _ (by omega), BitVec.shiftLeft_eq', BitVec.getLsbD_shiftLeft, BitVec.toNat_ofNat, Nat.mod_eq_of_lt (by omega)]
  by_cases c : u ≤ t
  · have c1 : ¬ 8 * t + r < 8 * u := by omega
    have c2 : 8 * t + r < 32 := by omega
    have c3 : 8 * t + r - 8 * u = 8 * (t - u) + r := by omega
    simp [c, c1, c2, c3]
  · have c1 : 8 * t + r < 8 * u := by omega
    simp [c, c1]
theorem ln_ushr (x : Int32) {u t r : Nat} (hu : u < 4) : ln (zz_ushr x (nI (8 * u))) t r = ln x (t + u) r := by
  unfold ln
  rw [ushr_bit x (nI (8 * u)) (8 * u) (um32 _ (by omega)) (by omega)]
  congr 1; omega
theorem ln_255 : ∀ t, t < 4 → ∀ r, r < 8 → ln 255 t r = decide (t = 0) := by decide +kernel
theorem ln_64k : ∀ t, t < 4 → ∀ r, r < 8 → ln 65535 t r = decide (t < 2) := by decide +kernel
theorem ln_m1 : ∀ t, t < 4 → ∀ r, r < 8 → ln (-1) t r = true := by decide +kernel
theorem ln_0 (t r : Nat) : ln 0 t r = false := by unfold ln; simp
/-- the byte that a store puts down -/
def vB (v : Int32) (s : Nat) : Int32 := (zz_shr v (nI s)).toInt8.toInt32
theorem ln_vB (v : Int32) {u r : Nat} (hu : u < 4) (hr : r < 8) : ln (vB v (8 * u)) 0 r = ln v u r := by
  unfold ln vB
  have e1 : ∀ z : Int32, z.toInt8.toInt32.toBitVec.getLsbD r = z.toBitVec.getLsbD r := by
    intro z
    show (BitVec.signExtend 32 (BitVec.signExtend 8 z.toBitVec)).getLsbD r = _
    rw [BitVec.getLsbD_signExtend, BitVec.getLsbD_signExtend]
    have h1 : r < 32 := by omega
    simp [h1, hr]
  rw [Nat.mul_zero, Nat.zero_add, e1]
  unfold zz_shr
  show (v.toBitVec.sshiftRight ((nI (8 * u) &&& 31).toBitVec.smod 32).toNat).getLsbD r = _
  rw [sm32 _ (by omega), BitVec.toNat_ofNat, Nat.mod_eq_of_lt (by omega), BitVec.getLsbD_sshiftRight]
  have h1 : ¬ 32 ≤ r := by omega
  have h2 : 8 * u + r < 32 := by omega
  simp [h1, h2]
/-- what a store of a byte without sign puts down -/
theorem ln_vBu (v : Int32) {u r : Nat} (hu : u < 4) (hr : r < 8) : ln (vB (zz_ushr v (nI (8 * u))) 0) 0 r = ln v u r := by
  rw [ln_vB (u := 0) _ (by decide) hr, ln_ushr _ hu, Nat.zero_add]
theorem ln_q (bm : Nat → Int32) (K : Nat) {t r : Nat} (ht : t < 4) (hr : r < 8) : ln (q_word bm K) t r = ln (bm (4 * K + 3 - t)) 0 r := by
  unfold q_word
  have s8 : ∀ (x : Int32) (t : Nat), t < 4 → ln (zz_shl x 8) t r = (decide (1 ≤ t) && ln x (t - 1) r) := fun x t ht => ln_shl (u := 1) x (by decide) ht hr
  have h4 : t = 0 ∨ t = 1 ∨ t = 2 ∨ t = 3 := by omega
  rcases h4 with rfl | rfl | rfl | rfl <;>
    simp [ln_or, ln_and, s8, ln_255 0 (by decide) r hr, ln_255 1 (by decide) r hr, ln_255 2 (by decide) r hr, ln_255 3 (by decide) r hr, ln_0]
theorem q_keep {bm bm' : Nat → Int32} {K k : Nat} (h : ∀ j, j / 4 ≠ K → bm' j = bm j) (hk : k ≠ K) : q_word bm' k = q_word bm k := by
  apply ln_ext
  intro t ht r hr
  rw [ln_q _ _ ht hr, ln_q _ _ ht hr, h _ (by omega)]
section MEM
variable {ms : Int32} {mn S : Nat} {g rg hq mf : Nat → Int32} {cd : Int32} {fg : Nat → Int32} {L O : Fr4} {dd bm rr kt : Nat → Int32} {l1 l2 : Int64} {w : Int32}
theorem q_mem {bm' : Nat → Int32} {K : Nat} (h : q_rel mn g rg hq mf cd fg dd bm rr kt) (hb : ∀ j, j / 4 ≠ K → bm' j = bm j) : q_rel mn g rg hq (upd mf K (q_word bm' K)) cd fg dd bm' rr kt := by
  obtain ⟨r1, r2, r3, r4, r5, r6, r7, r8, r9⟩ := h
  refine ⟨r1, r2, r3, r4, r5, r6, r7, r8, fun k hk => ?_⟩
  by_cases c : k = K
  · subst c; rw [pk_us]
  · rw [pk_un c, r9 k hk, q_keep hb c]
/-- so many bytes as a word -/
def rdv (bm : Nat → Int32) (a k : Nat) : Int32 := if k = 1 then bm a &&& 255 else if k = 2 then zz_shl (bm a &&& 255) 8 ||| (bm (a + 1) &&& 255) else q_word bm (a / 4)
theorem me_rd {P : Int32 → Prop} {a k : Nat} (hk : k = 1 ∨ k = 2 ∨ k = 4) (hS : S ≤ 262144) (hmn : mn = S / 4) (hg : a + k ≤ S) (h4 : a % k = 0) (hS4 : S % 4 = 0) (hw : mf (a / 4) = q_word bm (a / 4)) (h : P (rdv bm a k)) : wp_Me_read ms mn mf (nI a) (nI k) P := by
  unfold wp_Me_read wp_Me_shift wp_Me_mask
  have hk4 : k ≤ 4 := by omega
  have hok : k + a % 4 ≤ 4 := by rcases hk with rfl | rfl | rfl <;> omega
  rw [ushr2 (by omega), and3 (by omega), nI_clamp (by omega), hw]
  refine ⟨vp_in_nI (by omega) (by omega), fun x ex y ey z ez => ?_⟩
  have ho : a % 4 = 0 ∨ a % 4 = 1 ∨ a % 4 = 2 ∨ a % 4 = 3 := by omega
  have hy : y * 8 = nI (8 * (4 - k - a % 4)) := by
    rw [ey, show (4 : Int32) = nI 4 from rfl, pk_sub hk4, pk_sub (by omega), show (8 : Int32) = nI 8 from rfl, pk_mul, Nat.mul_comm]
  rw [hy, ex, ez]
  dsimp only
  have e : zz_ushr (q_word bm (a / 4)) (nI (8 * (4 - k - a % 4))) &&& zz_ushr (-1) ((4 - nI k) * 8) = rdv bm a k := by
    unfold rdv
    apply ln_ext
    intro t ht r hr
    have hu : 4 - k - a % 4 < 4 := by omega
    rw [ln_and, ln_ushr _ hu]
    rcases hk with rfl | rfl | rfl
    · rw [if_pos rfl, show zz_ushr (-1) ((4 - nI 1) * 8) = 255 by decide, ln_255 t ht r hr, ln_and, ln_255 t ht r hr]
      by_cases c : t = 0
      · subst c
        rw [ln_q _ _ (by omega) hr, show 4 * (a / 4) + 3 - (0 + (4 - 1 - a % 4)) = a by omega]
      · simp [c]
    · rw [if_neg (by decide), if_pos rfl, show zz_ushr (-1) ((4 - nI 2) * 8) = 65535 by decide, ln_64k t ht r hr, ln_or, ln_and, show (8 : Int32) = nI (8 * 1) from rfl, ln_shl _ (by decide) ht hr, ln_and, ln_255 t ht r hr]
      have h2 : t = 0 ∨ t = 1 ∨ 2 ≤ t := by omega
      rcases h2 with rfl | rfl | c
      · rw [ln_q _ _ (by omega) hr, show 4 * (a / 4) + 3 - (0 + (4 - 2 - a % 4)) = a + 1 by omega]
        simp
      · rw [ln_q _ _ (by omega) hr, show 4 * (a / 4) + 3 - (1 + (4 - 2 - a % 4)) = a by omega, show 1 - 1 = 0 from rfl, ln_255 0 (by decide) r hr]
        simp
      · have c1 : ¬ t < 2 := by omega
        have c2 : ¬ t = 0 := by omega
        rw [ln_255 (t - 1) (by omega) r hr]
        have c3 : ¬ t - 1 = 0 := by omega
        simp [c1, c2, c3]
    · rw [if_neg (by decide), if_neg (by decide), show zz_ushr (-1) ((4 - nI 4) * 8) = -1 by decide, ln_m1 t ht r hr, Bool.and_true]
      congr 1; omega
  rw [e]
  exact h
theorem md_part {P : Int32 → Prop} {a k : Nat} (hk : k = 1 ∨ k = 2 ∨ k = 4) (hS : S ≤ 262144) (hg : a + k ≤ S) (h4 : a % k = 0) (h : P (rdv bm a k)) : wp_Md_part ms dd l1 l2 bm rr kt (nI a) (nI k) P := by
  rcases hk with rfl | rfl | rfl
  · unfold rdv at h
    rw [if_pos rfl] at h
    refine ⟨2, ?_⟩
    rw [wl_Md_part_5]
    refine ⟨fun c => absurd c (by decide), fun _ => ⟨?_, fun x0 e0 y0 f0 z0 g0 => ?_⟩⟩
    · rw [show (0 : Int32) = nI 0 from rfl, nI_add]; exact vp_in_nI (by omega) (by decide)
    · have k0 : z0 = nI 1 := g0.trans (by decide)
      subst k0
      rw [wl_Md_part_5]
      refine ⟨fun _ => ?_, fun c => absurd (by decide) c⟩
      rw [show (0 : Int32) = nI 0 from rfl, nI_add, nI_clamp (by omega), Nat.add_zero] at e0
      rw [f0, e0, show zz_shl 0 8 = 0 by decide, Int32.zero_or]
      exact h
  · unfold rdv at h
    rw [if_neg (by decide), if_pos rfl] at h
    refine ⟨3, ?_⟩
    rw [wl_Md_part_5]
    refine ⟨fun c => absurd c (by decide), fun _ => ⟨?_, fun x0 e0 y0 f0 z0 g0 => ?_⟩⟩
    · rw [show (0 : Int32) = nI 0 from rfl, nI_add]; exact vp_in_nI (by omega) (by decide)
    · have k0 : z0 = nI 1 := g0.trans (by decide)
      subst k0
      rw [wl_Md_part_5]
      refine ⟨fun c => absurd c (by decide), fun _ => ⟨?_, fun x1 e1 y1 f1 z1 g1 => ?_⟩⟩
      · rw [nI_add]; exact vp_in_nI (by omega) (by decide)
      · have k1 : z1 = nI 2 := g1.trans (by decide)
        subst k1
        rw [wl_Md_part_5]
        refine ⟨fun _ => ?_, fun c => absurd (by decide) c⟩
        rw [show (0 : Int32) = nI 0 from rfl, nI_add, nI_clamp (by omega), Nat.add_zero] at e0
        rw [nI_add, nI_clamp (by omega)] at e1
        rw [f1, e1, f0, e0, show zz_shl 0 8 = 0 by decide, Int32.zero_or]
        exact h
  · unfold rdv at h
    rw [if_neg (by decide), if_neg (by decide)] at h
    exact md_part4 hg h4 hS h
/-- so many bytes put down -/
def stb (bm : Nat → Int32) (a k : Nat) (v : Int32) : Nat → Int32 := if k = 1 then upd bm a (vB v 0) else if k = 2 then upd (upd bm a (vB v 8)) (a + 1) (vB v 0) else upd (upd (upd (upd bm a (vB v 24)) (a + 1) (vB v 16)) (a + 2) (vB v 8)) (a + 3) (vB v 0)
theorem stb_k {a k : Nat} {v : Int32} (hk : k = 1 ∨ k = 2 ∨ k = 4) (h4 : a % k = 0) : ∀ j, j / 4 ≠ a / 4 → stb bm a k v j = bm j := by
  intro j hj
  unfold stb
  rcases hk with rfl | rfl | rfl
  · rw [if_pos rfl, pk_un (by rintro rfl; exact hj rfl)]
  · rw [if_neg (by decide), if_pos rfl, pk_un (by omega), pk_un (by omega)]
  · rw [if_neg (by decide), if_neg (by decide), pk_un (by omega), pk_un (by omega), pk_un (by omega), pk_un (by omega)]
theorem me_wrt {P : (Nat → Int32) → Prop} {a k : Nat} {v : Int32} (hk : k = 1 ∨ k = 2 ∨ k = 4) (hS : S ≤ 262144) (hmn : mn = S / 4) (hg : a + k ≤ S) (h4 : a % k = 0) (hS4 : S % 4 = 0) (hw : mf (a / 4) = q_word bm (a / 4)) (h : P (upd mf (a / 4) (q_word (stb bm a k v) (a / 4)))) : wp_Me_write ms mn mf (nI a) (nI k) v P := by
  unfold wp_Me_write wp_Me_shift wp_Me_mask
  have hk4 : k ≤ 4 := by omega
  have hok : k + a % 4 ≤ 4 := by rcases hk with rfl | rfl | rfl <;> omega
  rw [ushr2 (by omega), and3 (by omega), nI_clamp (by omega), hw]
  have hin : vp_in (nI (a / 4)) mn := vp_in_nI (by omega) (by omega)
  refine fun y ey => ⟨hin, fun x ex z ez m em q eq z2 ez2 t et => ⟨hin, ?_⟩⟩
  have hy : y * 8 = nI (8 * (4 - k - a % 4)) := by
    rw [ey, show (4 : Int32) = nI 4 from rfl, pk_sub hk4, pk_sub (by omega), show (8 : Int32) = nI 8 from rfl, pk_mul, Nat.mul_comm]
  have e : t = q_word (stb bm a k v) (a / 4) := by
    rw [et, eq, ex, em, ez, ez2, hy]
    unfold stb
    apply ln_ext
    intro t ht r hr
    have hu : 4 - k - a % 4 < 4 := by omega
    rw [ln_or, ln_and, ln_not _ ht hr, ln_shl _ hu ht hr, ln_shl _ hu ht hr, ln_and, ln_q _ _ ht hr, ln_q _ _ ht hr]
    rcases hk with rfl | rfl | rfl
    · rw [if_pos rfl, show zz_ushr (-1) ((4 - nI 1) * 8) = 255 by decide, ln_255 (t - (4 - 1 - a % 4)) (by omega) r hr]
      by_cases c : 4 * (a / 4) + 3 - t = a
      · rw [c, pk_us, ln_vB (u := 0) _ (by decide) hr]
        have c1 : 4 - 1 - a % 4 ≤ t := by omega
        have c2 : t - (4 - 1 - a % 4) = 0 := by omega
        simp [c1, c2]
      · rw [pk_un c]
        by_cases d : 4 - 1 - a % 4 ≤ t
        · have c2 : ¬ t - (4 - 1 - a % 4) = 0 := by omega
          simp [d, c2]
        · simp [d]
    · rw [if_neg (by decide), if_pos rfl, show zz_ushr (-1) ((4 - nI 2) * 8) = 65535 by decide, ln_64k (t - (4 - 2 - a % 4)) (by omega) r hr]
      by_cases c : 4 * (a / 4) + 3 - t = a + 1
      · rw [c, pk_us, ln_vB (u := 0) _ (by decide) hr]
        have c1 : 4 - 2 - a % 4 ≤ t := by omega
        have c2 : t - (4 - 2 - a % 4) = 0 := by omega
        simp [c1, c2]
      · rw [pk_un c]
        by_cases c' : 4 * (a / 4) + 3 - t = a
        · rw [c', pk_us, ln_vB (u := 1) _ (by decide) hr]
          have c1 : 4 - 2 - a % 4 ≤ t := by omega
          have c2 : t - (4 - 2 - a % 4) = 1 := by omega
          simp [c1, c2]
        · rw [pk_un c']
          by_cases d : 4 - 2 - a % 4 ≤ t
          · have c2 : ¬ t - (4 - 2 - a % 4) < 2 := by omega
            simp [d, c2]
          · simp [d]
    · rw [if_neg (by decide), if_neg (by decide), show zz_ushr (-1) ((4 - nI 4) * 8) = -1 by decide, ln_m1 _ (by omega) r hr]
      have e0 : 4 - 4 - a % 4 = 0 := by omega
      rw [e0]
      have hh : t = 0 ∨ t = 1 ∨ t = 2 ∨ t = 3 := by omega
      have ea : 4 * (a / 4) = a := by omega
      rw [ea]
      rcases hh with rfl | rfl | rfl | rfl
      · rw [show a + 3 - 0 = a + 3 from rfl, pk_us, ln_vB (u := 0) _ (by decide) hr]; simp
      · rw [show a + 3 - 1 = a + 2 from rfl, pk_un (by omega), pk_us, ln_vB (u := 1) _ (by decide) hr]; simp
      · rw [show a + 3 - 2 = a + 1 from rfl, pk_un (by omega), pk_un (by omega), pk_us, ln_vB (u := 2) _ (by decide) hr]; simp
      · rw [show a + 3 - 3 = a from rfl, pk_un (by omega), pk_un (by omega), pk_un (by omega), pk_us, ln_vB (u := 3) _ (by decide) hr]; simp
  rw [e]
  exact h
theorem vB_e {v s x y : Int32} {n : Nat} (hs : s = nI n) (hx : x = (zz_shr v s).toInt8.toInt32) : vp_nar .byte x = vB v n := by
  rw [hx, pk_vb, hs]; rfl
theorem md_store {P : MdT → Prop} {a k : Nat} {v : Int32} (hk : k = 1 ∨ k = 2 ∨ k = 4) (hS : S ≤ 262144) (hg : a + k ≤ S) (h : P (dd, l1, l2, stb bm a k v, rr, kt)) : wp_Md_store ms dd l1 l2 bm rr kt (nI a) (nI k) v P := by
  have hin : ∀ j, j < k → vp_in (nI a + nI j) 262144 ∧ (nI a + nI j).toNatClampNeg = a + j := fun j hj => by
    rw [nI_add]; exact ⟨vp_in_nI (by omega) (by decide), nI_clamp (by omega)⟩
  unfold stb at h
  rcases hk with rfl | rfl | rfl
  · rw [if_pos rfl] at h
    refine ⟨2, ?_⟩
    rw [wl_Md_store_3]
    refine ⟨fun c => absurd c (by decide), fun _ s0 e0 b0 f0 => ⟨(hin 0 (by decide)).1, fun t0 g0 => ?_⟩⟩
    rw [vB_e (n := 0) (y := 0) (e0.trans (by decide)) f0, show (0 : Int32) = nI 0 from rfl, (hin 0 (by decide)).2, g0]
    rw [wl_Md_store_3]
    exact ⟨fun _ => h, fun c => absurd (by decide) c⟩
  · rw [if_neg (by decide), if_pos rfl] at h
    refine ⟨3, ?_⟩
    rw [wl_Md_store_3]
    refine ⟨fun c => absurd c (by decide), fun _ s0 e0 b0 f0 => ⟨(hin 0 (by decide)).1, fun t0 g0 => ?_⟩⟩
    have g0 : t0 = nI 1 := g0.trans (by decide)
    rw [vB_e (n := 8) (y := 0) (e0.trans (by decide)) f0, show (0 : Int32) = nI 0 from rfl, (hin 0 (by decide)).2, g0]
    rw [wl_Md_store_3]
    refine ⟨fun c => absurd c (by decide), fun _ s1 e1 b1 f1 => ⟨(hin 1 (by decide)).1, fun t1 g1 => ?_⟩⟩
    have g1 : t1 = nI 2 := g1.trans (by decide)
    rw [vB_e (n := 0) (y := 0) (e1.trans (by decide)) f1, (hin 1 (by decide)).2, g1]
    rw [wl_Md_store_3]
    exact ⟨fun _ => h, fun c => absurd (by decide) c⟩
  · rw [if_neg (by decide), if_neg (by decide)] at h
    refine ⟨5, ?_⟩
    rw [wl_Md_store_3]
    refine ⟨fun c => absurd c (by decide), fun _ s0 e0 b0 f0 => ⟨(hin 0 (by decide)).1, fun t0 g0 => ?_⟩⟩
    have g0 : t0 = nI 1 := g0.trans (by decide)
    rw [vB_e (n := 24) (y := 0) (e0.trans (by decide)) f0, show (0 : Int32) = nI 0 from rfl, (hin 0 (by decide)).2, g0]
    rw [wl_Md_store_3]
    refine ⟨fun c => absurd c (by decide), fun _ s1 e1 b1 f1 => ⟨(hin 1 (by decide)).1, fun t1 g1 => ?_⟩⟩
    have g1 : t1 = nI 2 := g1.trans (by decide)
    rw [vB_e (n := 16) (y := 0) (e1.trans (by decide)) f1, (hin 1 (by decide)).2, g1]
    rw [wl_Md_store_3]
    refine ⟨fun c => absurd c (by decide), fun _ s2 e2 b2 f2 => ⟨(hin 2 (by decide)).1, fun t2 g2 => ?_⟩⟩
    have g2 : t2 = nI 3 := g2.trans (by decide)
    rw [vB_e (n := 8) (y := 0) (e2.trans (by decide)) f2, (hin 2 (by decide)).2, g2]
    rw [wl_Md_store_3]
    refine ⟨fun c => absurd c (by decide), fun _ s3 e3 b3 f3 => ⟨(hin 3 (by decide)).1, fun t3 g3 => ?_⟩⟩
    have g3 : t3 = nI 4 := g3.trans (by decide)
    rw [vB_e (n := 0) (y := 0) (e3.trans (by decide)) f3, (hin 3 (by decide)).2, g3]
    rw [wl_Md_store_3]
    exact ⟨fun _ => h, fun c => absurd (by decide) c⟩
end MEM
