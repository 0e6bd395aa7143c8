/-! ===== roots ===== -/
theorem rt_ex (T : Nat) : ∃ r x : Nat, T = r * r + x ∧ x ≤ 2 * r := by
  induction T with
  | zero => exact ⟨0, 0, rfl, Nat.le_refl _⟩
  | succ T ih =>
    obtain ⟨r, x, h, hx⟩ := ih
    rcases Nat.lt_or_ge x (2 * r) with c | c
    · exact ⟨r, x + 1, by omega, by omega⟩
    · refine ⟨r + 1, 0, ?_, by omega⟩
      rw [Nat.add_mul, Nat.mul_add]; omega
theorem rt_un {a b x y : Nat} (h : a * a + x = b * b + y) (hx : x ≤ 2 * a) (hy : y ≤ 2 * b) : a = b ∧ x = y := by
  have key : ∀ a b x y : Nat, a * a + x = b * b + y → x ≤ 2 * a → a < b → False := by
    intro a b x y h hx c
    have h1 : (a + 1) * (a + 1) ≤ b * b := Nat.mul_le_mul c c
    rw [Nat.add_mul, Nat.mul_add] at h1
    omega
  rcases Nat.lt_trichotomy a b with c | c | c
  · exact (key a b x y h hx c).elim
  · subst c; exact ⟨rfl, by omega⟩
  · exact (key b a y x h.symm hy c).elim
theorem rt_step {T r x d : Nat} (h : T = r * r + x) (hx : x ≤ 2 * r) (hd : d ≤ 3) : (x * 4 + d < r * 4 + 1 → T * 4 + d = (r * 2) * (r * 2) + (x * 4 + d) ∧ x * 4 + d ≤ 2 * (r * 2)) ∧ (r * 4 + 1 ≤ x * 4 + d → T * 4 + d = (r * 2 + 1) * (r * 2 + 1) + (x * 4 + d - (r * 4 + 1)) ∧ x * 4 + d - (r * 4 + 1) ≤ 2 * (r * 2 + 1)) := by
  have e1 : (r * 2) * (r * 2) = r * r * 4 := by rw [Nat.mul_mul_mul_comm]
  have e2 : (r * 2 + 1) * (r * 2 + 1) = r * r * 4 + r * 4 + 1 := by rw [Nat.add_mul, Nat.mul_add, e1]; omega
  rw [e1, e2, h]
  constructor <;> intro c <;> omega
/-- both roots out of one number -/
def rtX (r x : Nat) : Nat := if x = 0 then r * 4 else if x ≤ r then r * 4 + 1 else r * 4 + 3
theorem rt_cls (r x : Nat) : rtX r x / 2 ^ 2 = r ∧ (rtX r x % 2 ^ 2 = 0 ↔ x = 0) := by
  unfold rtX
  by_cases a : x = 0
  · rw [if_pos a]; omega
  · rw [if_neg a]
    split <;> omega
theorem rt_ref {T r x r2 x2 : Nat} (h : T = r * r + x) (hx : x ≤ 2 * r) (h2 : T * 4 = r2 * r2 + x2) (hx2 : x2 ≤ 2 * r2) : rtX r x / 2 ^ 1 = r2 ∧ (rtX r x % 2 ^ 1 = 0 ↔ x2 = 0) := by
  obtain ⟨s1, s2⟩ := rt_step (d := 0) h hx (by decide)
  unfold rtX
  rcases Nat.lt_or_ge (x * 4 + 0) (r * 4 + 1) with c | c
  · obtain ⟨a, b⟩ := s1 c
    obtain ⟨u1, u2⟩ := rt_un (a.symm.trans (show T * 4 + 0 = _ from h2)) b hx2
    by_cases z : x = 0
    · rw [if_pos z]; omega
    · rw [if_neg z, if_pos (by omega)]; omega
  · obtain ⟨a, b⟩ := s2 c
    obtain ⟨u1, u2⟩ := rt_un (a.symm.trans (show T * 4 + 0 = _ from h2)) b hx2
    rw [if_neg (by omega), if_neg (by omega)]; omega
/-- the digits, two by two -/
def rtT (K S i : Nat) : Nat := S * 2 ^ (2 * i) / 2 ^ K
theorem rtT_s (K S i : Nat) : rtT K S (i + 1) = rtT K S i * 4 + rtT K S (i + 1) % 4 := by
  have : rtT K S (i + 1) / 4 = rtT K S i := by
    unfold rtT
    rw [show 2 * (i + 1) = 2 * i + 2 by omega, Nat.pow_add, ← Nat.mul_assoc, Nat.div_div_eq_div_mul, show (2 : Nat) ^ K * 4 = 2 ^ K * 2 ^ 2 from rfl, Nat.mul_div_mul_right _ _ (by decide)]
  omega
theorem rtT_lo {K S i : Nat} (h : 2 * i + 2 ≤ K) : rtT K S (i + 1) = S / 2 ^ (K - 2 - 2 * i) := by
  unfold rtT
  rw [show (2 : Nat) ^ K = 2 ^ (K - 2 - 2 * i) * 2 ^ (2 * (i + 1)) by rw [← Nat.pow_add]; congr 1; omega, Nat.mul_div_mul_right _ _ (Nat.two_pow_pos _)]
theorem rtT_hi {K S i : Nat} (h : K + 2 ≤ 2 * i + 2) : rtT K S (i + 1) = S * 2 ^ (2 * i + 2 - K) ∧ rtT K S (i + 1) % 4 = 0 := by
  have e : rtT K S (i + 1) = S * 2 ^ (2 * i + 2 - K) := by
    unfold rtT
    rw [show (2 : Nat) ^ (2 * (i + 1)) = 2 ^ (2 * i + 2 - K) * 2 ^ K by rw [← Nat.pow_add]; congr 1; omega, ← Nat.mul_assoc, Nat.mul_div_cancel _ (Nat.two_pow_pos _)]
  refine ⟨e, ?_⟩
  rw [e, show (2 : Nat) ^ (2 * i + 2 - K) = 2 ^ (2 * i - K) * 4 by rw [show (4 : Nat) = 2 ^ 2 from rfl, ← Nat.pow_add]; congr 1; omega, ← Nat.mul_assoc]
  exact Nat.mul_mod_left _ _
theorem rtT_b {K S i r x : Nat} (hK : K ≤ 56) (hS : S < 2 ^ K) (h : rtT K S i = r * r + x) : r < 2 ^ i := by
  have h1 : rtT K S i < 2 ^ (2 * i) := by
    unfold rtT
    rw [Nat.div_lt_iff_lt_mul (Nat.two_pow_pos _), Nat.mul_comm]
    exact Nat.mul_lt_mul_of_pos_left hS (Nat.two_pow_pos _)
  rcases Nat.lt_or_ge r (2 ^ i) with c | c
  · exact c
  · have : 2 ^ i * 2 ^ i ≤ r * r := Nat.mul_le_mul c c
    rw [← Nat.pow_add, show i + i = 2 * i by omega] at this
    omega
theorem fq_par (z : Int) : iI z &&& 1 = nI (z % 2).toNat := by
  rw [pk_and (iI z) (m := 1) 1 (by decide)]
  congr 1
  show (BitVec.ofInt 32 z).toNat % 2 = _
  rw [BitVec.toNat_ofInt]
  omega
theorem fq_sar1 {z : Int} (h : fq_r z) : zz_shr (iI z) 1 = iI (z / 2) := by
  have e : (zz_shr (iI z) 1).toInt = z / 2 := by
    unfold zz_shr
    rw [pk_shr (iI z) (1 &&& 31) 1 (by decide), fq_tr h, Int.shiftRight_eq_div_pow]
    rfl
  rw [fq_of (zz_shr (iI z) 1), e]
theorem fq_div2 {c : Int} (h : fq_r c) : iI (2 * c) / 2 = iI c := by
  have h1 := h.1
  have h2 := h.2
  have e : (iI (2 * c) / 2).toInt = c := by
    rw [Int32.toInt_div_of_ne_left _ _ (by intro q; have q := congrArg Int32.toInt q; rw [fq_t (by omega) (by omega)] at q; rw [show Int32.minValue.toInt = -2147483648 from rfl] at q; omega), fq_t (by omega) (by omega), show (2 : Int32).toInt = 2 from rfl]
    exact Int.mul_tdiv_cancel_left _ (by decide)
  rw [fq_of (iI (2 * c) / 2), e]
theorem lN_or4 {a d : Nat} (hd : d ≤ 3) : lN (a * 4) ||| lN d = lN (a * 4 + d) := fq_ors (k := 2) (b := d) (by omega)
theorem lN_or41 (a : Nat) : lN (a * 4) ||| (1 : Int64) = lN (a * 4 + 1) := lN_or4 (d := 1) (by decide)
theorem lN_sh2 (a : Nat) : zz_lshl (lN a) 2 = lN (a * 4) := fq_shl (k := 2) a (by decide)
theorem lN_sh1 (a : Nat) : zz_lshl (lN a) 1 = lN (a * 2) := fq_shl (k := 1) a (by decide)
theorem fq_place (K i : Nat) : nI K - 2 * nI i = iI (K - 2 * i) := by
  rw [show (2 : Int32) = nI 2 from rfl, pk_mul, fq_n, fq_n, fq_sub]; rfl
theorem fq_neg0 {z : Int} (h : fq_r z) : iI z < 0 ↔ z < 0 := fq_lt (b := 0) h ⟨by decide, by decide⟩
/-- the class's root -/
theorem fr_rtL {w n k : Int32} {m : Int64} {S : Nat} {ec : Int} {P : Fr4 → Prop} (hS : 2 ^ 52 ≤ S ∧ S < 2 ^ 54) (he : -1200 ≤ ec ∧ ec ≤ 1200) {r0 x0 : Nat} (h0 : S * 2 ^ 58 = r0 * r0 + x0) (hx0 : x0 ≤ 2 * r0)
    (h : ∀ L', frv w (rn_sg n w (lN (rnX w (rtX r0 x0) (ec / 2 - 57)))) L' → P L') :
    ∀ (d i r x : Nat), i + d = 56 → rtT 54 S i = r * r + x → x ≤ 2 * r → wl_Fr_rootOfFinite_23 (lN S) P (d + 1) (nI i) (lN x) (lN r) (n, k, iI ec, m) := by
  intro d
  induction d with
  | zero =>
    intro i r x hi hT hx
    have : i = 56 := by omega
    subst this
    have hb := rtT_b (by decide) hS.2 hT
    have eT : rtT 54 S 56 = S * 2 ^ 58 := (rtT_hi (K := 54) (S := S) (i := 55) (by decide)).1
    obtain ⟨rfl, rfl⟩ := rt_un (h0.symm.trans (eT.symm.trans hT)) hx0 hx
    have hr55 : 2 ^ 55 ≤ r0 := by
      rcases Nat.lt_or_ge r0 (2 ^ 55) with c | c
      · have c1 : r0 * r0 ≤ (2 ^ 55 - 1) * (2 ^ 55 - 1) := Nat.mul_le_mul (by omega) (by omega)
        have c2 : 2 ^ 52 * 2 ^ 58 ≤ S * 2 ^ 58 := Nat.mul_le_mul_right _ hS.1
        rw [h0] at c2
        omega
      · exact c
    obtain ⟨c1, c2⟩ := rt_cls r0 x0
    have es : x0 = 0 ↔ st0 (rtX r0 x0) 2 = 0 := by
      unfold st0
      rw [← c2]
      split <;> simp_all
    have es1 : st0 (rtX r0 x0) 2 ≤ 1 := by unfold st0; split <;> omega
    have hz : lN x0 = 0 ↔ x0 = 0 := by rw [fq_l0, fq_linj (by omega) (by decide)]
    have go : ∀ b : Nat, b = st0 (rtX r0 x0) 2 → wp_Fr_become (n, k, iI ec, m) (lN (r0 * 2 ^ 7 + b)) (iI (ec / 2)) P := by
      intro b hb
      refine fr_fin2 (w := w) (X := rtX r0 x0) (j := 2) (i := 7) (by decide) (by rw [c1, hb]) (by omega) (by omega) (by rw [c1]; omega) (by decide) (by omega) ?_
      rw [show ec / 2 - 62 - ((2 : Nat) : Int) + ((7 : Nat) : Int) = ec / 2 - 57 by omega]
      exact h
    rw [wl_Fr_rootOfFinite_23]
    refine ⟨fun _ => ⟨fun c y ey z ez => ?_, fun c y ey z ez => ?_⟩, fun c => absurd (by decide) c⟩
    · rw [ez]
      dsimp only
      rw [fq_sar1 ⟨by omega, by omega⟩, ey, show (7 : Int32) = nI 7 from rfl, fq_shl _ (by decide), show (0 : Int32).toInt64 = 0 from rfl, fq_or0]
      exact go 0 (es.mp (hz.mp c)).symm
    · rw [ez]
      dsimp only
      rw [fq_sar1 ⟨by omega, by omega⟩, ey, show (7 : Int32) = nI 7 from rfl, fq_shl _ (by decide), show (1 : Int32).toInt64 = lN 1 from rfl, fq_ors (by decide)]
      refine go 1 ?_
      have : ¬ x0 = 0 := fun z => c (hz.mpr z)
      omega
  | succ d ih =>
    intro i r x hi hT hx
    have hb := rtT_b (by decide) hS.2 hT
    have hb2 : r < 2 ^ 56 := Nat.lt_of_lt_of_le hb (Nat.pow_le_pow_right (by decide) (by omega))
    have hst := rtT_s 54 S i
    rw [hT] at hst
    generalize hdg : rtT 54 S (i + 1) % 4 = dgt at hst
    have hd3 : dgt ≤ 3 := by omega
    obtain ⟨s1, s2⟩ := rt_step (T := r * r + x) (d := dgt) rfl hx hd3
    have hneg : iI (52 - 2 * i) < 0 ↔ 52 - 2 * (i : Int) < 0 := fq_neg0 ⟨by omega, by omega⟩
    have hlt : ∀ y : Int64, y = lN (x * 4 + dgt) → (y < lN (r * 4 + 1) ↔ x * 4 + dgt < r * 4 + 1) := by
      intro y ey
      rw [ey]; exact pk_lLT (by omega) (by omega)
    rw [wl_Fr_rootOfFinite_23]
    refine ⟨fun c => ?_, fun _ z ez => ?_⟩
    · have := (nI_leI (a := 56) (b := i) (by decide) (by omega)).mp c
      omega
    · have ez : z = iI (52 - 2 * i) := ez.trans (fq_place 52 i)
      refine ⟨fun c y ey t et u eu => ?_, fun c g eg y ey t et u eu => ?_⟩
      · rw [ez, hneg] at c
        have d0 : dgt = 0 := by rw [← hdg]; exact (rtT_hi (K := 54) (by omega)).2
        have ey : y = lN (x * 4 + dgt) := by rw [ey, lN_sh2, d0]; exact fq_or0 _
        have et : t = lN (r * 4 + 1) := by rw [et, lN_sh2]; exact lN_or41 r
        rw [lN_sh1] at eu
        rw [et, eu, nI_1]
        refine ⟨fun c q eq => ?_, fun c v ev b eb q eq => ?_⟩
        · have c := (hlt y ey).mp c
          rw [eq, ey]
          obtain ⟨a1, a2⟩ := s1 c
          exact ih (i + 1) _ _ (by omega) (hst.trans a1) a2
        · have c : r * 4 + 1 ≤ x * 4 + dgt := by
            rcases Nat.lt_or_ge (x * 4 + dgt) (r * 4 + 1) with z | z
            · exact absurd ((hlt y ey).mpr z) c
            · exact z
          rw [ey, lN_sub c] at ev
          rw [lN_or1] at eb
          rw [eq, ev, eb]
          obtain ⟨a1, a2⟩ := s2 c
          exact ih (i + 1) _ _ (by omega) (hst.trans a1) a2
      · rw [ez, hneg] at c
        have eg : g = lN dgt := by
          have : z = nI (52 - 2 * i) := by rw [ez, fq_n]; congr 1; omega
          rw [eg, this, fq_ushr (by omega) (by omega), ← hdg, rtT_lo (K := 54) (by omega)]
          exact fq_mask _ 2
        have ey : y = lN (x * 4 + dgt) := by rw [ey, lN_sh2, eg]; exact lN_or4 hd3
        have et : t = lN (r * 4 + 1) := by rw [et, lN_sh2]; exact lN_or41 r
        rw [lN_sh1] at eu
        rw [et, eu, nI_1]
        refine ⟨fun c q eq => ?_, fun c v ev b eb q eq => ?_⟩
        · have c := (hlt y ey).mp c
          rw [eq, ey]
          obtain ⟨a1, a2⟩ := s1 c
          exact ih (i + 1) _ _ (by omega) (hst.trans a1) a2
        · have c : r * 4 + 1 ≤ x * 4 + dgt := by
            rcases Nat.lt_or_ge (x * 4 + dgt) (r * 4 + 1) with z | z
            · exact absurd ((hlt y ey).mpr z) c
            · exact z
          rw [ey, lN_sub c] at ev
          rw [lN_or1] at eb
          rw [eq, ev, eb]
          obtain ⟨a1, a2⟩ := s2 c
          exact ih (i + 1) _ _ (by omega) (hst.trans a1) a2
/-- a number's last digit goes to its fraction -/
def rtS (A : Nat) (p : Int) : Nat := A * 2 ^ (p % 2).toNat
theorem rtS_in {A : Nat} {p : Int} (hA : 2 ^ 52 ≤ A ∧ A < 2 ^ 53) : 2 ^ 52 ≤ rtS A p ∧ rtS A p < 2 ^ 54 := by
  unfold rtS
  have : (p % 2).toNat = 0 ∨ (p % 2).toNat = 1 := by omega
  rcases this with q | q <;> rw [q] <;> omega
theorem fr_rtF {w n k : Int32} {A : Nat} {p : Int} {P : Fr4 → Prop} (hA : 2 ^ 52 ≤ A ∧ A < 2 ^ 53) (hp : -1200 ≤ p ∧ p ≤ 1100) {r0 x0 : Nat} (h0 : rtS A p * 2 ^ 58 = r0 * r0 + x0) (hx0 : x0 ≤ 2 * r0)
    (h : ∀ L', frv w (rn_sg n w (lN (rnX w (rtX r0 x0) (p / 2 - 31)))) L' → P L') : wp_Fr_rootOfFinite (n, k, iI (p + 52), lN (A * 2 ^ 10)) P := by
  unfold wp_Fr_rootOfFinite
  dsimp only
  intro x ex y ey
  have e2 : (p + 52) % 2 = p % 2 := by omega
  have hpar : (p % 2).toNat ≤ 1 := by omega
  rw [fq_par, e2, show (10 : Int32) = nI 10 from rfl, pk_sub (by omega)] at ex
  have hb : A * 2 ^ 10 < 2 ^ 64 := by omega
  have eS : y = lN (rtS A p) := by
    rw [ey, ex, fq_ushr hb (by omega)]
    unfold rtS
    congr 1
    rw [show (2 : Nat) ^ 10 = 2 ^ (p % 2).toNat * 2 ^ (10 - (p % 2).toNat) by rw [← Nat.pow_add]; congr 1; omega, ← Nat.mul_assoc, Nat.mul_div_cancel _ (Nat.two_pow_pos _)]
  rw [eS]
  have hS := rtS_in (p := p) hA
  refine ⟨57, fr_rtL (w := w) (ec := p + 52) hS (by omega) h0 hx0 ?_ 56 0 0 0 (by decide) ?_ (by decide)⟩
  · rw [show (p + 52) / 2 - 57 = p / 2 - 31 by omega]; exact h
  · unfold rtT; rw [show (2 * 0) = 0 from rfl, Nat.pow_zero, Nat.mul_one, Nat.div_eq_of_lt hS.2]
section TR
variable {ms : Int32} {dd bm rr kt : Nat → Int32} {l1 l2 : Int64}
theorem md_rtl {w : Int32} {a0 : Int64} {S : Nat} {c : Int} {P : Int64 → Prop} (hS : 2 ^ 52 ≤ S ∧ S < 2 ^ 54) (he : -1200 ≤ c ∧ c ≤ 1200) {r0 x0 : Nat} (h0 : S * 2 ^ 58 = r0 * r0 + x0) (hx0 : x0 ≤ 2 * r0)
    (h : P (rn_sg 0 w (lN (rnX w (rtX r0 x0) (c - 31))))) :
    ∀ (d i r x : Nat), i + d = 58 → rtT 56 S i = r * r + x → x ≤ 2 * r → wl_Md_root_68 ms a0 w dd l1 l2 bm rr kt P (d + 1) (nI i) (lN x) (lN r) (lN S) (iI (2 * c)) := by
  have hS56 : S < 2 ^ 56 := by omega
  intro d
  induction d with
  | zero =>
    intro i r x hi hT hx
    have : i = 58 := by omega
    subst this
    have hb := rtT_b (by decide) hS56 hT
    have eT : rtT 56 S 58 = S * 2 ^ 60 := (rtT_hi (K := 56) (S := S) (i := 57) (by decide)).1
    have e4 : S * 2 ^ 58 * 4 = r * r + x := by rw [← hT, eT, Nat.mul_assoc]
    obtain ⟨c1, c2⟩ := rt_ref h0 hx0 e4 hx
    have hr56 : 2 ^ 56 ≤ r := by
      rcases Nat.lt_or_ge r (2 ^ 56) with c | c
      · have c1 : r * r ≤ (2 ^ 56 - 1) * (2 ^ 56 - 1) := Nat.mul_le_mul (by omega) (by omega)
        have c2 : 2 ^ 52 * 2 ^ 60 ≤ S * 2 ^ 60 := Nat.mul_le_mul_right _ hS.1
        rw [← eT, hT] at c2
        omega
      · exact c
    have hz : lN x ≤ 0 ↔ x = 0 := by rw [fq_l0, pk_lLE (by omega) (by decide)]; omega
    have eE : iI (2 * c) / 2 - 30 = iI (c - 30) := by rw [fq_div2 ⟨by omega, by omega⟩, show (30 : Int32) = iI 30 from rfl, fq_sub]
    have go : ∀ a3 : Int32, (a3 = 0 ↔ x = 0) → wp_Md_rounded 0 (lN r) (iI (c - 30)) a3 w P := by
      intro a3 ha
      refine md_fin (X := rtX r0 x0) (j := 1) c1.symm (by rw [ha, c2]) (by omega) (by omega) (fun _ => by omega) (by omega) ?_
      rw [show c - 30 - ((1 : Nat) : Int) = c - 31 by omega]
      exact h
    rw [wl_Md_root_68]
    refine ⟨fun _ y ey => ⟨fun c => ?_, fun c => ?_⟩, fun c => absurd (by decide) c⟩
    · rw [ey, eE]; exact go 0 ⟨fun _ => hz.mp c, fun _ => rfl⟩
    · rw [ey, eE]; exact go 1 ⟨fun z => absurd z (by decide), fun z => absurd (hz.mpr z) c⟩
  | succ d ih =>
    intro i r x hi hT hx
    have hb := rtT_b (by decide) hS56 hT
    have hb2 : r < 2 ^ 58 := Nat.lt_of_lt_of_le hb (Nat.pow_le_pow_right (by decide) (by omega))
    have hst := rtT_s 56 S i
    rw [hT] at hst
    generalize hdg : rtT 56 S (i + 1) % 4 = dgt at hst
    have hd3 : dgt ≤ 3 := by omega
    obtain ⟨s1, s2⟩ := rt_step (T := r * r + x) (d := dgt) rfl hx hd3
    have hneg : iI (54 - 2 * i) < 0 ↔ 54 - 2 * (i : Int) < 0 := fq_neg0 ⟨by omega, by omega⟩
    have hlt : ∀ y : Int64, y = lN (x * 4 + dgt) → (y < lN (r * 4 + 1) ↔ x * 4 + dgt < r * 4 + 1) := by
      intro y ey
      rw [ey]; exact pk_lLT (by omega) (by omega)
    have t106 : ∀ g : Int64, g = lN dgt → wj_Md_root_106 ms a0 w dd l1 l2 bm rr kt P (wl_Md_root_68 ms a0 w dd l1 l2 bm rr kt P (d + 1)) (lN S) (iI (2 * c)) (lN r) (nI i) (zz_lshl (lN x) 2) g := by
      intro g eg
      unfold wj_Md_root_106
      intro y ey t et u eu
      have ey : y = lN (x * 4 + dgt) := by rw [ey, lN_sh2, eg]; exact lN_or4 hd3
      have et : t = lN (r * 4 + 1) := by rw [et, lN_sh2]; exact lN_or41 r
      rw [lN_sh1] at eu
      rw [et, eu, nI_1]
      refine ⟨fun c q eq => ?_, fun c v ev b eb q eq => ?_⟩
      · have c := (hlt y ey).mp c
        rw [eq, ey]
        obtain ⟨a1, a2⟩ := s1 c
        exact ih (i + 1) _ _ (by omega) (hst.trans a1) a2
      · have c : r * 4 + 1 ≤ x * 4 + dgt := by
          rcases Nat.lt_or_ge (x * 4 + dgt) (r * 4 + 1) with z | z
          · exact absurd ((hlt y ey).mpr z) c
          · exact z
        rw [ey, lN_sub c] at ev
        rw [lN_or1] at eb
        rw [eq, ev, eb]
        obtain ⟨a1, a2⟩ := s2 c
        exact ih (i + 1) _ _ (by omega) (hst.trans a1) a2
    rw [wl_Md_root_68]
    refine ⟨fun c => ?_, fun _ z ez => ?_⟩
    · have := (nI_leI (a := 58) (b := i) (by decide) (by omega)).mp c
      omega
    · have ez : z = iI (54 - 2 * i) := ez.trans (fq_place 54 i)
      refine ⟨fun c => t106 _ ?_, fun c g eg => t106 _ ?_⟩
      · rw [ez, hneg] at c
        have d0 : dgt = 0 := by rw [← hdg]; exact (rtT_hi (K := 56) (by omega)).2
        rw [d0]; rfl
      · rw [ez, hneg] at c
        have : z = nI (54 - 2 * i) := by rw [ez, fq_n]; congr 1; omega
        rw [eg, this, fq_shr (by omega) (by omega), ← hdg, rtT_lo (K := 56) (by omega)]
        exact fq_mask _ 2
end TR
