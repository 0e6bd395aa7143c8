/-! ===== fractions to words and back ===== -/
def wdV (n : Int32) (K : Nat) : Int32 := if (if n = 0 then lN K else -lN K) = (if n = 0 then lN K else -lN K).toInt32.toInt64 then (if n = 0 then lN K else -lN K).toInt32 else 2147483647
def wdU (wy n : Int32) (lo half K : Nat) : Nat := if wy = 0 then rn_up lo half K false else if wy = 1 then 0 else if lo = 0 then 0 else if wy = 2 then (if n = 1 then 0 else 1) else (if n = 0 then 0 else 1)
def wdB (wy w : Int32) (a : Nat) : Int32 := if fk w a = 0 then 0 else if ¬ fk w a = 1 then 2147483647 else if -21 < fp w a then 2147483647 else wdV (fn w a) (fA w a / 2 ^ (-fp w a).toNat + wdU wy (fn w a) (fA w a % 2 ^ (-fp w a).toNat) (2 ^ ((-fp w a).toNat - 1)) (fA w a / 2 ^ (-fp w a).toNat))
theorem wdU_le (wy n : Int32) (lo half K : Nat) : wdU wy n lo half K ≤ 1 := by
  have := rn_up_le lo half K false
  unfold wdU
  repeat' split
  all_goals omega
theorem fr_away {L : Fr4} {wy : Int32} {P : Int32 → Prop} {k lo half : Nat} (h1 : lo < 2 ^ 63) (h2 : half < 2 ^ 63) (hk : k < 2 ^ 64) (h : P (nI (wdU wy L.1 lo half k))) : wp_Fr_awayFromZero L wy (lN k) (lN lo) (lN half) P := by
  by_cases c : wy = 0
  · subst c
    unfold wdU at h
    rw [if_pos rfl] at h
    exact fr_away0 h1 h2 hk h
  · unfold wdU at h
    rw [if_neg c] at h
    have hz : lN lo = 0 ↔ lo = 0 := by rw [fq_l0, fq_linj (by omega) (by decide)]
    unfold wp_Fr_awayFromZero
    refine ⟨fun q => absurd q c, fun _ => ⟨fun c1 => ?_, fun c1 => ⟨fun c2 => ?_, fun c2 => ⟨fun c3 => ⟨fun c4 => ?_, fun c4 => ?_⟩, fun c3 => ⟨fun c4 => ?_, fun c4 => ?_⟩⟩⟩⟩⟩
    · rw [if_pos c1] at h; exact h
    · rw [if_neg c1, if_pos (hz.mp c2)] at h; exact h
    · rw [if_neg c1, if_neg (fun q => c2 (hz.mpr q)), if_pos c3, if_pos c4] at h; exact h
    · rw [if_neg c1, if_neg (fun q => c2 (hz.mpr q)), if_pos c3, if_neg c4] at h; exact h
    · rw [if_neg c1, if_neg (fun q => c2 (hz.mpr q)), if_neg c3, if_pos c4] at h; exact h
    · rw [if_neg c1, if_neg (fun q => c2 (hz.mpr q)), if_neg c3, if_neg c4] at h; exact h
theorem rn_upS {lo half K : Nat} {s : Bool} : rn_up (lo * 1024) (half * 1024) K s = rn_up lo half K s := by
  unfold rn_up
  have e1 : half * 1024 < lo * 1024 ↔ half < lo := by omega
  have e2 : lo * 1024 = half * 1024 ↔ lo = half := by omega
  simp only [e1, e2]
theorem wdU_S {wy n : Int32} {lo half K : Nat} : wdU wy n (lo * 1024) (half * 1024) K = wdU wy n lo half K := by
  unfold wdU
  have : lo * 1024 = 0 ↔ lo = 0 := by omega
  simp only [rn_upS, this]
/-- below a half only that something is there counts -/
theorem wdU_t {wy n : Int32} {lo half lo2 half2 : Nat} (h : lo < half) (h2 : lo2 < half2) (z : 0 < lo) (z2 : 0 < lo2) : wdU wy n lo half 0 = wdU wy n lo2 half2 0 := by
  unfold wdU rn_up
  have e1 : ¬ half < lo := by omega
  have e2 : ¬ lo = half := by omega
  have e3 : ¬ half2 < lo2 := by omega
  have e4 : ¬ lo2 = half2 := by omega
  have e5 : ¬ lo = 0 := by omega
  have e6 : ¬ lo2 = 0 := by omega
  simp [e1, e2, e3, e4, e5, e6]
/-- with its sign -/
theorem wd_fin {n : Int32} {K : Nat} {P : Int32 → Prop} (h : P (wdV n K)) :
    ((n = 0 → ((lN K = (lN K).toInt32.toInt64 → P (lN K).toInt32) ∧ (¬ lN K = (lN K).toInt32.toInt64 → P 2147483647))) ∧ (¬ n = 0 → ∀ x : Int64, x = (-lN K) → ((x = x.toInt32.toInt64 → P x.toInt32) ∧ (¬ x = x.toInt32.toInt64 → P 2147483647)))) := by
  unfold wdV at h
  refine ⟨fun c => ⟨fun d => ?_, fun d => ?_⟩, fun c x ex => ⟨fun d => ?_, fun d => ?_⟩⟩
  · rw [if_pos c, if_pos d] at h; exact h
  · rw [if_pos c, if_neg d] at h; exact h
  · subst ex; rw [if_neg c, if_pos d] at h; exact h
  · subst ex; rw [if_neg c, if_neg d] at h; exact h
set_option maxHeartbeats 4000000 in
theorem fr_toWord {w wy : Int32} {a : Nat} {L : Fr4} {P : Int32 → Prop} (hL : fr_is w a (fn w a) L) (h : P (wdB wy w a)) : wp_Fr_toWord L wy P := by
  obtain ⟨n1, k1, x1, m1⟩ := L
  obtain ⟨a1, a2, a3⟩ := hL
  dsimp only at a1 a2 a3
  unfold wp_Fr_toWord
  dsimp only
  unfold wdB at h
  have pa := fp_in w a
  rw [a2]
  refine ⟨fun c => by rw [if_pos c] at h; exact h, fun c => ⟨fun c1 => ?_, fun c1 => by rw [if_neg c, if_pos c1] at h; exact h⟩⟩
  rw [if_neg c, if_neg (fun q => q c1)] at h
  obtain ⟨e1, e2⟩ := a3 c1
  have hA := fA_in (fk_1 c1)
  rw [e1, e2]
  generalize fp w a = p at *
  generalize fA w a = A at *
  have hc1 : iI (p + 52) ≤ 31 ↔ p + 52 ≤ 31 := fq_le (b := 31) ⟨by omega, by omega⟩ ⟨by decide, by decide⟩
  have hc2 : (-1 : Int32) ≤ iI (p + 52) ↔ -1 ≤ p + 52 := by
    rw [show (-1 : Int32) = iI (-1) by decide]
    exact fq_le ⟨by decide, by decide⟩ ⟨by omega, by omega⟩
  refine ⟨fun c2 => ?_, fun c2 => ?_⟩
  case refine_2 =>
    have c3 : ¬ p + 52 ≤ 31 := fun q => c2 (hc1.mpr q)
    rw [if_pos (by omega)] at h; exact h
  have c2 := hc1.mp c2
  rw [if_neg (by omega)] at h
  obtain ⟨cc, hcc⟩ : ∃ cc : Nat, (-p).toNat = cc := ⟨_, rfl⟩
  rw [hcc] at h
  have hA2 : A * 2 ^ 10 < 2 ^ 63 := by omega
  refine ⟨fun c3 s es x ex y ey z ez t et => ?_, fun c3 x ex y ey z ez t et => ?_⟩
  · have c3 := hc2.mp c3
    have es : s = nI (cc + 10) := by rw [es, show (62 : Int32) = iI 62 from rfl, fq_sub, fq_n]; congr 1; omega
    have ep : (2 : Nat) ^ (cc + 10) = 2 ^ cc * 2 ^ 10 := Nat.pow_add _ _ _
    have ex : x = lN (A / 2 ^ cc) := by
      rw [ex, es, fq_ushr (by omega) (by omega), ep, Nat.mul_div_mul_right _ _ (by decide)]
    have ez : z = lN (A % 2 ^ cc * 1024) := by
      rw [ez, ey, es, fq_m1 (by omega)]
      refine (fq_mask _ _).trans ?_
      rw [ep, Nat.mul_mod_mul_right]
    have et : t = lN (2 ^ (cc - 1) * 1024) := by
      rw [et, es, show (1 : Int32) = nI 1 from rfl, pk_sub (by omega), fq_1 (by omega), show (1024 : Nat) = 2 ^ 10 from rfl, ← Nat.pow_add]
      congr 2; omega
    have hp1 : (2 : Nat) ^ (cc - 1) ≤ 2 ^ 52 := Nat.pow_le_pow_right (by decide) (by omega)
    have hm : A % 2 ^ cc ≤ A := Nat.mod_le _ _
    have hd : A / 2 ^ cc ≤ A := Nat.div_le_self _ _
    rw [ex, ez, et]
    clear hA2 ep
    have b1 : A % 2 ^ cc * 1024 < 2 ^ 63 := Nat.lt_of_le_of_lt (Nat.mul_le_mul_right 1024 (Nat.le_trans hm (Nat.le_sub_one_of_lt hA.2))) (by decide)
    have b2 : 2 ^ (cc - 1) * 1024 < 2 ^ 63 := Nat.lt_of_le_of_lt (Nat.mul_le_mul_right 1024 hp1) (by decide)
    have b3 : A / 2 ^ cc < 2 ^ 64 := Nat.lt_of_le_of_lt hd (Nat.lt_trans hA.2 (by decide))
    refine fr_away b1 b2 b3 ?_
    rw [wdU_S]
    dsimp only
    rw [a1]
    have hu := wdU_le wy (fn w a) (A % 2 ^ cc) (2 ^ (cc - 1)) (A / 2 ^ cc)
    generalize wdU wy (fn w a) (A % 2 ^ cc) (2 ^ (cc - 1)) (A / 2 ^ cc) = u at *
    refine ⟨fun q => ?_, fun q v ev => ?_⟩
    · have : u = 0 := (nI_eq (b := 0) (by omega) (by decide)).mp q
      rw [this, Nat.add_zero] at h
      exact wd_fin h
    · have : u = 1 := by
        have : ¬ u = 0 := fun z => q (by rw [z]; rfl)
        omega
      rw [this] at h
      rw [lN_1] at ev
      subst ev
      exact wd_fin h
  · have c3 : ¬ -1 ≤ p + 52 := fun q => c3 (hc2.mpr q)
    have hbig : 2 ^ 53 ≤ 2 ^ (cc - 1) := Nat.pow_le_pow_right (by decide) (by omega)
    have hbig2 : 2 ^ 54 ≤ 2 ^ cc := Nat.pow_le_pow_right (by decide) (by omega)
    rw [Nat.div_eq_of_lt (by omega), Nat.mod_eq_of_lt (by omega), Nat.zero_add] at h
    have ex : x = lN 0 := ex.trans (by decide)
    have ez : z = lN 1 := by rw [ez, ey]; decide
    have et : t = lN (2 ^ 62) := et.trans (by decide)
    rw [ex, ez, et]
    refine fr_away (by decide) (by decide) (by decide) ?_
    rw [wdU_t (lo2 := A) (half2 := 2 ^ (cc - 1)) (by decide) (by omega) (by decide) (by omega)]
    dsimp only
    rw [a1]
    have hu := wdU_le wy (fn w a) A (2 ^ (cc - 1)) 0
    generalize wdU wy (fn w a) A (2 ^ (cc - 1)) 0 = u at *
    refine ⟨fun q => ?_, fun q v ev => ?_⟩
    · have : u = 0 := (nI_eq (b := 0) (by omega) (by decide)).mp q
      rw [this] at h
      exact wd_fin h
    · have : u = 1 := by
        have : ¬ u = 0 := fun z => q (by rw [z]; rfl)
        omega
      rw [this] at h
      rw [lN_1] at ev
      subst ev
      exact wd_fin h
section MW
variable {ms : Int32} {dd bm rr kt : Nat → Int32} {l1 l2 : Int64}
set_option maxHeartbeats 4000000 in
theorem md_wordOf {f w : Int32} {a : Nat} {P : Int32 → MdT → Prop} (ha : fin w a) {wy : Int32} (hf : f = 12 ∧ wy = 0 ∨ f = 13 ∧ wy = 1 ∨ f = 14 ∧ wy = 2 ∨ f = 15 ∧ wy = 3 ∨ f = 36 ∧ wy = 0)
    (h : ∀ dd' l1', mdlo dd dd' → P (wdB wy w a) (dd', l1', l2, bm, rr, kt)) : wp_Md_wordOf ms dd l1 l2 bm rr kt f (lN a) w P := by
  unfold wp_Md_wordOf
  refine md_take ha (fun d1 m1 o1 => ?_)
  obtain ⟨p0, p18, p14, p15⟩ := o1
  have lo : mdlo dd d1 := fun j hj => p0 j (by omega) (by omega) (by omega)
  have h := h d1 m1 lo
  unfold wdB at h
  have pa := fp_in w a
  have hbz := fn_bz w a
  dsimp only
  rw [p14]
  refine ⟨fun c => by rw [if_pos c] at h; exact h, fun c => ⟨fun c1 => ?_, fun c1 => by rw [if_neg c, if_pos c1] at h; exact h⟩⟩
  rw [if_neg c, if_neg (fun q => q c1)] at h
  obtain ⟨e1, e2⟩ := p15 c1
  have hA := fA_in (fk_1 c1)
  rw [e1]
  subst e2
  generalize fp w a = p at *
  generalize fA w a = A at *
  generalize fn w a = n at *
  have hc1 : iI p ≤ -21 ↔ p ≤ -21 := fq_le (b := -21) ⟨by omega, by omega⟩ ⟨by decide, by decide⟩
  refine ⟨fun c2 x ex => ?_, fun c2 => ?_⟩
  case refine_2 =>
    have c3 : ¬ p ≤ -21 := fun q => c2 (hc1.mpr q)
    rw [if_pos (by omega)] at h; exact h
  have c2 := hc1.mp c2
  rw [if_neg (by omega)] at h
  obtain ⟨cc, hcc⟩ : ∃ cc : Nat, (-p).toNat = cc := ⟨_, rfl⟩
  rw [hcc] at h
  have ex : x = nI cc := by rw [ex, fq_neg, fq_n]; congr 1; omega
  subst ex
  have h62 : nI cc ≤ 62 ↔ cc ≤ 62 := nI_leI (b := 62) (by omega) (by decide)
  have h62' : (62 : Int32) < nI cc ↔ 62 < cc := nI_ltI (a := 62) (by decide) (by omega)
  have hm : A % 2 ^ cc ≤ A := Nat.mod_le _ _
  have hd : A / 2 ^ cc ≤ A := Nat.div_le_self _ _
  have hbig : 62 < cc → A / 2 ^ cc = 0 ∧ A % 2 ^ cc = A := by
    intro q
    have : 2 ^ 62 ≤ 2 ^ cc := Nat.pow_le_pow_right (by decide) (by omega)
    exact ⟨Nat.div_eq_of_lt (by omega), Nat.mod_eq_of_lt (by omega)⟩
  have hhalf : 62 < cc → A < 2 ^ (cc - 1) := by
    intro q
    have : 2 ^ 62 ≤ 2 ^ (cc - 1) := Nat.pow_le_pow_right (by decide) (by omega)
    omega
  have hhb : cc ≤ 62 → 2 ^ (cc - 1) < 2 ^ 63 := fun q => Nat.pow_lt_pow_right (by decide) (by omega)
  have hshr : cc ≤ 62 → zz_lshr (lN A) (nI cc) = lN (A / 2 ^ cc) := fun q => fq_shr (by omega) (by omega)
  have hmsk : cc ≤ 62 → lN A &&& (zz_lshl 1 (nI cc) - 1) = lN (A % 2 ^ cc) := fun q => by rw [fq_m1 (by omega)]; exact fq_mask _ _
  have hone : cc ≤ 62 → zz_lshl 1 (nI cc - 1) = lN (2 ^ (cc - 1)) := fun q => by rw [show (1 : Int32) = nI 1 from rfl, pk_sub (by omega), fq_1 (by omega)]
  have hu := wdU_le wy n (A % 2 ^ cc) (2 ^ (cc - 1)) (A / 2 ^ cc)
  -- with its sign
  have t249 : ∀ K : Nat, P (wdV n K) (d1, lN A, l2, bm, rr, kt) → wj_Md_wordOf_249 ms f (lN a) w P (lN K) d1 (lN A) l2 bm rr kt := by
    intro K hK
    unfold wj_Md_wordOf_249 wj_Md_wordOf_264
    rw [p18]
    have := wd_fin (P := fun v => P v (d1, lN A, l2, bm, rr, kt)) hK
    exact ⟨fun q => this.1 q, fun q => this.2 q _ rfl⟩
  have t236 : ∀ u : Int32, u = nI (wdU wy n (A % 2 ^ cc) (2 ^ (cc - 1)) (A / 2 ^ cc)) → wj_Md_wordOf_236 ms f (lN a) w P (lN (A / 2 ^ cc)) u d1 (lN A) l2 bm rr kt := by
    intro u hu2
    unfold wj_Md_wordOf_236
    generalize wdU wy n (A % 2 ^ cc) (2 ^ (cc - 1)) (A / 2 ^ cc) = v at *
    have hz : u = 0 ↔ v = 0 := by rw [hu2]; exact nI_eq (b := 0) (by omega) (by decide)
    refine ⟨fun q => t249 _ ?_, fun q y ey => ?_⟩
    · rw [hz.mp q, Nat.add_zero] at h; exact h
    · have : v = 1 := by
        have : ¬ v = 0 := fun z => q (hz.mpr z)
        omega
      rw [lN_1] at ey
      subst ey
      rw [this] at h
      exact t249 _ h
  have t135 : ∀ (rs : Int32) (half low : Int64), (rs = 0 ↔ A % 2 ^ cc = 0) → (cc ≤ 62 → half = lN (2 ^ (cc - 1)) ∧ low = lN (A % 2 ^ cc)) → wj_Md_wordOf_135 ms f (lN a) w P (nI cc) (lN (A / 2 ^ cc)) rs half low d1 (lN A) l2 bm rr kt := by
    intro rs half low hrs hhl
    unfold wj_Md_wordOf_135 wj_Md_wordOf_169 wj_Md_wordOf_195 wj_Md_wordOf_235 wj_Md_wordOf_231
    rw [p18]
    have ho : (lN (A / 2 ^ cc) &&& 1 = (1 : Int64)) ↔ A / 2 ^ cc % 2 = 1 := by rw [fq_odd, fq_l1, fq_linj (by omega) (by decide)]
    have near : wy = 0 → ((62 < nI cc → wj_Md_wordOf_236 ms f (lN a) w P (lN (A / 2 ^ cc)) 0 d1 (lN A) l2 bm rr kt) ∧ (¬ 62 < nI cc → ((half < low → wj_Md_wordOf_236 ms f (lN a) w P (lN (A / 2 ^ cc)) 1 d1 (lN A) l2 bm rr kt) ∧ (¬ half < low → ((low = half → (((lN (A / 2 ^ cc) &&& (1 : Int64)) = (1 : Int64) → wj_Md_wordOf_236 ms f (lN a) w P (lN (A / 2 ^ cc)) 1 d1 (lN A) l2 bm rr kt) ∧ (¬ (lN (A / 2 ^ cc) &&& (1 : Int64)) = (1 : Int64) → wj_Md_wordOf_236 ms f (lN a) w P (lN (A / 2 ^ cc)) 0 d1 (lN A) l2 bm rr kt))) ∧ (¬ low = half → wj_Md_wordOf_236 ms f (lN a) w P (lN (A / 2 ^ cc)) 0 d1 (lN A) l2 bm rr kt)))))) := by
      intro hw
      unfold wdU at t236
      rw [if_pos hw] at t236
      refine ⟨fun q => t236 0 ?_, fun q => ?_⟩
      · obtain ⟨b1, b2⟩ := hbig (h62'.mp q)
        have b3 := hhalf (h62'.mp q)
        rw [b1, b2]
        unfold rn_up
        rw [if_neg (by rintro (t | ⟨t, -⟩) <;> omega)]; rfl
      · have q : cc ≤ 62 := by
          have : ¬ 62 < cc := fun z => q (h62'.mpr z)
          omega
        obtain ⟨g1, g2⟩ := hhl q
        rw [g1, g2]
        have hhb := hhb q
        rw [pk_lLT hhb (by omega), pk_lEQ (by omega) hhb, ho]
        unfold rn_up at t236
        refine ⟨fun z => t236 1 ?_, fun z => ⟨fun y => ⟨fun x => t236 1 ?_, fun x => t236 0 ?_⟩, fun y => t236 0 ?_⟩⟩
        · rw [if_pos (Or.inl z)]; rfl
        · rw [if_pos (Or.inr ⟨y, Or.inr x⟩)]; rfl
        · rw [if_neg (by rintro (t | ⟨t1, t2 | t2⟩); · exact z t
                         · cases t2
                         · exact x t2)]; rfl
        · rw [if_neg (by rintro (t | ⟨t1, t2⟩); · exact z t
                         · exact y t1)]; rfl
    rcases hf with ⟨rfl, rfl⟩ | ⟨rfl, rfl⟩ | ⟨rfl, rfl⟩ | ⟨rfl, rfl⟩ | ⟨rfl, rfl⟩
    · exact ⟨fun q => absurd q (by decide), fun _ => ⟨fun q => absurd q (by decide), fun _ => ⟨fun q => absurd q (by decide), fun _ => near rfl⟩⟩⟩
    · refine ⟨fun _ => t236 0 ?_, fun q => absurd rfl q⟩
      unfold wdU; rw [if_neg (by decide), if_pos rfl]; rfl
    · refine ⟨fun q => absurd q (by decide), fun _ => ⟨fun _ => ⟨fun z => t236 0 ?_, fun z => ⟨fun y => t236 1 ?_, fun y => t236 0 ?_⟩⟩, fun q => absurd rfl q⟩⟩
      · unfold wdU; rw [if_neg (by decide), if_neg (by decide), if_pos (hrs.mp z)]; rfl
      · unfold wdU; rw [if_neg (by decide), if_neg (by decide), if_neg (fun q => z (hrs.mpr q)), if_pos rfl, if_neg (by rw [y]; decide)]; rfl
      · have : n = 1 := by
          rcases hbz with q | q
          · exact absurd q y
          · exact q
        unfold wdU; rw [if_neg (by decide), if_neg (by decide), if_neg (fun q => z (hrs.mpr q)), if_pos rfl, if_pos this]; rfl
    · refine ⟨fun q => absurd q (by decide), fun _ => ⟨fun q => absurd q (by decide), fun _ => ⟨fun _ => ⟨fun z => t236 0 ?_, fun z => ⟨fun y => t236 0 ?_, fun y => t236 1 ?_⟩⟩, fun q => absurd rfl q⟩⟩⟩
      · unfold wdU; rw [if_neg (by decide), if_neg (by decide), if_pos (hrs.mp z)]; rfl
      · unfold wdU; rw [if_neg (by decide), if_neg (by decide), if_neg (fun q => z (hrs.mpr q)), if_neg (by decide), if_pos y]; rfl
      · unfold wdU; rw [if_neg (by decide), if_neg (by decide), if_neg (fun q => z (hrs.mpr q)), if_neg (by decide), if_neg y]; rfl
    · exact ⟨fun q => absurd q (by decide), fun _ => ⟨fun q => absurd q (by decide), fun _ => ⟨fun q => absurd q (by decide), fun _ => near rfl⟩⟩⟩
  have t92 : ∀ (rs : Int32), (rs = 0 ↔ A % 2 ^ cc = 0) → wj_Md_wordOf_92 ms f (lN a) w P (nI cc) (lN (A / 2 ^ cc)) rs d1 (lN A) l2 bm rr kt := by
    intro rs hrs
    unfold wj_Md_wordOf_92 wj_Md_wordOf_111
    refine ⟨fun q y ey => ⟨fun _ z ez => t135 rs _ _ hrs (fun q2 => ⟨?_, ?_⟩), fun z => absurd q z⟩, fun q => ⟨fun z => absurd z q, fun _ => t135 rs _ _ hrs (fun q2 => absurd (h62.mpr q2) q)⟩⟩
    · rw [ey, hone q2]
    · rw [ez, hmsk q2]
  have t62 : wj_Md_wordOf_62 ms f (lN a) w P (nI cc) (lN (A / 2 ^ cc)) d1 (lN A) l2 bm rr kt := by
    unfold wj_Md_wordOf_62 wj_Md_wordOf_87
    refine ⟨fun q => t92 1 ⟨fun z => absurd z (by decide), fun z => ?_⟩, fun q y ey => ?_⟩
    · have := (hbig (h62'.mp q)).2
      omega
    · have q : cc ≤ 62 := by
        have : ¬ 62 < cc := fun z => q (h62'.mpr z)
        omega
      have hz : lN A &&& y = 0 ↔ A % 2 ^ cc = 0 := by rw [ey, hmsk q, fq_l0, fq_linj (by omega) (by decide)]
      exact ⟨fun z => t92 0 ⟨fun _ => hz.mp z, fun _ => rfl⟩, fun z => t92 1 ⟨fun t => absurd t (by decide), fun t => absurd (hz.mpr t) z⟩⟩
  refine ⟨fun q => ?_, fun q => ?_⟩
  · rw [hshr (h62.mp q)]; exact t62
  · have := (hbig (Nat.lt_of_not_le (fun z => q (h62.mpr z)))).1
    rw [this] at t62
    exact t62
end MW
