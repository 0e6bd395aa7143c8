/-! ===== loads and stores ===== -/
/-- how large memory is -/
abbrev mem (ms : Int32) (mn S : Nat) : Prop := S ≤ 262144 ∧ 8 ≤ S ∧ ms = nI S ∧ mn = S / 4 ∧ S % 8 = 0
theorem mem.hS {ms : Int32} {mn S : Nat} (h : mem ms mn S) : S ≤ 262144 := h.1
theorem mem.h8 {ms : Int32} {mn S : Nat} (h : mem ms mn S) : 8 ≤ S := h.2.1
theorem mem.hms {ms : Int32} {mn S : Nat} (h : mem ms mn S) : ms = nI S := h.2.2.1
theorem mem.hmn {ms : Int32} {mn S : Nat} (h : mem ms mn S) : mn = S / 4 := h.2.2.2.1
theorem mem.m8 {ms : Int32} {mn S : Nat} (h : mem ms mn S) : S % 8 = 0 := h.2.2.2.2
section LS
variable {ms : Int32} {mn S : Nat} {g rg hq mf : Nat → Int32} {cd : Int32} {fg : Nat → Int32} {L O : Fr4} {dd bm rr kt : Nat → Int32} {l1 l2 : Int64} {w : Int32}
theorem q_c8 (h : q_rel mn g rg hq mf cd fg dd bm rr kt) : q_rel mn (upd g 8 (g 8 + 1)) rg hq mf cd fg dd bm rr (upd kt 1 (kt 1 + 1)) := by
  obtain ⟨r1, r2, r3, r4, r5, r6, r7, r8, r9⟩ := h
  refine ⟨r1, r2, r3, r4, r5, r6, r7, ⟨r8.1, ?_, r8.2.2.1, r8.2.2.2.1, r8.2.2.2.2⟩, r9⟩
  show kt 1 + 1 = g 8 + 1
  rw [r8.2.1]
theorem q_c9 (h : q_rel mn g rg hq mf cd fg dd bm rr kt) : q_rel mn (upd g 9 (g 9 + 1)) rg hq mf cd fg dd bm rr (upd kt 2 (kt 2 + 1)) := by
  obtain ⟨r1, r2, r3, r4, r5, r6, r7, r8, r9⟩ := h
  refine ⟨r1, r2, r3, r4, r5, r6, r7, ⟨r8.1, r8.2.1, ?_, r8.2.2.2.1, r8.2.2.2.2⟩, r9⟩
  show kt 2 + 1 = g 9 + 1
  rw [r8.2.2.1]
theorem q_fg {j : Nat} {v : Int32} (hj : j < 32) (h : q_rel mn g rg hq mf cd fg dd bm rr kt) : q_rel mn g rg hq mf cd (upd fg j v) dd bm (upd rr (34 + j) v) kt := by
  obtain ⟨r1, r2, r3, r4, r5, r6, r7, r8, r9⟩ := h
  refine ⟨fun i hi => ?_, r2, ?_, ?_, fun i hi => ?_, ?_, r7, r8, r9⟩
  · rw [pk_un (by omega)]; exact r1 i hi
  · rw [pk_un (by omega)]; exact r3
  · rw [pk_un (by omega)]; exact r4
  · by_cases c : i = j
    · subst c; rw [pk_us, pk_us]
    · rw [pk_un (by omega), pk_un c]; exact r5 i hi
  · rw [pk_un (by omega)]; exact r6
/-- the address -/
def adr (rg : Nat → Int32) (w : Int32) : Int32 := rv rg w 21 + w.toInt16.toInt32
theorem pr_adr {P : Int32 → Prop} (h : P (adr rg w)) : wp_Pr_address ms mn g rg hq mf cd fg L O w P := by
  unfold wp_Pr_address wp_Pr_signed
  exact pr_rs ⟨fI_in w 21, fun x ex => by subst ex; exact h⟩
theorem me_gd {P : Int32 → Prop} {k : Nat} {x : Int32} (M : mem ms mn S) (hk : q_k k) (h1 : q_gd S k x → P 1) (h2 : ¬ q_gd S k x → P 0) : wp_Me_good ms mn mf x (nI k) P := me_good hk M.hS M.h8 M.hms h1 h2
theorem md_gd {P : Int32 → Prop} {k : Nat} {x : Int32} (M : mem ms mn S) (hk : q_k k) (h1 : q_gd S k x → P 1) (h2 : ¬ q_gd S k x → P 0) : wp_Md_good ms dd l1 l2 bm rr kt x (nI k) P := md_good hk M.hS M.h8 M.hms h1 h2
theorem and_m4 {a : Nat} (h : a < 2 ^ 31) : nI a &&& (-4) = nI (a / 4 * 4) := by
  apply Int32.toBitVec_inj.mp
  apply BitVec.eq_of_toNat_eq
  rw [Int32.toBitVec_and, BitVec.toNat_and, pk_tn (by omega), pk_tn (by omega), show (-4 : Int32).toBitVec.toNat = 2 ^ 32 - 4 from rfl]
  apply Nat.eq_of_testBit_eq
  intro i
  rw [Nat.testBit_and, show a / 4 * 4 = a / 2 ^ 2 * 2 ^ 2 from rfl, Nat.testBit_mul_two_pow, Nat.testBit_div_two_pow]
  have e4 : ∀ i, i < 32 → (2 ^ 32 - 4).testBit i = decide (2 ≤ i) := by decide +kernel
  by_cases c : i < 32
  · rw [e4 i c]
    by_cases d : 2 ≤ i
    · rw [show i - 2 + 2 = i by omega]; simp [d]
    · simp [d]
  · have : a.testBit i = false := Nat.testBit_lt_two_pow (Nat.lt_of_lt_of_le h (Nat.pow_le_pow_right (by decide) (by omega)))
    by_cases d : 2 ≤ i
    · rw [show i - 2 + 2 = i by omega]; simp [this]
    · omega
theorem c_1 : (1 : Int32).toNatClampNeg = 1 := by decide
theorem c_2 : (2 : Int32).toNatClampNeg = 2 := by decide
theorem in1_5 : vp_in (1 : Int32) 5 := by unfold vp_in; decide
theorem in2_5 : vp_in (2 : Int32) 5 := by unfold vp_in; decide
/-- a load in the reference, from where the address is good -/
theorem md_ldg {a0 k : Int32} {a : Nat} {x : Int32} {P : MdT → Prop} (M : mem ms mn S) (h5 : dd 5 = 0) (ea : x = nI a) (ha : a < S)
    (h : ∀ was, was = rr (fI w 16).toNatClampNeg → ∀ by_, by_ = nI (8 * (a % 4)) →
      (((a0 = (32 : Int32)) → wp_Md_part ms dd l1 l2 bm rr (upd kt 1 (kt 1 + 1)) x (1 : Int32) (fun r_7 => ∀ x_8 : Int32, x_8 = (zz_shr (zz_shl r_7 (24 : Int32)) (24 : Int32)) → wp_Md_into ms dd l1 l2 bm rr (upd kt 1 (kt 1 + 1)) (fI w 16) x_8 P)) ∧ (¬ (a0 = (32 : Int32)) → (((a0 = (33 : Int32)) → wp_Md_part ms dd l1 l2 bm rr (upd kt 1 (kt 1 + 1)) x (2 : Int32) (fun r_12 => ∀ x_13 : Int32, x_13 = (zz_shr (zz_shl r_12 (16 : Int32)) (16 : Int32)) → wp_Md_into ms dd l1 l2 bm rr (upd kt 1 (kt 1 + 1)) (fI w 16) x_13 P)) ∧ (¬ (a0 = (33 : Int32)) → (((a0 = (34 : Int32)) → ((by_ = (0 : Int32) → wp_Md_into ms dd l1 l2 bm rr (upd kt 1 (kt 1 + 1)) (fI w 16) (q_word bm (a / 4)) P) ∧ (¬ by_ = (0 : Int32) → ∀ x_18 : Int32, x_18 = ((zz_shl (1 : Int32) by_) - (1 : Int32)) → ∀ x_19 : Int32, x_19 = ((zz_shl (q_word bm (a / 4)) by_) ||| (was &&& x_18)) → wp_Md_into ms dd l1 l2 bm rr (upd kt 1 (kt 1 + 1)) (fI w 16) x_19 P))) ∧ (¬ (a0 = (34 : Int32)) → (((a0 = (38 : Int32)) → ((by_ = (24 : Int32) → wp_Md_into ms dd l1 l2 bm rr (upd kt 1 (kt 1 + 1)) (fI w 16) (q_word bm (a / 4)) P) ∧ (¬ by_ = (24 : Int32) → ∀ x_26 : Int32, x_26 = (zz_shl (-1 : Int32) (by_ + (8 : Int32))) → ∀ x_27 : Int32, x_27 = (zz_ushr (q_word bm (a / 4)) ((24 : Int32) - by_)) → wp_Md_into ms dd l1 l2 bm rr (upd kt 1 (kt 1 + 1)) (fI w 16) ((was &&& x_26) ||| x_27) P))) ∧ (¬ (a0 = (38 : Int32)) → wp_Md_part ms dd l1 l2 bm rr (upd kt 1 (kt 1 + 1)) x k (fun r_32 => wp_Md_into ms dd l1 l2 bm rr (upd kt 1 (kt 1 + 1)) (fI w 16) r_32 P)))))))))) : wj_Md_loads_56 ms a0 x (fI w 16) P k dd l1 l2 bm rr kt := by
  unfold wj_Md_loads_56
  have hm := M.m8
  have hS := M.hS
  refine bq_t (by rw [h5]; decide) ⟨in1_5, fun x2 e2 => ⟨in1_5, fun x3 e3 => ?_⟩⟩
  rw [c_1] at *
  subst e2
  have e3 : x3 = nI (8 * (a % 4)) := by rw [e3, ea, and3 (by omega), show (8 : Int32) = nI 8 from rfl, pk_mul]
  have e4 : x &&& (-4) = nI (a / 4 * 4) := by rw [ea, and_m4 (by omega)]
  rw [e4]
  refine md_part (k := 4) (Or.inr (Or.inr rfl)) M.hS (by omega) (by omega) ?_
  unfold rdv
  rw [if_neg (by decide), if_neg (by decide), Nat.mul_div_cancel _ (by decide)]
  exact ⟨fI_in67 w 16, fun x5 e5 => h x5 e5 x3 e3⟩

theorem sx0 (x : Int32) : zz_shr (zz_shl x (32 - 8 * ((35 &&& 3) + 1))) (32 - 8 * ((35 &&& 3) + 1)) = x := by
  rw [show (32 : Int32) - 8 * ((35 &&& 3) + 1) = 0 by decide, shl_0]
  unfold zz_shr
  exact sb_shr0 x
theorem i_lb (H : pre mn g rg hq mf cd fg w dd bm rr kt) (M : mem ms mn S) (ho : zz_ushr w 26 = 32) : pfx ms mn g rg hq mf cd fg w dd bm rr kt := by
  by_cases hg : q_gd S 1 (adr rg w)
  · obtain ⟨a, ea, h1, h2⟩ := id hg
    refine pfx_mk H 0 (fun L O => (upd g 8 (g 8 + 1), wr rg (fI w 16) (zz_shr (zz_shl (rdv bm a 1) 24) 24), hq, mf, cd, fg, L, O)) (fun dd l1 l2 => (dd, l1, l2, bm, wr rr (fI w 16) (zz_shr (zz_shl (rdv bm a 1) 24) 24), upd kt 1 (kt 1 + 1))) (fun L O P hP => ?_) (fun dd l1 l2 H L O => ⟨oc_0 (q_wr (q_c8 H.rel)) H.e5 H.e11 H.e12 H.e13, fun Q hQ => ?_⟩) (fun _ _ _ _ => rfl) (fun _ _ _ _ _ hs => ⟨by repeat first | exact hs | apply lo_upd, rfl, rfl, rfl⟩) (by first | exact Or.inr (fun _ _ => rfl) | exact Or.inl (by unfold q_e; decide)) (fun _ _ _ => rfl)
    · unfold wp_Pr_perform
      refine pr_op ?_
      rw [ho]
      repeat first | refine bq_t (by decide) ?_ | refine bq_f (by decide) ?_
      unfold wp_Pr_access
      refine pr_op ?_
      rw [ho]
      repeat first | refine bq_t (by decide) ?_ | refine bq_f (by decide) ?_
      unfold wp_Pr_load
      refine pr_adr ?_
      unfold wp_Pr_bytes
      refine pr_op (fun kx ek => ?_)
      rw [ho] at ek
      have ek : kx = nI 1 := ek.trans (by decide)
      subst ek
      refine me_gd (k := 1) M (Or.inl rfl) (fun _ => ?_) (fun q => absurd hg q)
      refine bq_f (by decide) ?_
      have hm := M.m8
      have hS := M.hS
      have hmn := M.hmn
      have hw : mf (a / 4) = q_word bm (a / 4) := H.rel.2.2.2.2.2.2.2.2 _ (by omega)
      rw [ea]
      refine me_rd (k := 1) (Or.inl rfl) hS hmn h1 h2 (by omega) hw (pr_op ?_)
      rw [ho]
      repeat first | refine bq_t (by decide) ?_ | refine bq_f (by decide) ?_
      refine fun x ex y ey => pr_rt ?_
      refine fun z ez => ?_
      subst ey
      have ez : z = zz_shr (zz_shl (rdv bm a 1) 24) 24 := by rw [ez, ex]; rfl
      subst ez
      exact pr_result hP
    · unfold wp_Md_operate
      rw [ho]
      repeat first | refine bq_t (by decide) ?_ | refine bq_f (by decide) ?_
      unfold wp_Md_memories
      refine md_rs H.e9 H.rel (md_offset H.e9 (fun at_ eat => md_field H.e9 ?_))
      have eat : at_ = adr rg w := eat
      subst eat
      repeat first | refine bq_t (by decide) ?_ | refine bq_f (by decide) ?_
      have hm := M.m8
      have hS := M.hS
      have hmn := M.hmn
      have hw : mf (a / 4) = q_word bm (a / 4) := H.rel.2.2.2.2.2.2.2.2 _ (by omega)
      try unfold wj_Md_loads_24
      refine md_gd (k := 1) M (Or.inl rfl) (fun _ => ?_) (fun q => absurd hg q)
      refine bq_f (by decide) ?_
      refine md_ldg M H.e5 ea (by omega) (fun was ew by_ eb => ?_)
      repeat first | refine bq_t (by decide) ?_ | refine bq_f (by decide) ?_
      rw [ea]
      refine md_part (k := 1) (Or.inl rfl) hS h1 h2 ?_
      refine fun z ez => ?_
      subst ez
      exact md_into H.e5 hQ
  · refine pfx_mk H 1 (fun L O => (g, rg, hq, mf, cd, fg, L, O)) (fun dd l1 l2 => (upd dd 5 1, l1, l2, bm, rr, kt)) (fun L O P hP => ?_) (fun dd l1 l2 H L O => ⟨oc_end (by unfold q_e; simp) H.rel H.nxt rfl (fun j _ h => pk_un h), fun Q hQ => ?_⟩) (fun _ _ _ _ => rfl) (fun _ _ _ _ _ hs => ⟨by repeat first | exact hs | apply lo_upd, rfl, rfl, rfl⟩) (by first | exact Or.inr (fun _ _ => rfl) | exact Or.inl (by unfold q_e; decide)) (fun _ _ _ => rfl)
    · unfold wp_Pr_perform
      refine pr_op ?_
      rw [ho]
      repeat first | refine bq_t (by decide) ?_ | refine bq_f (by decide) ?_
      unfold wp_Pr_access
      refine pr_op ?_
      rw [ho]
      repeat first | refine bq_t (by decide) ?_ | refine bq_f (by decide) ?_
      unfold wp_Pr_load
      refine pr_adr ?_
      unfold wp_Pr_bytes
      refine pr_op (fun kx ek => ?_)
      rw [ho] at ek
      have ek : kx = nI 1 := ek.trans (by decide)
      subst ek
      refine me_gd (k := 1) M (Or.inl rfl) (fun q => absurd q hg) (fun _ => ?_)
      exact bq_t rfl hP
    · unfold wp_Md_operate
      rw [ho]
      repeat first | refine bq_t (by decide) ?_ | refine bq_f (by decide) ?_
      unfold wp_Md_memories
      refine md_rs H.e9 H.rel (md_offset H.e9 (fun at_ eat => md_field H.e9 ?_))
      have eat : at_ = adr rg w := eat
      subst eat
      repeat first | refine bq_t (by decide) ?_ | refine bq_f (by decide) ?_
      try unfold wj_Md_loads_24
      refine md_gd (k := 1) M (Or.inl rfl) (fun q => absurd q hg) (fun _ => ?_)
      refine bq_t rfl (md_ends H.e5 ?_)
      exact bq_f (show ¬ (1 : Int32) ≤ 0 by decide) hQ

theorem i_lh (H : pre mn g rg hq mf cd fg w dd bm rr kt) (M : mem ms mn S) (ho : zz_ushr w 26 = 33) : pfx ms mn g rg hq mf cd fg w dd bm rr kt := by
  by_cases hg : q_gd S 2 (adr rg w)
  · obtain ⟨a, ea, h1, h2⟩ := id hg
    refine pfx_mk H 0 (fun L O => (upd g 8 (g 8 + 1), wr rg (fI w 16) (zz_shr (zz_shl (rdv bm a 2) 16) 16), hq, mf, cd, fg, L, O)) (fun dd l1 l2 => (dd, l1, l2, bm, wr rr (fI w 16) (zz_shr (zz_shl (rdv bm a 2) 16) 16), upd kt 1 (kt 1 + 1))) (fun L O P hP => ?_) (fun dd l1 l2 H L O => ⟨oc_0 (q_wr (q_c8 H.rel)) H.e5 H.e11 H.e12 H.e13, fun Q hQ => ?_⟩) (fun _ _ _ _ => rfl) (fun _ _ _ _ _ hs => ⟨by repeat first | exact hs | apply lo_upd, rfl, rfl, rfl⟩) (by first | exact Or.inr (fun _ _ => rfl) | exact Or.inl (by unfold q_e; decide)) (fun _ _ _ => rfl)
    · unfold wp_Pr_perform
      refine pr_op ?_
      rw [ho]
      repeat first | refine bq_t (by decide) ?_ | refine bq_f (by decide) ?_
      unfold wp_Pr_access
      refine pr_op ?_
      rw [ho]
      repeat first | refine bq_t (by decide) ?_ | refine bq_f (by decide) ?_
      unfold wp_Pr_load
      refine pr_adr ?_
      unfold wp_Pr_bytes
      refine pr_op (fun kx ek => ?_)
      rw [ho] at ek
      have ek : kx = nI 2 := ek.trans (by decide)
      subst ek
      refine me_gd (k := 2) M (Or.inr (Or.inl rfl)) (fun _ => ?_) (fun q => absurd hg q)
      refine bq_f (by decide) ?_
      have hm := M.m8
      have hS := M.hS
      have hmn := M.hmn
      have hw : mf (a / 4) = q_word bm (a / 4) := H.rel.2.2.2.2.2.2.2.2 _ (by omega)
      rw [ea]
      refine me_rd (k := 2) (Or.inr (Or.inl rfl)) hS hmn h1 h2 (by omega) hw (pr_op ?_)
      rw [ho]
      repeat first | refine bq_t (by decide) ?_ | refine bq_f (by decide) ?_
      refine fun x ex y ey => pr_rt ?_
      refine fun z ez => ?_
      subst ey
      have ez : z = zz_shr (zz_shl (rdv bm a 2) 16) 16 := by rw [ez, ex]; rfl
      subst ez
      exact pr_result hP
    · unfold wp_Md_operate
      rw [ho]
      repeat first | refine bq_t (by decide) ?_ | refine bq_f (by decide) ?_
      unfold wp_Md_memories
      refine md_rs H.e9 H.rel (md_offset H.e9 (fun at_ eat => md_field H.e9 ?_))
      have eat : at_ = adr rg w := eat
      subst eat
      repeat first | refine bq_t (by decide) ?_ | refine bq_f (by decide) ?_
      have hm := M.m8
      have hS := M.hS
      have hmn := M.hmn
      have hw : mf (a / 4) = q_word bm (a / 4) := H.rel.2.2.2.2.2.2.2.2 _ (by omega)
      try unfold wj_Md_loads_24
      refine md_gd (k := 2) M (Or.inr (Or.inl rfl)) (fun _ => ?_) (fun q => absurd hg q)
      refine bq_f (by decide) ?_
      refine md_ldg M H.e5 ea (by omega) (fun was ew by_ eb => ?_)
      repeat first | refine bq_t (by decide) ?_ | refine bq_f (by decide) ?_
      rw [ea]
      refine md_part (k := 2) (Or.inr (Or.inl rfl)) hS h1 h2 ?_
      refine fun z ez => ?_
      subst ez
      exact md_into H.e5 hQ
  · refine pfx_mk H 1 (fun L O => (g, rg, hq, mf, cd, fg, L, O)) (fun dd l1 l2 => (upd dd 5 1, l1, l2, bm, rr, kt)) (fun L O P hP => ?_) (fun dd l1 l2 H L O => ⟨oc_end (by unfold q_e; simp) H.rel H.nxt rfl (fun j _ h => pk_un h), fun Q hQ => ?_⟩) (fun _ _ _ _ => rfl) (fun _ _ _ _ _ hs => ⟨by repeat first | exact hs | apply lo_upd, rfl, rfl, rfl⟩) (by first | exact Or.inr (fun _ _ => rfl) | exact Or.inl (by unfold q_e; decide)) (fun _ _ _ => rfl)
    · unfold wp_Pr_perform
      refine pr_op ?_
      rw [ho]
      repeat first | refine bq_t (by decide) ?_ | refine bq_f (by decide) ?_
      unfold wp_Pr_access
      refine pr_op ?_
      rw [ho]
      repeat first | refine bq_t (by decide) ?_ | refine bq_f (by decide) ?_
      unfold wp_Pr_load
      refine pr_adr ?_
      unfold wp_Pr_bytes
      refine pr_op (fun kx ek => ?_)
      rw [ho] at ek
      have ek : kx = nI 2 := ek.trans (by decide)
      subst ek
      refine me_gd (k := 2) M (Or.inr (Or.inl rfl)) (fun q => absurd q hg) (fun _ => ?_)
      exact bq_t rfl hP
    · unfold wp_Md_operate
      rw [ho]
      repeat first | refine bq_t (by decide) ?_ | refine bq_f (by decide) ?_
      unfold wp_Md_memories
      refine md_rs H.e9 H.rel (md_offset H.e9 (fun at_ eat => md_field H.e9 ?_))
      have eat : at_ = adr rg w := eat
      subst eat
      repeat first | refine bq_t (by decide) ?_ | refine bq_f (by decide) ?_
      try unfold wj_Md_loads_24
      refine md_gd (k := 2) M (Or.inr (Or.inl rfl)) (fun q => absurd q hg) (fun _ => ?_)
      refine bq_t rfl (md_ends H.e5 ?_)
      exact bq_f (show ¬ (1 : Int32) ≤ 0 by decide) hQ

theorem i_lw (H : pre mn g rg hq mf cd fg w dd bm rr kt) (M : mem ms mn S) (ho : zz_ushr w 26 = 35) : pfx ms mn g rg hq mf cd fg w dd bm rr kt := by
  by_cases hg : q_gd S 4 (adr rg w)
  · obtain ⟨a, ea, h1, h2⟩ := id hg
    refine pfx_mk H 0 (fun L O => (upd g 8 (g 8 + 1), wr rg (fI w 16) (rdv bm a 4), hq, mf, cd, fg, L, O)) (fun dd l1 l2 => (dd, l1, l2, bm, wr rr (fI w 16) (rdv bm a 4), upd kt 1 (kt 1 + 1))) (fun L O P hP => ?_) (fun dd l1 l2 H L O => ⟨oc_0 (q_wr (q_c8 H.rel)) H.e5 H.e11 H.e12 H.e13, fun Q hQ => ?_⟩) (fun _ _ _ _ => rfl) (fun _ _ _ _ _ hs => ⟨by repeat first | exact hs | apply lo_upd, rfl, rfl, rfl⟩) (by first | exact Or.inr (fun _ _ => rfl) | exact Or.inl (by unfold q_e; decide)) (fun _ _ _ => rfl)
    · unfold wp_Pr_perform
      refine pr_op ?_
      rw [ho]
      repeat first | refine bq_t (by decide) ?_ | refine bq_f (by decide) ?_
      unfold wp_Pr_access
      refine pr_op ?_
      rw [ho]
      repeat first | refine bq_t (by decide) ?_ | refine bq_f (by decide) ?_
      unfold wp_Pr_load
      refine pr_adr ?_
      unfold wp_Pr_bytes
      refine pr_op (fun kx ek => ?_)
      rw [ho] at ek
      have ek : kx = nI 4 := ek.trans (by decide)
      subst ek
      refine me_gd (k := 4) M (Or.inr (Or.inr (Or.inl rfl))) (fun _ => ?_) (fun q => absurd hg q)
      refine bq_f (by decide) ?_
      have hm := M.m8
      have hS := M.hS
      have hmn := M.hmn
      have hw : mf (a / 4) = q_word bm (a / 4) := H.rel.2.2.2.2.2.2.2.2 _ (by omega)
      rw [ea]
      refine me_rd (k := 4) (Or.inr (Or.inr rfl)) hS hmn h1 h2 (by omega) hw (pr_op ?_)
      rw [ho]
      repeat first | refine bq_t (by decide) ?_ | refine bq_f (by decide) ?_
      refine fun x ex y ey => pr_rt ?_
      refine fun z ez => ?_
      subst ey
      have ez : z = rdv bm a 4 := by rw [ez, ex]; exact sx0 _
      subst ez
      exact pr_result hP
    · unfold wp_Md_operate
      rw [ho]
      repeat first | refine bq_t (by decide) ?_ | refine bq_f (by decide) ?_
      unfold wp_Md_memories
      refine md_rs H.e9 H.rel (md_offset H.e9 (fun at_ eat => md_field H.e9 ?_))
      have eat : at_ = adr rg w := eat
      subst eat
      repeat first | refine bq_t (by decide) ?_ | refine bq_f (by decide) ?_
      have hm := M.m8
      have hS := M.hS
      have hmn := M.hmn
      have hw : mf (a / 4) = q_word bm (a / 4) := H.rel.2.2.2.2.2.2.2.2 _ (by omega)
      try unfold wj_Md_loads_24
      refine md_gd (k := 4) M (Or.inr (Or.inr (Or.inl rfl))) (fun _ => ?_) (fun q => absurd hg q)
      refine bq_f (by decide) ?_
      refine md_ldg M H.e5 ea (by omega) (fun was ew by_ eb => ?_)
      repeat first | refine bq_t (by decide) ?_ | refine bq_f (by decide) ?_
      rw [ea]
      refine md_part (k := 4) (Or.inr (Or.inr rfl)) hS h1 h2 ?_
      exact md_into H.e5 hQ
  · refine pfx_mk H 1 (fun L O => (g, rg, hq, mf, cd, fg, L, O)) (fun dd l1 l2 => (upd dd 5 1, l1, l2, bm, rr, kt)) (fun L O P hP => ?_) (fun dd l1 l2 H L O => ⟨oc_end (by unfold q_e; simp) H.rel H.nxt rfl (fun j _ h => pk_un h), fun Q hQ => ?_⟩) (fun _ _ _ _ => rfl) (fun _ _ _ _ _ hs => ⟨by repeat first | exact hs | apply lo_upd, rfl, rfl, rfl⟩) (by first | exact Or.inr (fun _ _ => rfl) | exact Or.inl (by unfold q_e; decide)) (fun _ _ _ => rfl)
    · unfold wp_Pr_perform
      refine pr_op ?_
      rw [ho]
      repeat first | refine bq_t (by decide) ?_ | refine bq_f (by decide) ?_
      unfold wp_Pr_access
      refine pr_op ?_
      rw [ho]
      repeat first | refine bq_t (by decide) ?_ | refine bq_f (by decide) ?_
      unfold wp_Pr_load
      refine pr_adr ?_
      unfold wp_Pr_bytes
      refine pr_op (fun kx ek => ?_)
      rw [ho] at ek
      have ek : kx = nI 4 := ek.trans (by decide)
      subst ek
      refine me_gd (k := 4) M (Or.inr (Or.inr (Or.inl rfl))) (fun q => absurd q hg) (fun _ => ?_)
      exact bq_t rfl hP
    · unfold wp_Md_operate
      rw [ho]
      repeat first | refine bq_t (by decide) ?_ | refine bq_f (by decide) ?_
      unfold wp_Md_memories
      refine md_rs H.e9 H.rel (md_offset H.e9 (fun at_ eat => md_field H.e9 ?_))
      have eat : at_ = adr rg w := eat
      subst eat
      repeat first | refine bq_t (by decide) ?_ | refine bq_f (by decide) ?_
      try unfold wj_Md_loads_24
      refine md_gd (k := 4) M (Or.inr (Or.inr (Or.inl rfl))) (fun q => absurd q hg) (fun _ => ?_)
      refine bq_t rfl (md_ends H.e5 ?_)
      exact bq_f (show ¬ (1 : Int32) ≤ 0 by decide) hQ

theorem i_lbu (H : pre mn g rg hq mf cd fg w dd bm rr kt) (M : mem ms mn S) (ho : zz_ushr w 26 = 36) : pfx ms mn g rg hq mf cd fg w dd bm rr kt := by
  by_cases hg : q_gd S 1 (adr rg w)
  · obtain ⟨a, ea, h1, h2⟩ := id hg
    refine pfx_mk H 0 (fun L O => (upd g 8 (g 8 + 1), wr rg (fI w 16) (rdv bm a 1), hq, mf, cd, fg, L, O)) (fun dd l1 l2 => (dd, l1, l2, bm, wr rr (fI w 16) (rdv bm a 1), upd kt 1 (kt 1 + 1))) (fun L O P hP => ?_) (fun dd l1 l2 H L O => ⟨oc_0 (q_wr (q_c8 H.rel)) H.e5 H.e11 H.e12 H.e13, fun Q hQ => ?_⟩) (fun _ _ _ _ => rfl) (fun _ _ _ _ _ hs => ⟨by repeat first | exact hs | apply lo_upd, rfl, rfl, rfl⟩) (by first | exact Or.inr (fun _ _ => rfl) | exact Or.inl (by unfold q_e; decide)) (fun _ _ _ => rfl)
    · unfold wp_Pr_perform
      refine pr_op ?_
      rw [ho]
      repeat first | refine bq_t (by decide) ?_ | refine bq_f (by decide) ?_
      unfold wp_Pr_access
      refine pr_op ?_
      rw [ho]
      repeat first | refine bq_t (by decide) ?_ | refine bq_f (by decide) ?_
      unfold wp_Pr_load
      refine pr_adr ?_
      unfold wp_Pr_bytes
      refine pr_op (fun kx ek => ?_)
      rw [ho] at ek
      have ek : kx = nI 1 := ek.trans (by decide)
      subst ek
      refine me_gd (k := 1) M (Or.inl rfl) (fun _ => ?_) (fun q => absurd hg q)
      refine bq_f (by decide) ?_
      have hm := M.m8
      have hS := M.hS
      have hmn := M.hmn
      have hw : mf (a / 4) = q_word bm (a / 4) := H.rel.2.2.2.2.2.2.2.2 _ (by omega)
      rw [ea]
      refine me_rd (k := 1) (Or.inl rfl) hS hmn h1 h2 (by omega) hw (pr_op ?_)
      rw [ho]
      repeat first | refine bq_t (by decide) ?_ | refine bq_f (by decide) ?_
      refine fun x ex y ey => pr_rt ?_
      subst ey
      exact pr_result hP
    · unfold wp_Md_operate
      rw [ho]
      repeat first | refine bq_t (by decide) ?_ | refine bq_f (by decide) ?_
      unfold wp_Md_memories
      refine md_rs H.e9 H.rel (md_offset H.e9 (fun at_ eat => md_field H.e9 ?_))
      have eat : at_ = adr rg w := eat
      subst eat
      repeat first | refine bq_t (by decide) ?_ | refine bq_f (by decide) ?_
      have hm := M.m8
      have hS := M.hS
      have hmn := M.hmn
      have hw : mf (a / 4) = q_word bm (a / 4) := H.rel.2.2.2.2.2.2.2.2 _ (by omega)
      try unfold wj_Md_loads_24
      refine md_gd (k := 1) M (Or.inl rfl) (fun _ => ?_) (fun q => absurd hg q)
      refine bq_f (by decide) ?_
      refine md_ldg M H.e5 ea (by omega) (fun was ew by_ eb => ?_)
      repeat first | refine bq_t (by decide) ?_ | refine bq_f (by decide) ?_
      rw [ea]
      refine md_part (k := 1) (Or.inl rfl) hS h1 h2 ?_
      exact md_into H.e5 hQ
  · refine pfx_mk H 1 (fun L O => (g, rg, hq, mf, cd, fg, L, O)) (fun dd l1 l2 => (upd dd 5 1, l1, l2, bm, rr, kt)) (fun L O P hP => ?_) (fun dd l1 l2 H L O => ⟨oc_end (by unfold q_e; simp) H.rel H.nxt rfl (fun j _ h => pk_un h), fun Q hQ => ?_⟩) (fun _ _ _ _ => rfl) (fun _ _ _ _ _ hs => ⟨by repeat first | exact hs | apply lo_upd, rfl, rfl, rfl⟩) (by first | exact Or.inr (fun _ _ => rfl) | exact Or.inl (by unfold q_e; decide)) (fun _ _ _ => rfl)
    · unfold wp_Pr_perform
      refine pr_op ?_
      rw [ho]
      repeat first | refine bq_t (by decide) ?_ | refine bq_f (by decide) ?_
      unfold wp_Pr_access
      refine pr_op ?_
      rw [ho]
      repeat first | refine bq_t (by decide) ?_ | refine bq_f (by decide) ?_
      unfold wp_Pr_load
      refine pr_adr ?_
      unfold wp_Pr_bytes
      refine pr_op (fun kx ek => ?_)
      rw [ho] at ek
      have ek : kx = nI 1 := ek.trans (by decide)
      subst ek
      refine me_gd (k := 1) M (Or.inl rfl) (fun q => absurd q hg) (fun _ => ?_)
      exact bq_t rfl hP
    · unfold wp_Md_operate
      rw [ho]
      repeat first | refine bq_t (by decide) ?_ | refine bq_f (by decide) ?_
      unfold wp_Md_memories
      refine md_rs H.e9 H.rel (md_offset H.e9 (fun at_ eat => md_field H.e9 ?_))
      have eat : at_ = adr rg w := eat
      subst eat
      repeat first | refine bq_t (by decide) ?_ | refine bq_f (by decide) ?_
      try unfold wj_Md_loads_24
      refine md_gd (k := 1) M (Or.inl rfl) (fun q => absurd q hg) (fun _ => ?_)
      refine bq_t rfl (md_ends H.e5 ?_)
      exact bq_f (show ¬ (1 : Int32) ≤ 0 by decide) hQ

theorem i_lhu (H : pre mn g rg hq mf cd fg w dd bm rr kt) (M : mem ms mn S) (ho : zz_ushr w 26 = 37) : pfx ms mn g rg hq mf cd fg w dd bm rr kt := by
  by_cases hg : q_gd S 2 (adr rg w)
  · obtain ⟨a, ea, h1, h2⟩ := id hg
    refine pfx_mk H 0 (fun L O => (upd g 8 (g 8 + 1), wr rg (fI w 16) (rdv bm a 2), hq, mf, cd, fg, L, O)) (fun dd l1 l2 => (dd, l1, l2, bm, wr rr (fI w 16) (rdv bm a 2), upd kt 1 (kt 1 + 1))) (fun L O P hP => ?_) (fun dd l1 l2 H L O => ⟨oc_0 (q_wr (q_c8 H.rel)) H.e5 H.e11 H.e12 H.e13, fun Q hQ => ?_⟩) (fun _ _ _ _ => rfl) (fun _ _ _ _ _ hs => ⟨by repeat first | exact hs | apply lo_upd, rfl, rfl, rfl⟩) (by first | exact Or.inr (fun _ _ => rfl) | exact Or.inl (by unfold q_e; decide)) (fun _ _ _ => rfl)
    · unfold wp_Pr_perform
      refine pr_op ?_
      rw [ho]
      repeat first | refine bq_t (by decide) ?_ | refine bq_f (by decide) ?_
      unfold wp_Pr_access
      refine pr_op ?_
      rw [ho]
      repeat first | refine bq_t (by decide) ?_ | refine bq_f (by decide) ?_
      unfold wp_Pr_load
      refine pr_adr ?_
      unfold wp_Pr_bytes
      refine pr_op (fun kx ek => ?_)
      rw [ho] at ek
      have ek : kx = nI 2 := ek.trans (by decide)
      subst ek
      refine me_gd (k := 2) M (Or.inr (Or.inl rfl)) (fun _ => ?_) (fun q => absurd hg q)
      refine bq_f (by decide) ?_
      have hm := M.m8
      have hS := M.hS
      have hmn := M.hmn
      have hw : mf (a / 4) = q_word bm (a / 4) := H.rel.2.2.2.2.2.2.2.2 _ (by omega)
      rw [ea]
      refine me_rd (k := 2) (Or.inr (Or.inl rfl)) hS hmn h1 h2 (by omega) hw (pr_op ?_)
      rw [ho]
      repeat first | refine bq_t (by decide) ?_ | refine bq_f (by decide) ?_
      refine fun x ex y ey => pr_rt ?_
      subst ey
      exact pr_result hP
    · unfold wp_Md_operate
      rw [ho]
      repeat first | refine bq_t (by decide) ?_ | refine bq_f (by decide) ?_
      unfold wp_Md_memories
      refine md_rs H.e9 H.rel (md_offset H.e9 (fun at_ eat => md_field H.e9 ?_))
      have eat : at_ = adr rg w := eat
      subst eat
      repeat first | refine bq_t (by decide) ?_ | refine bq_f (by decide) ?_
      have hm := M.m8
      have hS := M.hS
      have hmn := M.hmn
      have hw : mf (a / 4) = q_word bm (a / 4) := H.rel.2.2.2.2.2.2.2.2 _ (by omega)
      try unfold wj_Md_loads_24
      refine md_gd (k := 2) M (Or.inr (Or.inl rfl)) (fun _ => ?_) (fun q => absurd hg q)
      refine bq_f (by decide) ?_
      refine md_ldg M H.e5 ea (by omega) (fun was ew by_ eb => ?_)
      repeat first | refine bq_t (by decide) ?_ | refine bq_f (by decide) ?_
      rw [ea]
      refine md_part (k := 2) (Or.inr (Or.inl rfl)) hS h1 h2 ?_
      exact md_into H.e5 hQ
  · refine pfx_mk H 1 (fun L O => (g, rg, hq, mf, cd, fg, L, O)) (fun dd l1 l2 => (upd dd 5 1, l1, l2, bm, rr, kt)) (fun L O P hP => ?_) (fun dd l1 l2 H L O => ⟨oc_end (by unfold q_e; simp) H.rel H.nxt rfl (fun j _ h => pk_un h), fun Q hQ => ?_⟩) (fun _ _ _ _ => rfl) (fun _ _ _ _ _ hs => ⟨by repeat first | exact hs | apply lo_upd, rfl, rfl, rfl⟩) (by first | exact Or.inr (fun _ _ => rfl) | exact Or.inl (by unfold q_e; decide)) (fun _ _ _ => rfl)
    · unfold wp_Pr_perform
      refine pr_op ?_
      rw [ho]
      repeat first | refine bq_t (by decide) ?_ | refine bq_f (by decide) ?_
      unfold wp_Pr_access
      refine pr_op ?_
      rw [ho]
      repeat first | refine bq_t (by decide) ?_ | refine bq_f (by decide) ?_
      unfold wp_Pr_load
      refine pr_adr ?_
      unfold wp_Pr_bytes
      refine pr_op (fun kx ek => ?_)
      rw [ho] at ek
      have ek : kx = nI 2 := ek.trans (by decide)
      subst ek
      refine me_gd (k := 2) M (Or.inr (Or.inl rfl)) (fun q => absurd q hg) (fun _ => ?_)
      exact bq_t rfl hP
    · unfold wp_Md_operate
      rw [ho]
      repeat first | refine bq_t (by decide) ?_ | refine bq_f (by decide) ?_
      unfold wp_Md_memories
      refine md_rs H.e9 H.rel (md_offset H.e9 (fun at_ eat => md_field H.e9 ?_))
      have eat : at_ = adr rg w := eat
      subst eat
      repeat first | refine bq_t (by decide) ?_ | refine bq_f (by decide) ?_
      try unfold wj_Md_loads_24
      refine md_gd (k := 2) M (Or.inr (Or.inl rfl)) (fun q => absurd q hg) (fun _ => ?_)
      refine bq_t rfl (md_ends H.e5 ?_)
      exact bq_f (show ¬ (1 : Int32) ≤ 0 by decide) hQ

theorem lwl_e (W was : Int32) {p : Nat} (hp : p < 4) : (p = 0 → zz_shl W (nI (8 * p)) ||| (was &&& (zz_shl (-1) (nI (8 * p)) ^^^ (-1))) = W) ∧ zz_shl 1 (nI (8 * p)) - 1 = zz_shl (-1) (nI (8 * p)) ^^^ (-1) := by
  have h : p = 0 ∨ p = 1 ∨ p = 2 ∨ p = 3 := by omega
  refine ⟨?_, ?_⟩
  · rintro rfl
    rw [show nI (8 * 0) = 0 from rfl, shl_0, shl_0, show ((-1 : Int32) ^^^ -1) = 0 by decide, Int32.and_zero, Int32.or_zero]
  · rcases h with rfl | rfl | rfl | rfl <;> decide
theorem lwr_e (W was : Int32) {p : Nat} (hp : p < 4) : (p = 3 → zz_ushr W (nI (24 - 8 * p)) ||| (was &&& (zz_ushr (-1) (nI (24 - 8 * p)) ^^^ (-1))) = W) ∧ (¬ p = 3 → zz_shl (-1) (nI (8 * p + 8)) = zz_ushr (-1) (nI (24 - 8 * p)) ^^^ (-1)) := by
  have h : p = 0 ∨ p = 1 ∨ p = 2 ∨ p = 3 := by omega
  refine ⟨?_, ?_⟩
  · rintro rfl
    rw [show nI (24 - 8 * 3) = 0 from rfl, ushr_0, ushr_0, show ((-1 : Int32) ^^^ -1) = 0 by decide, Int32.and_zero, Int32.or_zero]
  · intro q
    rcases h with rfl | rfl | rfl | rfl
    · decide
    · decide
    · decide
    · exact absurd rfl q
theorem i_lwl (H : pre mn g rg hq mf cd fg w dd bm rr kt) (M : mem ms mn S) (ho : zz_ushr w 26 = 34) : pfx ms mn g rg hq mf cd fg w dd bm rr kt := by
  by_cases hg : q_gd S 1 (adr rg w)
  · obtain ⟨a, ea, h1, h2⟩ := id hg
    refine pfx_mk H 0 (fun L O => (upd g 8 (g 8 + 1), wr rg (fI w 16) (zz_shl (q_word bm (a / 4)) (nI (8 * (a % 4))) ||| (rv rg w 16 &&& (zz_shl (-1) (nI (8 * (a % 4))) ^^^ (-1)))), hq, mf, cd, fg, L, O)) (fun dd l1 l2 => (dd, l1, l2, bm, wr rr (fI w 16) (zz_shl (q_word bm (a / 4)) (nI (8 * (a % 4))) ||| (rv rg w 16 &&& (zz_shl (-1) (nI (8 * (a % 4))) ^^^ (-1)))), upd kt 1 (kt 1 + 1))) (fun L O P hP => ?_) (fun dd l1 l2 H L O => ⟨oc_0 (q_wr (q_c8 H.rel)) H.e5 H.e11 H.e12 H.e13, fun Q hQ => ?_⟩) (fun _ _ _ _ => rfl) (fun _ _ _ _ _ hs => ⟨by repeat first | exact hs | apply lo_upd, rfl, rfl, rfl⟩) (by first | exact Or.inr (fun _ _ => rfl) | exact Or.inl (by unfold q_e; decide)) (fun _ _ _ => rfl)
    · unfold wp_Pr_perform
      refine pr_op ?_
      rw [ho]
      repeat first | refine bq_t (by decide) ?_ | refine bq_f (by decide) ?_
      unfold wp_Pr_access
      refine pr_op ?_
      rw [ho]
      repeat first | refine bq_t (by decide) ?_ | refine bq_f (by decide) ?_
      unfold wp_Pr_loadPart
      refine pr_adr ?_
      refine me_gd (k := 1) M (Or.inl rfl) (fun _ => ?_) (fun q => absurd hg q)
      refine bq_f (by decide) ?_
      have hm := M.m8
      have hS := M.hS
      have hmn := M.hmn
      have hw : mf (a / 4) = q_word bm (a / 4) := H.rel.2.2.2.2.2.2.2.2 _ (by omega)
      rw [ea, and_m4 (by omega)]
      refine me_rd (k := 4) (Or.inr (Or.inr rfl)) hS hmn (by omega) (by omega) (by omega) (by rw [Nat.mul_div_cancel _ (by decide)]; exact hw) ?_
      have er : rdv bm (a / 4 * 4) 4 = q_word bm (a / 4) := by unfold rdv; rw [if_neg (by decide), if_neg (by decide), Nat.mul_div_cancel _ (by decide)]
      rw [er]
      refine pr_rt ⟨fI_in w 16, fun x6 e6 x7 e7 x8 e8 x9 e9 => pr_rt (pr_op ?_)⟩
      rw [ho]
      repeat first | refine bq_t (by decide) ?_ | refine bq_f (by decide) ?_
      have f7 : x7 = nI (8 * (a % 4)) := by rw [e7, and3 (by omega), show (8 : Int32) = nI 8 from rfl, pk_mul, Nat.mul_comm]
      have f8 : x8 = nI (24 - 8 * (a % 4)) := by rw [e8, f7, show (24 : Int32) = nI 24 from rfl, pk_sub (by omega)]
      clear e8 e7
      refine fun x ex y ey => ?_
      subst e6
      subst e9
      subst f7
      subst f8
      subst ex
      subst ey
      exact pr_result hP
    · unfold wp_Md_operate
      rw [ho]
      repeat first | refine bq_t (by decide) ?_ | refine bq_f (by decide) ?_
      unfold wp_Md_memories
      refine md_rs H.e9 H.rel (md_offset H.e9 (fun at_ eat => md_field H.e9 ?_))
      have eat : at_ = adr rg w := eat
      subst eat
      repeat first | refine bq_t (by decide) ?_ | refine bq_f (by decide) ?_
      have hm := M.m8
      have hS := M.hS
      have hmn := M.hmn
      have hw : mf (a / 4) = q_word bm (a / 4) := H.rel.2.2.2.2.2.2.2.2 _ (by omega)
      try unfold wj_Md_loads_24
      refine md_gd (k := 1) M (Or.inl rfl) (fun _ => ?_) (fun q => absurd hg q)
      refine bq_f (by decide) ?_
      refine md_ldg M H.e5 ea (by omega) (fun was ew by_ eb => ?_)
      repeat first | refine bq_t (by decide) ?_ | refine bq_f (by decide) ?_
      have l1_ := lwl_e (q_word bm (a / 4)) (rv rg w 16) (Nat.mod_lt a (by decide : 0 < 4))
      rw [eb]
      have hz : nI (8 * (a % 4)) = 0 ↔ a % 4 = 0 := by rw [show (0 : Int32) = nI 0 from rfl, nI_eq (by omega) (by decide)]; omega
      have ew : was = rv rg w 16 := ew.trans (H.rel.1 _ (fI_lt w 16))
      subst ew
      refine ⟨fun c => ?_, fun c x ex y ey => ?_⟩
      · rw [l1_.1 (hz.mp c)] at hQ; exact md_into H.e5 hQ
      · rw [l1_.2] at ex
        subst ex
        subst ey
        exact md_into H.e5 hQ
  · refine pfx_mk H 1 (fun L O => (g, rg, hq, mf, cd, fg, L, O)) (fun dd l1 l2 => (upd dd 5 1, l1, l2, bm, rr, kt)) (fun L O P hP => ?_) (fun dd l1 l2 H L O => ⟨oc_end (by unfold q_e; simp) H.rel H.nxt rfl (fun j _ h => pk_un h), fun Q hQ => ?_⟩) (fun _ _ _ _ => rfl) (fun _ _ _ _ _ hs => ⟨by repeat first | exact hs | apply lo_upd, rfl, rfl, rfl⟩) (by first | exact Or.inr (fun _ _ => rfl) | exact Or.inl (by unfold q_e; decide)) (fun _ _ _ => rfl)
    · unfold wp_Pr_perform
      refine pr_op ?_
      rw [ho]
      repeat first | refine bq_t (by decide) ?_ | refine bq_f (by decide) ?_
      unfold wp_Pr_access
      refine pr_op ?_
      rw [ho]
      repeat first | refine bq_t (by decide) ?_ | refine bq_f (by decide) ?_
      unfold wp_Pr_loadPart
      refine pr_adr ?_
      refine me_gd (k := 1) M (Or.inl rfl) (fun q => absurd q hg) (fun _ => ?_)
      exact bq_t rfl hP
    · unfold wp_Md_operate
      rw [ho]
      repeat first | refine bq_t (by decide) ?_ | refine bq_f (by decide) ?_
      unfold wp_Md_memories
      refine md_rs H.e9 H.rel (md_offset H.e9 (fun at_ eat => md_field H.e9 ?_))
      have eat : at_ = adr rg w := eat
      subst eat
      repeat first | refine bq_t (by decide) ?_ | refine bq_f (by decide) ?_
      try unfold wj_Md_loads_24
      refine md_gd (k := 1) M (Or.inl rfl) (fun q => absurd q hg) (fun _ => ?_)
      refine bq_t rfl (md_ends H.e5 ?_)
      exact bq_f (show ¬ (1 : Int32) ≤ 0 by decide) hQ

theorem i_lwr (H : pre mn g rg hq mf cd fg w dd bm rr kt) (M : mem ms mn S) (ho : zz_ushr w 26 = 38) : pfx ms mn g rg hq mf cd fg w dd bm rr kt := by
  by_cases hg : q_gd S 1 (adr rg w)
  · obtain ⟨a, ea, h1, h2⟩ := id hg
    refine pfx_mk H 0 (fun L O => (upd g 8 (g 8 + 1), wr rg (fI w 16) (zz_ushr (q_word bm (a / 4)) (nI (24 - 8 * (a % 4))) ||| (rv rg w 16 &&& (zz_ushr (-1) (nI (24 - 8 * (a % 4))) ^^^ (-1)))), hq, mf, cd, fg, L, O)) (fun dd l1 l2 => (dd, l1, l2, bm, wr rr (fI w 16) (zz_ushr (q_word bm (a / 4)) (nI (24 - 8 * (a % 4))) ||| (rv rg w 16 &&& (zz_ushr (-1) (nI (24 - 8 * (a % 4))) ^^^ (-1)))), upd kt 1 (kt 1 + 1))) (fun L O P hP => ?_) (fun dd l1 l2 H L O => ⟨oc_0 (q_wr (q_c8 H.rel)) H.e5 H.e11 H.e12 H.e13, fun Q hQ => ?_⟩) (fun _ _ _ _ => rfl) (fun _ _ _ _ _ hs => ⟨by repeat first | exact hs | apply lo_upd, rfl, rfl, rfl⟩) (by first | exact Or.inr (fun _ _ => rfl) | exact Or.inl (by unfold q_e; decide)) (fun _ _ _ => rfl)
    · unfold wp_Pr_perform
      refine pr_op ?_
      rw [ho]
      repeat first | refine bq_t (by decide) ?_ | refine bq_f (by decide) ?_
      unfold wp_Pr_access
      refine pr_op ?_
      rw [ho]
      repeat first | refine bq_t (by decide) ?_ | refine bq_f (by decide) ?_
      unfold wp_Pr_loadPart
      refine pr_adr ?_
      refine me_gd (k := 1) M (Or.inl rfl) (fun _ => ?_) (fun q => absurd hg q)
      refine bq_f (by decide) ?_
      have hm := M.m8
      have hS := M.hS
      have hmn := M.hmn
      have hw : mf (a / 4) = q_word bm (a / 4) := H.rel.2.2.2.2.2.2.2.2 _ (by omega)
      rw [ea, and_m4 (by omega)]
      refine me_rd (k := 4) (Or.inr (Or.inr rfl)) hS hmn (by omega) (by omega) (by omega) (by rw [Nat.mul_div_cancel _ (by decide)]; exact hw) ?_
      have er : rdv bm (a / 4 * 4) 4 = q_word bm (a / 4) := by unfold rdv; rw [if_neg (by decide), if_neg (by decide), Nat.mul_div_cancel _ (by decide)]
      rw [er]
      refine pr_rt ⟨fI_in w 16, fun x6 e6 x7 e7 x8 e8 x9 e9 => pr_rt (pr_op ?_)⟩
      rw [ho]
      repeat first | refine bq_t (by decide) ?_ | refine bq_f (by decide) ?_
      have f7 : x7 = nI (8 * (a % 4)) := by rw [e7, and3 (by omega), show (8 : Int32) = nI 8 from rfl, pk_mul, Nat.mul_comm]
      have f8 : x8 = nI (24 - 8 * (a % 4)) := by rw [e8, f7, show (24 : Int32) = nI 24 from rfl, pk_sub (by omega)]
      clear e8 e7
      refine fun x ex y ey => ?_
      subst e6
      subst e9
      subst f7
      subst f8
      subst ex
      subst ey
      exact pr_result hP
    · unfold wp_Md_operate
      rw [ho]
      repeat first | refine bq_t (by decide) ?_ | refine bq_f (by decide) ?_
      unfold wp_Md_memories
      refine md_rs H.e9 H.rel (md_offset H.e9 (fun at_ eat => md_field H.e9 ?_))
      have eat : at_ = adr rg w := eat
      subst eat
      repeat first | refine bq_t (by decide) ?_ | refine bq_f (by decide) ?_
      have hm := M.m8
      have hS := M.hS
      have hmn := M.hmn
      have hw : mf (a / 4) = q_word bm (a / 4) := H.rel.2.2.2.2.2.2.2.2 _ (by omega)
      try unfold wj_Md_loads_24
      refine md_gd (k := 1) M (Or.inl rfl) (fun _ => ?_) (fun q => absurd hg q)
      refine bq_f (by decide) ?_
      refine md_ldg M H.e5 ea (by omega) (fun was ew by_ eb => ?_)
      repeat first | refine bq_t (by decide) ?_ | refine bq_f (by decide) ?_
      have l1_ := lwr_e (q_word bm (a / 4)) (rv rg w 16) (Nat.mod_lt a (by decide : 0 < 4))
      rw [eb]
      have hz : nI (8 * (a % 4)) = 24 ↔ a % 4 = 3 := by rw [show (24 : Int32) = nI 24 from rfl, nI_eq (by omega) (by decide)]; omega
      have ew : was = rv rg w 16 := ew.trans (H.rel.1 _ (fI_lt w 16))
      subst ew
      refine ⟨fun c => ?_, fun c x ex y ey => ?_⟩
      · rw [l1_.1 (hz.mp c)] at hQ; exact md_into H.e5 hQ
      · have c3 : ¬ a % 4 = 3 := fun q => c (hz.mpr q)
        rw [show (8 : Int32) = nI 8 from rfl, nI_add, l1_.2 c3] at ex
        rw [show (24 : Int32) = nI 24 from rfl, pk_sub (by omega)] at ey
        subst ex
        subst ey
        rw [Int32.or_comm]
        exact md_into H.e5 hQ
  · refine pfx_mk H 1 (fun L O => (g, rg, hq, mf, cd, fg, L, O)) (fun dd l1 l2 => (upd dd 5 1, l1, l2, bm, rr, kt)) (fun L O P hP => ?_) (fun dd l1 l2 H L O => ⟨oc_end (by unfold q_e; simp) H.rel H.nxt rfl (fun j _ h => pk_un h), fun Q hQ => ?_⟩) (fun _ _ _ _ => rfl) (fun _ _ _ _ _ hs => ⟨by repeat first | exact hs | apply lo_upd, rfl, rfl, rfl⟩) (by first | exact Or.inr (fun _ _ => rfl) | exact Or.inl (by unfold q_e; decide)) (fun _ _ _ => rfl)
    · unfold wp_Pr_perform
      refine pr_op ?_
      rw [ho]
      repeat first | refine bq_t (by decide) ?_ | refine bq_f (by decide) ?_
      unfold wp_Pr_access
      refine pr_op ?_
      rw [ho]
      repeat first | refine bq_t (by decide) ?_ | refine bq_f (by decide) ?_
      unfold wp_Pr_loadPart
      refine pr_adr ?_
      refine me_gd (k := 1) M (Or.inl rfl) (fun q => absurd q hg) (fun _ => ?_)
      exact bq_t rfl hP
    · unfold wp_Md_operate
      rw [ho]
      repeat first | refine bq_t (by decide) ?_ | refine bq_f (by decide) ?_
      unfold wp_Md_memories
      refine md_rs H.e9 H.rel (md_offset H.e9 (fun at_ eat => md_field H.e9 ?_))
      have eat : at_ = adr rg w := eat
      subst eat
      repeat first | refine bq_t (by decide) ?_ | refine bq_f (by decide) ?_
      try unfold wj_Md_loads_24
      refine md_gd (k := 1) M (Or.inl rfl) (fun q => absurd q hg) (fun _ => ?_)
      refine bq_t rfl (md_ends H.e5 ?_)
      exact bq_f (show ¬ (1 : Int32) ≤ 0 by decide) hQ

theorem i_sb (H : pre mn g rg hq mf cd fg w dd bm rr kt) (M : mem ms mn S) (ho : zz_ushr w 26 = 40) : pfx ms mn g rg hq mf cd fg w dd bm rr kt := by
  by_cases hg : q_gd S 1 (adr rg w)
  · obtain ⟨a, ea, h1, h2⟩ := id hg
    refine pfx_mk H 0 (fun L O => (upd g 9 (g 9 + 1), rg, hq, upd mf (a / 4) (q_word (stb bm a 1 (rv rg w 16)) (a / 4)), cd, fg, L, O)) (fun dd l1 l2 => (dd, l1, l2, stb bm a 1 (rv rg w 16), rr, upd kt 2 (kt 2 + 1))) (fun L O P hP => ?_) (fun dd l1 l2 H L O => ⟨oc_0 (q_mem (q_c9 H.rel) (stb_k (Or.inl rfl) h2)) H.e5 H.e11 H.e12 H.e13, fun Q hQ => ?_⟩) (fun _ _ _ _ => rfl) (fun _ _ _ _ _ hs => ⟨by repeat first | exact hs | apply lo_upd, rfl, rfl, rfl⟩) (by first | exact Or.inr (fun _ _ => rfl) | exact Or.inl (by unfold q_e; decide)) (fun _ _ _ => rfl)
    · unfold wp_Pr_perform
      refine pr_op ?_
      rw [ho]
      repeat first | refine bq_t (by decide) ?_ | refine bq_f (by decide) ?_
      unfold wp_Pr_access
      refine pr_op ?_
      rw [ho]
      repeat first | refine bq_t (by decide) ?_ | refine bq_f (by decide) ?_
      unfold wp_Pr_store
      refine pr_adr ?_
      unfold wp_Pr_bytes
      refine pr_op (fun kx ek => ?_)
      rw [ho] at ek
      have ek : kx = nI 1 := ek.trans (by decide)
      subst ek
      refine me_gd (k := 1) M (Or.inl rfl) (fun _ => ?_) (fun q => absurd hg q)
      refine bq_f (by decide) (fun x ex => pr_rt ⟨fI_in w 16, fun y ey => ?_⟩)
      have hm := M.m8
      have hS := M.hS
      have hmn := M.hmn
      have hw : mf (a / 4) = q_word bm (a / 4) := H.rel.2.2.2.2.2.2.2.2 _ (by omega)
      subst ex
      subst ey
      rw [ea]
      exact me_wrt (k := 1) (Or.inl rfl) hS hmn h1 h2 (by omega) hw hP
    · unfold wp_Md_operate
      rw [ho]
      repeat first | refine bq_t (by decide) ?_ | refine bq_f (by decide) ?_
      unfold wp_Md_memories
      refine md_rs H.e9 H.rel (md_offset H.e9 (fun at_ eat => md_field H.e9 ?_))
      have eat : at_ = adr rg w := eat
      subst eat
      repeat first | refine bq_t (by decide) ?_ | refine bq_f (by decide) ?_
      have hm := M.m8
      have hS := M.hS
      have hmn := M.hmn
      have hw : mf (a / 4) = q_word bm (a / 4) := H.rel.2.2.2.2.2.2.2.2 _ (by omega)
      try unfold wj_Md_memories_166
      refine ⟨fI_in67 w 16, fun v ev => ?_⟩
      have ev : v = rv rg w 16 := ev.trans (H.rel.1 _ (fI_lt w 16))
      subst ev
      unfold wp_Md_stores
      repeat first | refine bq_t (by decide) ?_ | refine bq_f (by decide) ?_
      try unfold wj_Md_stores_21
      refine md_gd (k := 1) M (Or.inl rfl) (fun _ => ?_) (fun q => absurd hg q)
      refine bq_f (by decide) ?_
      unfold wj_Md_stores_38
      refine bq_t (by rw [H.e5]; decide) ⟨in2_5, fun x ex => ⟨in2_5, fun y ey => ?_⟩⟩
      rw [c_2] at *
      subst ex
      repeat first | refine bq_t (by decide) ?_ | refine bq_f (by decide) ?_
      rw [ea]
      exact md_store (k := 1) (Or.inl rfl) hS h1 hQ
  · refine pfx_mk H 2 (fun L O => (g, rg, hq, mf, cd, fg, L, O)) (fun dd l1 l2 => (upd dd 5 2, l1, l2, bm, rr, kt)) (fun L O P hP => ?_) (fun dd l1 l2 H L O => ⟨oc_end (by unfold q_e; simp) H.rel H.nxt rfl (fun j _ h => pk_un h), fun Q hQ => ?_⟩) (fun _ _ _ _ => rfl) (fun _ _ _ _ _ hs => ⟨by repeat first | exact hs | apply lo_upd, rfl, rfl, rfl⟩) (by first | exact Or.inr (fun _ _ => rfl) | exact Or.inl (by unfold q_e; decide)) (fun _ _ _ => rfl)
    · unfold wp_Pr_perform
      refine pr_op ?_
      rw [ho]
      repeat first | refine bq_t (by decide) ?_ | refine bq_f (by decide) ?_
      unfold wp_Pr_access
      refine pr_op ?_
      rw [ho]
      repeat first | refine bq_t (by decide) ?_ | refine bq_f (by decide) ?_
      unfold wp_Pr_store
      refine pr_adr ?_
      unfold wp_Pr_bytes
      refine pr_op (fun kx ek => ?_)
      rw [ho] at ek
      have ek : kx = nI 1 := ek.trans (by decide)
      subst ek
      refine me_gd (k := 1) M (Or.inl rfl) (fun q => absurd q hg) (fun _ => ?_)
      exact bq_t rfl hP
    · unfold wp_Md_operate
      rw [ho]
      repeat first | refine bq_t (by decide) ?_ | refine bq_f (by decide) ?_
      unfold wp_Md_memories
      refine md_rs H.e9 H.rel (md_offset H.e9 (fun at_ eat => md_field H.e9 ?_))
      have eat : at_ = adr rg w := eat
      subst eat
      repeat first | refine bq_t (by decide) ?_ | refine bq_f (by decide) ?_
      try unfold wj_Md_memories_166
      refine ⟨fI_in67 w 16, fun v ev => ?_⟩
      unfold wp_Md_stores
      repeat first | refine bq_t (by decide) ?_ | refine bq_f (by decide) ?_
      try unfold wj_Md_stores_21
      refine md_gd (k := 1) M (Or.inl rfl) (fun q => absurd q hg) (fun _ => ?_)
      refine bq_t rfl (md_ends H.e5 ?_)
      exact bq_f (show ¬ (2 : Int32) ≤ 0 by decide) hQ

theorem i_sh (H : pre mn g rg hq mf cd fg w dd bm rr kt) (M : mem ms mn S) (ho : zz_ushr w 26 = 41) : pfx ms mn g rg hq mf cd fg w dd bm rr kt := by
  by_cases hg : q_gd S 2 (adr rg w)
  · obtain ⟨a, ea, h1, h2⟩ := id hg
    refine pfx_mk H 0 (fun L O => (upd g 9 (g 9 + 1), rg, hq, upd mf (a / 4) (q_word (stb bm a 2 (rv rg w 16)) (a / 4)), cd, fg, L, O)) (fun dd l1 l2 => (dd, l1, l2, stb bm a 2 (rv rg w 16), rr, upd kt 2 (kt 2 + 1))) (fun L O P hP => ?_) (fun dd l1 l2 H L O => ⟨oc_0 (q_mem (q_c9 H.rel) (stb_k (Or.inr (Or.inl rfl)) h2)) H.e5 H.e11 H.e12 H.e13, fun Q hQ => ?_⟩) (fun _ _ _ _ => rfl) (fun _ _ _ _ _ hs => ⟨by repeat first | exact hs | apply lo_upd, rfl, rfl, rfl⟩) (by first | exact Or.inr (fun _ _ => rfl) | exact Or.inl (by unfold q_e; decide)) (fun _ _ _ => rfl)
    · unfold wp_Pr_perform
      refine pr_op ?_
      rw [ho]
      repeat first | refine bq_t (by decide) ?_ | refine bq_f (by decide) ?_
      unfold wp_Pr_access
      refine pr_op ?_
      rw [ho]
      repeat first | refine bq_t (by decide) ?_ | refine bq_f (by decide) ?_
      unfold wp_Pr_store
      refine pr_adr ?_
      unfold wp_Pr_bytes
      refine pr_op (fun kx ek => ?_)
      rw [ho] at ek
      have ek : kx = nI 2 := ek.trans (by decide)
      subst ek
      refine me_gd (k := 2) M (Or.inr (Or.inl rfl)) (fun _ => ?_) (fun q => absurd hg q)
      refine bq_f (by decide) (fun x ex => pr_rt ⟨fI_in w 16, fun y ey => ?_⟩)
      have hm := M.m8
      have hS := M.hS
      have hmn := M.hmn
      have hw : mf (a / 4) = q_word bm (a / 4) := H.rel.2.2.2.2.2.2.2.2 _ (by omega)
      subst ex
      subst ey
      rw [ea]
      exact me_wrt (k := 2) (Or.inr (Or.inl rfl)) hS hmn h1 h2 (by omega) hw hP
    · unfold wp_Md_operate
      rw [ho]
      repeat first | refine bq_t (by decide) ?_ | refine bq_f (by decide) ?_
      unfold wp_Md_memories
      refine md_rs H.e9 H.rel (md_offset H.e9 (fun at_ eat => md_field H.e9 ?_))
      have eat : at_ = adr rg w := eat
      subst eat
      repeat first | refine bq_t (by decide) ?_ | refine bq_f (by decide) ?_
      have hm := M.m8
      have hS := M.hS
      have hmn := M.hmn
      have hw : mf (a / 4) = q_word bm (a / 4) := H.rel.2.2.2.2.2.2.2.2 _ (by omega)
      try unfold wj_Md_memories_166
      refine ⟨fI_in67 w 16, fun v ev => ?_⟩
      have ev : v = rv rg w 16 := ev.trans (H.rel.1 _ (fI_lt w 16))
      subst ev
      unfold wp_Md_stores
      repeat first | refine bq_t (by decide) ?_ | refine bq_f (by decide) ?_
      try unfold wj_Md_stores_21
      refine md_gd (k := 2) M (Or.inr (Or.inl rfl)) (fun _ => ?_) (fun q => absurd hg q)
      refine bq_f (by decide) ?_
      unfold wj_Md_stores_38
      refine bq_t (by rw [H.e5]; decide) ⟨in2_5, fun x ex => ⟨in2_5, fun y ey => ?_⟩⟩
      rw [c_2] at *
      subst ex
      repeat first | refine bq_t (by decide) ?_ | refine bq_f (by decide) ?_
      rw [ea]
      exact md_store (k := 2) (Or.inr (Or.inl rfl)) hS h1 hQ
  · refine pfx_mk H 2 (fun L O => (g, rg, hq, mf, cd, fg, L, O)) (fun dd l1 l2 => (upd dd 5 2, l1, l2, bm, rr, kt)) (fun L O P hP => ?_) (fun dd l1 l2 H L O => ⟨oc_end (by unfold q_e; simp) H.rel H.nxt rfl (fun j _ h => pk_un h), fun Q hQ => ?_⟩) (fun _ _ _ _ => rfl) (fun _ _ _ _ _ hs => ⟨by repeat first | exact hs | apply lo_upd, rfl, rfl, rfl⟩) (by first | exact Or.inr (fun _ _ => rfl) | exact Or.inl (by unfold q_e; decide)) (fun _ _ _ => rfl)
    · unfold wp_Pr_perform
      refine pr_op ?_
      rw [ho]
      repeat first | refine bq_t (by decide) ?_ | refine bq_f (by decide) ?_
      unfold wp_Pr_access
      refine pr_op ?_
      rw [ho]
      repeat first | refine bq_t (by decide) ?_ | refine bq_f (by decide) ?_
      unfold wp_Pr_store
      refine pr_adr ?_
      unfold wp_Pr_bytes
      refine pr_op (fun kx ek => ?_)
      rw [ho] at ek
      have ek : kx = nI 2 := ek.trans (by decide)
      subst ek
      refine me_gd (k := 2) M (Or.inr (Or.inl rfl)) (fun q => absurd q hg) (fun _ => ?_)
      exact bq_t rfl hP
    · unfold wp_Md_operate
      rw [ho]
      repeat first | refine bq_t (by decide) ?_ | refine bq_f (by decide) ?_
      unfold wp_Md_memories
      refine md_rs H.e9 H.rel (md_offset H.e9 (fun at_ eat => md_field H.e9 ?_))
      have eat : at_ = adr rg w := eat
      subst eat
      repeat first | refine bq_t (by decide) ?_ | refine bq_f (by decide) ?_
      try unfold wj_Md_memories_166
      refine ⟨fI_in67 w 16, fun v ev => ?_⟩
      unfold wp_Md_stores
      repeat first | refine bq_t (by decide) ?_ | refine bq_f (by decide) ?_
      try unfold wj_Md_stores_21
      refine md_gd (k := 2) M (Or.inr (Or.inl rfl)) (fun q => absurd q hg) (fun _ => ?_)
      refine bq_t rfl (md_ends H.e5 ?_)
      exact bq_f (show ¬ (2 : Int32) ≤ 0 by decide) hQ

theorem i_sw (H : pre mn g rg hq mf cd fg w dd bm rr kt) (M : mem ms mn S) (ho : zz_ushr w 26 = 43) : pfx ms mn g rg hq mf cd fg w dd bm rr kt := by
  by_cases hg : q_gd S 4 (adr rg w)
  · obtain ⟨a, ea, h1, h2⟩ := id hg
    refine pfx_mk H 0 (fun L O => (upd g 9 (g 9 + 1), rg, hq, upd mf (a / 4) (q_word (stb bm a 4 (rv rg w 16)) (a / 4)), cd, fg, L, O)) (fun dd l1 l2 => (dd, l1, l2, stb bm a 4 (rv rg w 16), rr, upd kt 2 (kt 2 + 1))) (fun L O P hP => ?_) (fun dd l1 l2 H L O => ⟨oc_0 (q_mem (q_c9 H.rel) (stb_k (Or.inr (Or.inr rfl)) h2)) H.e5 H.e11 H.e12 H.e13, fun Q hQ => ?_⟩) (fun _ _ _ _ => rfl) (fun _ _ _ _ _ hs => ⟨by repeat first | exact hs | apply lo_upd, rfl, rfl, rfl⟩) (by first | exact Or.inr (fun _ _ => rfl) | exact Or.inl (by unfold q_e; decide)) (fun _ _ _ => rfl)
    · unfold wp_Pr_perform
      refine pr_op ?_
      rw [ho]
      repeat first | refine bq_t (by decide) ?_ | refine bq_f (by decide) ?_
      unfold wp_Pr_access
      refine pr_op ?_
      rw [ho]
      repeat first | refine bq_t (by decide) ?_ | refine bq_f (by decide) ?_
      unfold wp_Pr_store
      refine pr_adr ?_
      unfold wp_Pr_bytes
      refine pr_op (fun kx ek => ?_)
      rw [ho] at ek
      have ek : kx = nI 4 := ek.trans (by decide)
      subst ek
      refine me_gd (k := 4) M (Or.inr (Or.inr (Or.inl rfl))) (fun _ => ?_) (fun q => absurd hg q)
      refine bq_f (by decide) (fun x ex => pr_rt ⟨fI_in w 16, fun y ey => ?_⟩)
      have hm := M.m8
      have hS := M.hS
      have hmn := M.hmn
      have hw : mf (a / 4) = q_word bm (a / 4) := H.rel.2.2.2.2.2.2.2.2 _ (by omega)
      subst ex
      subst ey
      rw [ea]
      exact me_wrt (k := 4) (Or.inr (Or.inr rfl)) hS hmn h1 h2 (by omega) hw hP
    · unfold wp_Md_operate
      rw [ho]
      repeat first | refine bq_t (by decide) ?_ | refine bq_f (by decide) ?_
      unfold wp_Md_memories
      refine md_rs H.e9 H.rel (md_offset H.e9 (fun at_ eat => md_field H.e9 ?_))
      have eat : at_ = adr rg w := eat
      subst eat
      repeat first | refine bq_t (by decide) ?_ | refine bq_f (by decide) ?_
      have hm := M.m8
      have hS := M.hS
      have hmn := M.hmn
      have hw : mf (a / 4) = q_word bm (a / 4) := H.rel.2.2.2.2.2.2.2.2 _ (by omega)
      try unfold wj_Md_memories_166
      refine ⟨fI_in67 w 16, fun v ev => ?_⟩
      have ev : v = rv rg w 16 := ev.trans (H.rel.1 _ (fI_lt w 16))
      subst ev
      unfold wp_Md_stores
      repeat first | refine bq_t (by decide) ?_ | refine bq_f (by decide) ?_
      try unfold wj_Md_stores_21
      refine md_gd (k := 4) M (Or.inr (Or.inr (Or.inl rfl))) (fun _ => ?_) (fun q => absurd hg q)
      refine bq_f (by decide) ?_
      unfold wj_Md_stores_38
      refine bq_t (by rw [H.e5]; decide) ⟨in2_5, fun x ex => ⟨in2_5, fun y ey => ?_⟩⟩
      rw [c_2] at *
      subst ex
      repeat first | refine bq_t (by decide) ?_ | refine bq_f (by decide) ?_
      rw [ea]
      exact md_store (k := 4) (Or.inr (Or.inr rfl)) hS h1 hQ
  · refine pfx_mk H 2 (fun L O => (g, rg, hq, mf, cd, fg, L, O)) (fun dd l1 l2 => (upd dd 5 2, l1, l2, bm, rr, kt)) (fun L O P hP => ?_) (fun dd l1 l2 H L O => ⟨oc_end (by unfold q_e; simp) H.rel H.nxt rfl (fun j _ h => pk_un h), fun Q hQ => ?_⟩) (fun _ _ _ _ => rfl) (fun _ _ _ _ _ hs => ⟨by repeat first | exact hs | apply lo_upd, rfl, rfl, rfl⟩) (by first | exact Or.inr (fun _ _ => rfl) | exact Or.inl (by unfold q_e; decide)) (fun _ _ _ => rfl)
    · unfold wp_Pr_perform
      refine pr_op ?_
      rw [ho]
      repeat first | refine bq_t (by decide) ?_ | refine bq_f (by decide) ?_
      unfold wp_Pr_access
      refine pr_op ?_
      rw [ho]
      repeat first | refine bq_t (by decide) ?_ | refine bq_f (by decide) ?_
      unfold wp_Pr_store
      refine pr_adr ?_
      unfold wp_Pr_bytes
      refine pr_op (fun kx ek => ?_)
      rw [ho] at ek
      have ek : kx = nI 4 := ek.trans (by decide)
      subst ek
      refine me_gd (k := 4) M (Or.inr (Or.inr (Or.inl rfl))) (fun q => absurd q hg) (fun _ => ?_)
      exact bq_t rfl hP
    · unfold wp_Md_operate
      rw [ho]
      repeat first | refine bq_t (by decide) ?_ | refine bq_f (by decide) ?_
      unfold wp_Md_memories
      refine md_rs H.e9 H.rel (md_offset H.e9 (fun at_ eat => md_field H.e9 ?_))
      have eat : at_ = adr rg w := eat
      subst eat
      repeat first | refine bq_t (by decide) ?_ | refine bq_f (by decide) ?_
      try unfold wj_Md_memories_166
      refine ⟨fI_in67 w 16, fun v ev => ?_⟩
      unfold wp_Md_stores
      repeat first | refine bq_t (by decide) ?_ | refine bq_f (by decide) ?_
      try unfold wj_Md_stores_21
      refine md_gd (k := 4) M (Or.inr (Or.inr (Or.inl rfl))) (fun q => absurd q hg) (fun _ => ?_)
      refine bq_t rfl (md_ends H.e5 ?_)
      exact bq_f (show ¬ (2 : Int32) ≤ 0 by decide) hQ

end LS
