/-! ===== parts of words, linked loads, fractions in memory ===== -/
section LS2
variable {ms : Int32} {mn S : Nat} {g rg hq mf : Nat → Int32} {cd : Int32} {fg : Nat → Int32} {L O : Fr4} {dd bm rr kt : Nat → Int32} {l1 l2 : Int64} {w : Int32}
/-- the left part of a word put down: n bytes from place p on -/
def stl (bm : Nat → Int32) (c p : Nat) (v : Int32) : Nat → Nat → Int32
  | 0 => bm
  | n + 1 => upd (stl bm c p v n) (c + p + n) (vB (zz_ushr v (nI (24 - 8 * n))) 0)
/-- the right part: n bytes -/
def str (bm : Nat → Int32) (c p : Nat) (v : Int32) : Nat → Nat → Int32
  | 0 => bm
  | n + 1 => upd (str bm c p v n) (c + n) (vB (zz_ushr v (nI (8 * (p - n)))) 0)
theorem stl_ln {c p n : Nat} {v : Int32} (hn : n ≤ 4) (j r : Nat) (hr : r < 8) : ln (stl bm c p v n j) 0 r = if c + p ≤ j ∧ j < c + p + n then ln v (3 - (j - c - p)) r else ln (bm j) 0 r := by
  induction n with
  | zero => rw [if_neg (by omega)]; rfl
  | succ n ih =>
    have ih := ih (by omega)
    show ln (upd (stl bm c p v n) (c + p + n) _ j) 0 r = _
    by_cases e : j = c + p + n
    · rw [e, pk_us, show 24 - 8 * n = 8 * (3 - n) by omega, ln_vBu _ (by omega) hr, if_pos (by omega)]
      congr 1; omega
    · rw [pk_un e, ih]
      by_cases d : c + p ≤ j ∧ j < c + p + n
      · rw [if_pos d, if_pos (by omega)]
      · rw [if_neg d, if_neg (by omega)]
theorem str_ln {c p n : Nat} {v : Int32} (hp : p < 4) (hn : n ≤ p + 1) (j r : Nat) (hr : r < 8) : ln (str bm c p v n j) 0 r = if c ≤ j ∧ j < c + n then ln v (p - (j - c)) r else ln (bm j) 0 r := by
  induction n with
  | zero => rw [if_neg (by omega)]; rfl
  | succ n ih =>
    have ih := ih (by omega)
    show ln (upd (str bm c p v n) (c + n) _ j) 0 r = _
    by_cases e : j = c + n
    · rw [e, pk_us, ln_vBu _ (by omega) hr, if_pos (by omega)]
      congr 1; omega
    · rw [pk_un e, ih]
      by_cases d : c ≤ j ∧ j < c + n
      · rw [if_pos d, if_pos (by omega)]
      · rw [if_neg d, if_neg (by omega)]
theorem stl_k {c p n : Nat} {v : Int32} : ∀ j, (j < c + p ∨ c + p + n ≤ j) → stl bm c p v n j = bm j := by
  intro j hj
  induction n with
  | zero => rfl
  | succ n ih =>
    show upd (stl bm c p v n) (c + p + n) _ j = _
    rw [pk_un (by omega)]; exact ih (by omega)
theorem str_k {c p n : Nat} {v : Int32} : ∀ j, (j < c ∨ c + n ≤ j) → str bm c p v n j = bm j := by
  intro j hj
  induction n with
  | zero => rfl
  | succ n ih =>
    show upd (str bm c p v n) (c + n) _ j = _
    rw [pk_un (by omega)]; exact ih (by omega)
/-- four bytes put down are their word -/
theorem stb4_w {a : Nat} {v : Int32} : q_word (stb bm (a * 4) 4 v) a = v := by
  unfold stb
  rw [if_neg (by decide), if_neg (by decide)]
  apply ln_ext
  intro t ht r hr
  rw [ln_q _ _ ht hr]
  have hh : t = 0 ∨ t = 1 ∨ t = 2 ∨ t = 3 := by omega
  rw [Nat.mul_comm 4 a]
  rcases hh with rfl | rfl | rfl | rfl
  · rw [show a * 4 + 3 - 0 = a * 4 + 3 from rfl, pk_us, ln_vB (u := 0) _ (by decide) hr]
  · rw [show a * 4 + 3 - 1 = a * 4 + 2 from rfl, pk_un (by omega), pk_us, ln_vB (u := 1) _ (by decide) hr]
  · rw [show a * 4 + 3 - 2 = a * 4 + 1 from rfl, pk_un (by omega), pk_un (by omega), pk_us, ln_vB (u := 2) _ (by decide) hr]
  · rw [show a * 4 + 3 - 3 = a * 4 from rfl, pk_un (by omega), pk_un (by omega), pk_un (by omega), pk_us, ln_vB (u := 3) _ (by decide) hr]
theorem swl_w {K p : Nat} {v : Int32} (hp : p < 4) : zz_ushr v (nI (8 * p)) ||| (q_word bm K &&& (zz_ushr (-1) (nI (8 * p)) ^^^ (-1))) = q_word (stl bm (K * 4) p v (4 - p)) K := by
  apply ln_ext
  intro t ht r hr
  rw [ln_or, ln_and, ln_not _ ht hr, ln_ushr _ hp, ln_ushr _ hp, ln_q _ _ ht hr, ln_q _ _ ht hr, stl_ln (by omega) _ r hr]
  by_cases c : t + p < 4
  · rw [ln_m1 _ c r hr, if_pos (by omega)]
    simp
    congr 1; omega
  · rw [ln_4 (x := v) (t := t + p) (by omega), ln_4 (x := -1) (t := t + p) (by omega), if_neg (by omega)]
    simp
theorem swr_w {K p : Nat} {v : Int32} (hp : p < 4) : zz_shl v (nI (24 - 8 * p)) ||| (q_word bm K &&& (zz_shl (-1) (nI (24 - 8 * p)) ^^^ (-1))) = q_word (str bm (K * 4) p v (p + 1)) K := by
  rw [show 24 - 8 * p = 8 * (3 - p) by omega]
  apply ln_ext
  intro t ht r hr
  rw [ln_or, ln_and, ln_not _ ht hr, ln_shl _ (by omega) ht hr, ln_shl _ (by omega) ht hr, ln_q _ _ ht hr, ln_q _ _ ht hr, str_ln hp (by omega) _ r hr]
  by_cases c : 3 - p ≤ t
  · rw [ln_m1 _ (by omega) r hr, if_pos (by omega)]
    simp [c]
    congr 1; omega
  · rw [if_neg (by omega)]
    simp [c]
theorem md_swl {a0 : Int32} {a : Nat} {v q : Int32} {P : MdT → Prop} (M : mem ms mn S) (ha : a < S) (h : P (dd, l1, l2, stl bm (a / 4 * 4) (a % 4) v (4 - a % 4), rr, kt)) : ∃ n, wl_Md_stores_71 ms a0 (nI a) v P n (nI (a % 4)) (nI (a % 4)) q dd l1 l2 bm rr kt := by
  have hS := M.hS
  have hm := M.m8
  refine ⟨4 - a % 4 + 1, ?_⟩
  have key : ∀ d n : Nat, n + d = 4 - a % 4 → wl_Md_stores_71 ms a0 (nI a) v P (d + 1) (nI (a % 4 + n)) (nI (a % 4)) q dd l1 l2 (stl bm (a / 4 * 4) (a % 4) v n) rr kt := by
    intro d
    induction d with
    | zero =>
      intro n hn
      have e : n = 4 - a % 4 := by omega
      subst e
      rw [wl_Md_stores_71]
      refine bq_t ?_ h
      rw [show a % 4 + (4 - a % 4) = 4 by omega]; decide
    | succ d ih =>
      intro n hn
      rw [wl_Md_stores_71]
      have c4 : ¬ (4 : Int32) ≤ nI (a % 4 + n) := fun z => by
        have := (nI_leI (a := 4) (by decide) (by omega)).mp z
        omega
      refine bq_f c4 (fun x ex => ?_)
      have ex : x = nI (24 - 8 * n) := by
        rw [ex, pk_sub (by omega), show (8 : Int32) = nI 8 from rfl, pk_mul, show (24 : Int32) = nI 24 from rfl, pk_sub (by omega)]
        congr 2; omega
      have ea : (nI a &&& (-4)) + nI (a % 4 + n) = nI (a / 4 * 4 + a % 4 + n) := by
        rw [and_m4 (by omega), nI_add]; congr 1; omega
      rw [ea, ex]
      refine md_store (k := 1) (Or.inl rfl) hS (by omega) (fun y ey => ?_)
      rw [nI_1] at ey
      subst ey
      unfold stb
      rw [if_pos rfl]
      exact ih (n + 1) (by omega)
  have := key (4 - a % 4) 0 (by omega)
  exact this
theorem md_swr {a0 : Int32} {a : Nat} {v q : Int32} {P : MdT → Prop} (M : mem ms mn S) (ha : a < S) (h : P (dd, l1, l2, str bm (a / 4 * 4) (a % 4) v (a % 4 + 1), rr, kt)) : ∃ n, wl_Md_stores_120 ms a0 (nI a) v P n 0 (nI (a % 4)) q dd l1 l2 bm rr kt := by
  have hS := M.hS
  have hm := M.m8
  refine ⟨a % 4 + 2, ?_⟩
  have key : ∀ d n : Nat, n + d = a % 4 + 1 → wl_Md_stores_120 ms a0 (nI a) v P (d + 1) (nI n) (nI (a % 4)) q dd l1 l2 (str bm (a / 4 * 4) (a % 4) v n) rr kt := by
    intro d
    induction d with
    | zero =>
      intro n hn
      have e : n = a % 4 + 1 := by omega
      subst e
      rw [wl_Md_stores_120]
      refine bq_t ?_ h
      rw [nI_ltI (by omega) (by omega)]; omega
    | succ d ih =>
      intro n hn
      rw [wl_Md_stores_120]
      have c4 : ¬ nI (a % 4) < nI n := fun z => by
        have := (nI_ltI (by omega) (by omega)).mp z
        omega
      refine bq_f c4 (fun x ex => ?_)
      have ex : x = zz_ushr v (nI (8 * (a % 4 - n))) := by
        rw [ex, pk_sub (by omega), show (8 : Int32) = nI 8 from rfl, pk_mul]
      have ea : (nI a &&& (-4)) + nI n = nI (a / 4 * 4 + n) := by
        rw [and_m4 (by omega), nI_add]
      rw [ea, ex]
      refine md_store (k := 1) (Or.inl rfl) hS (by omega) (fun y ey => ?_)
      rw [nI_1] at ey
      subst ey
      unfold stb
      rw [if_pos rfl]
      exact ih (n + 1) (by omega)
  exact key (a % 4 + 1) 0 (by omega)

theorem i_swl (H : pre mn g rg hq mf cd fg w dd bm rr kt) (M : mem ms mn S) (ho : zz_ushr w 26 = 42) : pfx ms mn g rg hq mf cd fg w dd bm rr kt := by
  by_cases hg : q_gd S 1 (adr rg w)
  · obtain ⟨a, ea, h1, h2⟩ := id hg
    refine pfx_mk H 0 (fun L O => (upd g 9 (g 9 + 1), rg, hq, upd mf (a / 4) (q_word (stl bm (a / 4 * 4) (a % 4) (rv rg w 16) (4 - a % 4)) (a / 4)), cd, fg, L, O)) (fun dd l1 l2 => (dd, l1, l2, stl bm (a / 4 * 4) (a % 4) (rv rg w 16) (4 - a % 4), rr, upd kt 2 (kt 2 + 1))) (fun L O P hP => ?_) (fun dd l1 l2 H L O => ⟨oc_0 (q_mem (q_c9 H.rel) (fun j hj => stl_k j (by omega))) H.e5 H.e11 H.e12 H.e13, fun Q hQ => ?_⟩) (fun _ _ _ _ => rfl) (fun _ _ _ _ _ hs => ⟨by repeat first | exact hs | apply lo_upd, rfl, rfl, rfl⟩) (by first | exact Or.inr (fun _ _ => rfl) | exact Or.inl (by unfold q_e; decide)) (fun _ _ _ => rfl)
    · unfold wp_Pr_perform
      refine pr_op ?_
      rw [ho]
      repeat first | refine bq_t (by decide) ?_ | refine bq_f (by decide) ?_
      unfold wp_Pr_access
      refine pr_op ?_
      rw [ho]
      repeat first | refine bq_t (by decide) ?_ | refine bq_f (by decide) ?_
      unfold wp_Pr_storePart
      refine pr_adr ?_
      refine me_gd (k := 1) M (Or.inl rfl) (fun _ => ?_) (fun q => absurd hg q)
      refine bq_f (by decide) ?_
      have hm := M.m8
      have hS := M.hS
      have hmn := M.hmn
      have hw : mf (a / 4) = q_word bm (a / 4) := H.rel.2.2.2.2.2.2.2.2 _ (by omega)
      rw [ea, and_m4 (by omega)]
      refine me_rd (k := 4) (Or.inr (Or.inr rfl)) hS hmn (by omega) (by omega) (by omega) (by rw [Nat.mul_div_cancel _ (by decide)]; exact hw) ?_
      have er : rdv bm (a / 4 * 4) 4 = q_word bm (a / 4) := by unfold rdv; rw [if_neg (by decide), if_neg (by decide), Nat.mul_div_cancel _ (by decide)]
      rw [er]
      refine pr_rt ⟨fI_in w 16, fun x6 e6 x7 e7 x8 e8 x9 e9 => pr_op ?_⟩
      rw [ho]
      repeat first | refine bq_t (by decide) ?_ | refine bq_f (by decide) ?_
      have f7 : x7 = nI (8 * (a % 4)) := by rw [e7, and3 (by omega), show (8 : Int32) = nI 8 from rfl, pk_mul, Nat.mul_comm]
      have f8 : x8 = nI (24 - 8 * (a % 4)) := by rw [e8, f7, show (24 : Int32) = nI 24 from rfl, pk_sub (by omega)]
      clear e8 e7
      refine fun x ex y ey => ?_
      subst e6
      subst e9
      subst f7
      subst f8
      subst ex
      refine me_wrt (k := 4) (Or.inr (Or.inr rfl)) hS hmn (by omega) (by omega) (by omega) (by rw [Nat.mul_div_cancel _ (by decide)]; exact hw) ?_
      rw [Nat.mul_div_cancel _ (by decide), stb4_w, ey, swl_w (Nat.mod_lt a (by decide))]
      exact hP
    · unfold wp_Md_operate
      rw [ho]
      repeat first | refine bq_t (by decide) ?_ | refine bq_f (by decide) ?_
      unfold wp_Md_memories
      refine md_rs H.e9 H.rel (md_offset H.e9 (fun at_ eat => md_field H.e9 ?_))
      have eat : at_ = adr rg w := eat
      subst eat
      repeat first | refine bq_t (by decide) ?_ | refine bq_f (by decide) ?_
      have hm := M.m8
      have hS := M.hS
      have hmn := M.hmn
      have hw : mf (a / 4) = q_word bm (a / 4) := H.rel.2.2.2.2.2.2.2.2 _ (by omega)
      try unfold wj_Md_memories_166
      refine ⟨fI_in67 w 16, fun v ev => ?_⟩
      have ev : v = rv rg w 16 := ev.trans (H.rel.1 _ (fI_lt w 16))
      subst ev
      unfold wp_Md_stores
      repeat first | refine bq_t (by decide) ?_ | refine bq_f (by decide) ?_
      try unfold wj_Md_stores_21
      refine md_gd (k := 1) M (Or.inl rfl) (fun _ => ?_) (fun q => absurd hg q)
      refine bq_f (by decide) ?_
      unfold wj_Md_stores_38
      refine bq_t (by rw [H.e5]; decide) ⟨in2_5, fun x ex => ⟨in2_5, fun y ey => ?_⟩⟩
      rw [c_2] at *
      subst ex
      have ey : y = nI (a % 4) := by rw [ey, ea, and3 (by omega)]
      subst ey
      repeat first | refine bq_t (by decide) ?_ | refine bq_f (by decide) ?_
      rw [ea]
      exact md_swl M (by omega) hQ
  · refine pfx_mk H 2 (fun L O => (g, rg, hq, mf, cd, fg, L, O)) (fun dd l1 l2 => (upd dd 5 2, l1, l2, bm, rr, kt)) (fun L O P hP => ?_) (fun dd l1 l2 H L O => ⟨oc_end (by unfold q_e; simp) H.rel H.nxt rfl (fun j _ h => pk_un h), fun Q hQ => ?_⟩) (fun _ _ _ _ => rfl) (fun _ _ _ _ _ hs => ⟨by repeat first | exact hs | apply lo_upd, rfl, rfl, rfl⟩) (by first | exact Or.inr (fun _ _ => rfl) | exact Or.inl (by unfold q_e; decide)) (fun _ _ _ => rfl)
    · unfold wp_Pr_perform
      refine pr_op ?_
      rw [ho]
      repeat first | refine bq_t (by decide) ?_ | refine bq_f (by decide) ?_
      unfold wp_Pr_access
      refine pr_op ?_
      rw [ho]
      repeat first | refine bq_t (by decide) ?_ | refine bq_f (by decide) ?_
      unfold wp_Pr_storePart
      refine pr_adr ?_
      refine me_gd (k := 1) M (Or.inl rfl) (fun q => absurd q hg) (fun _ => ?_)
      exact bq_t rfl hP
    · unfold wp_Md_operate
      rw [ho]
      repeat first | refine bq_t (by decide) ?_ | refine bq_f (by decide) ?_
      unfold wp_Md_memories
      refine md_rs H.e9 H.rel (md_offset H.e9 (fun at_ eat => md_field H.e9 ?_))
      have eat : at_ = adr rg w := eat
      subst eat
      repeat first | refine bq_t (by decide) ?_ | refine bq_f (by decide) ?_
      try unfold wj_Md_memories_166
      refine ⟨fI_in67 w 16, fun v ev => ?_⟩
      unfold wp_Md_stores
      repeat first | refine bq_t (by decide) ?_ | refine bq_f (by decide) ?_
      try unfold wj_Md_stores_21
      refine md_gd (k := 1) M (Or.inl rfl) (fun q => absurd q hg) (fun _ => ?_)
      refine bq_t rfl (md_ends H.e5 ?_)
      exact bq_f (show ¬ (2 : Int32) ≤ 0 by decide) hQ

theorem i_swr (H : pre mn g rg hq mf cd fg w dd bm rr kt) (M : mem ms mn S) (ho : zz_ushr w 26 = 46) : pfx ms mn g rg hq mf cd fg w dd bm rr kt := by
  by_cases hg : q_gd S 1 (adr rg w)
  · obtain ⟨a, ea, h1, h2⟩ := id hg
    refine pfx_mk H 0 (fun L O => (upd g 9 (g 9 + 1), rg, hq, upd mf (a / 4) (q_word (str bm (a / 4 * 4) (a % 4) (rv rg w 16) (a % 4 + 1)) (a / 4)), cd, fg, L, O)) (fun dd l1 l2 => (dd, l1, l2, str bm (a / 4 * 4) (a % 4) (rv rg w 16) (a % 4 + 1), rr, upd kt 2 (kt 2 + 1))) (fun L O P hP => ?_) (fun dd l1 l2 H L O => ⟨oc_0 (q_mem (q_c9 H.rel) (fun j hj => str_k j (by omega))) H.e5 H.e11 H.e12 H.e13, fun Q hQ => ?_⟩) (fun _ _ _ _ => rfl) (fun _ _ _ _ _ hs => ⟨by repeat first | exact hs | apply lo_upd, rfl, rfl, rfl⟩) (by first | exact Or.inr (fun _ _ => rfl) | exact Or.inl (by unfold q_e; decide)) (fun _ _ _ => rfl)
    · unfold wp_Pr_perform
      refine pr_op ?_
      rw [ho]
      repeat first | refine bq_t (by decide) ?_ | refine bq_f (by decide) ?_
      unfold wp_Pr_access
      refine pr_op ?_
      rw [ho]
      repeat first | refine bq_t (by decide) ?_ | refine bq_f (by decide) ?_
      unfold wp_Pr_storePart
      refine pr_adr ?_
      refine me_gd (k := 1) M (Or.inl rfl) (fun _ => ?_) (fun q => absurd hg q)
      refine bq_f (by decide) ?_
      have hm := M.m8
      have hS := M.hS
      have hmn := M.hmn
      have hw : mf (a / 4) = q_word bm (a / 4) := H.rel.2.2.2.2.2.2.2.2 _ (by omega)
      rw [ea, and_m4 (by omega)]
      refine me_rd (k := 4) (Or.inr (Or.inr rfl)) hS hmn (by omega) (by omega) (by omega) (by rw [Nat.mul_div_cancel _ (by decide)]; exact hw) ?_
      have er : rdv bm (a / 4 * 4) 4 = q_word bm (a / 4) := by unfold rdv; rw [if_neg (by decide), if_neg (by decide), Nat.mul_div_cancel _ (by decide)]
      rw [er]
      refine pr_rt ⟨fI_in w 16, fun x6 e6 x7 e7 x8 e8 x9 e9 => pr_op ?_⟩
      rw [ho]
      repeat first | refine bq_t (by decide) ?_ | refine bq_f (by decide) ?_
      have f7 : x7 = nI (8 * (a % 4)) := by rw [e7, and3 (by omega), show (8 : Int32) = nI 8 from rfl, pk_mul, Nat.mul_comm]
      have f8 : x8 = nI (24 - 8 * (a % 4)) := by rw [e8, f7, show (24 : Int32) = nI 24 from rfl, pk_sub (by omega)]
      clear e8 e7
      refine fun x ex y ey => ?_
      subst e6
      subst e9
      subst f7
      subst f8
      subst ex
      refine me_wrt (k := 4) (Or.inr (Or.inr rfl)) hS hmn (by omega) (by omega) (by omega) (by rw [Nat.mul_div_cancel _ (by decide)]; exact hw) ?_
      rw [Nat.mul_div_cancel _ (by decide), stb4_w, ey, swr_w (Nat.mod_lt a (by decide))]
      exact hP
    · unfold wp_Md_operate
      rw [ho]
      repeat first | refine bq_t (by decide) ?_ | refine bq_f (by decide) ?_
      unfold wp_Md_memories
      refine md_rs H.e9 H.rel (md_offset H.e9 (fun at_ eat => md_field H.e9 ?_))
      have eat : at_ = adr rg w := eat
      subst eat
      repeat first | refine bq_t (by decide) ?_ | refine bq_f (by decide) ?_
      have hm := M.m8
      have hS := M.hS
      have hmn := M.hmn
      have hw : mf (a / 4) = q_word bm (a / 4) := H.rel.2.2.2.2.2.2.2.2 _ (by omega)
      try unfold wj_Md_memories_166
      refine ⟨fI_in67 w 16, fun v ev => ?_⟩
      have ev : v = rv rg w 16 := ev.trans (H.rel.1 _ (fI_lt w 16))
      subst ev
      unfold wp_Md_stores
      repeat first | refine bq_t (by decide) ?_ | refine bq_f (by decide) ?_
      try unfold wj_Md_stores_21
      refine md_gd (k := 1) M (Or.inl rfl) (fun _ => ?_) (fun q => absurd hg q)
      refine bq_f (by decide) ?_
      unfold wj_Md_stores_38
      refine bq_t (by rw [H.e5]; decide) ⟨in2_5, fun x ex => ⟨in2_5, fun y ey => ?_⟩⟩
      rw [c_2] at *
      subst ex
      have ey : y = nI (a % 4) := by rw [ey, ea, and3 (by omega)]
      subst ey
      repeat first | refine bq_t (by decide) ?_ | refine bq_f (by decide) ?_
      rw [ea]
      exact md_swr M (by omega) hQ
  · refine pfx_mk H 2 (fun L O => (g, rg, hq, mf, cd, fg, L, O)) (fun dd l1 l2 => (upd dd 5 2, l1, l2, bm, rr, kt)) (fun L O P hP => ?_) (fun dd l1 l2 H L O => ⟨oc_end (by unfold q_e; simp) H.rel H.nxt rfl (fun j _ h => pk_un h), fun Q hQ => ?_⟩) (fun _ _ _ _ => rfl) (fun _ _ _ _ _ hs => ⟨by repeat first | exact hs | apply lo_upd, rfl, rfl, rfl⟩) (by first | exact Or.inr (fun _ _ => rfl) | exact Or.inl (by unfold q_e; decide)) (fun _ _ _ => rfl)
    · unfold wp_Pr_perform
      refine pr_op ?_
      rw [ho]
      repeat first | refine bq_t (by decide) ?_ | refine bq_f (by decide) ?_
      unfold wp_Pr_access
      refine pr_op ?_
      rw [ho]
      repeat first | refine bq_t (by decide) ?_ | refine bq_f (by decide) ?_
      unfold wp_Pr_storePart
      refine pr_adr ?_
      refine me_gd (k := 1) M (Or.inl rfl) (fun q => absurd q hg) (fun _ => ?_)
      exact bq_t rfl hP
    · unfold wp_Md_operate
      rw [ho]
      repeat first | refine bq_t (by decide) ?_ | refine bq_f (by decide) ?_
      unfold wp_Md_memories
      refine md_rs H.e9 H.rel (md_offset H.e9 (fun at_ eat => md_field H.e9 ?_))
      have eat : at_ = adr rg w := eat
      subst eat
      repeat first | refine bq_t (by decide) ?_ | refine bq_f (by decide) ?_
      try unfold wj_Md_memories_166
      refine ⟨fI_in67 w 16, fun v ev => ?_⟩
      unfold wp_Md_stores
      repeat first | refine bq_t (by decide) ?_ | refine bq_f (by decide) ?_
      try unfold wj_Md_stores_21
      refine md_gd (k := 1) M (Or.inl rfl) (fun q => absurd q hg) (fun _ => ?_)
      refine bq_t rfl (md_ends H.e5 ?_)
      exact bq_f (show ¬ (2 : Int32) ≤ 0 by decide) hQ

theorem q_ll {x : Int32} (h : q_rel mn g rg hq mf cd fg dd bm rr kt) : q_rel mn (upd (upd (upd g 3 1) 4 x) 8 (g 8 + 1)) rg hq mf cd fg (upd (upd dd 7 1) 8 x) bm rr (upd kt 1 (kt 1 + 1)) := by
  obtain ⟨r1, r2, r3, r4, r5, r6, r7, r8, r9⟩ := h
  refine ⟨r1, r2, r3, r4, r5, r6, ⟨r7.1, r7.2.1, r7.2.2.1, r7.2.2.2.1, r7.2.2.2.2.1, rfl, Or.inr rfl, fun _ => rfl⟩, ⟨r8.1, ?_, r8.2.2.1, r8.2.2.2.1, r8.2.2.2.2⟩, r9⟩
  show kt 1 + 1 = g 8 + 1
  rw [r8.2.1]
theorem q_sc (h : q_rel mn g rg hq mf cd fg dd bm rr kt) : q_rel mn (upd (upd g 3 0) 9 (g 9 + 1)) rg hq mf cd fg (upd dd 7 0) bm rr (upd kt 2 (kt 2 + 1)) := by
  obtain ⟨r1, r2, r3, r4, r5, r6, r7, r8, r9⟩ := h
  refine ⟨r1, r2, r3, r4, r5, r6, ⟨r7.1, r7.2.1, r7.2.2.1, r7.2.2.2.1, r7.2.2.2.2.1, rfl, Or.inl rfl, fun q => absurd rfl q⟩, ⟨r8.1, r8.2.1, ?_, r8.2.2.2.1, r8.2.2.2.2⟩, r9⟩
  show kt 2 + 1 = g 9 + 1
  rw [r8.2.2.1]
theorem or1_ev : ∀ j, j < 32 → j % 2 = 0 → nI j ||| 1 = nI (j + 1) := by decide +kernel
theorem and1_n {j : Nat} (hj : j < 32) : nI j &&& 1 = nI (j % 2) := pk_andN (by omega) 1 (by decide)
theorem rd4_e {a : Nat} : rdv bm a 4 = q_word bm (a / 4) := by unfold rdv; rw [if_neg (by decide), if_neg (by decide)]
theorem i_ll (H : pre mn g rg hq mf cd fg w dd bm rr kt) (M : mem ms mn S) (ho : zz_ushr w 26 = 48) : pfx ms mn g rg hq mf cd fg w dd bm rr kt := by
  by_cases hg : q_gd S 4 (adr rg w)
  · obtain ⟨a, ea, h1, h2⟩ := id hg
    refine pfx_mk H 0 (fun L O => (upd (upd (upd g 3 1) 4 (adr rg w)) 8 (g 8 + 1), wr rg (fI w 16) (q_word bm (a / 4)), hq, mf, cd, fg, L, O)) (fun dd l1 l2 => (upd (upd dd 7 1) 8 (adr rg w), l1, l2, bm, wr rr (fI w 16) (q_word bm (a / 4)), upd kt 1 (kt 1 + 1))) (fun L O P hP => ?_) (fun dd l1 l2 H L O => ⟨oc_0 (q_wr (q_ll H.rel)) H.e5 H.e11 H.e12 H.e13, fun Q hQ => ?_⟩) (fun _ _ _ _ => rfl) (fun _ _ _ _ _ hs => ⟨by repeat first | exact hs | apply lo_upd, rfl, rfl, rfl⟩) (by first | exact Or.inr (fun _ _ => rfl) | exact Or.inl (by unfold q_e; decide)) (fun _ _ _ => rfl)
    · unfold wp_Pr_perform
      refine pr_op ?_
      rw [ho]
      repeat first | refine bq_t (by decide) ?_ | refine bq_f (by decide) ?_
      unfold wp_Pr_access
      refine pr_op ?_
      rw [ho]
      repeat first | refine bq_t (by decide) ?_ | refine bq_f (by decide) ?_
      unfold wp_Pr_loadLinked
      refine pr_adr ?_
      refine me_gd (k := 4) M (Or.inr (Or.inr (Or.inl rfl))) (fun _ => ?_) (fun q => absurd hg q)
      refine bq_f (by decide) (fun x ex => pr_rt ?_)
      have hm := M.m8
      have hS := M.hS
      have hmn := M.hmn
      have hw : mf (a / 4) = q_word bm (a / 4) := H.rel.2.2.2.2.2.2.2.2 _ (by omega)
      subst ex
      rw [ea]
      refine me_rd (k := 4) (Or.inr (Or.inr rfl)) hS hmn h1 h2 (by omega) hw ?_
      rw [rd4_e, ← ea]
      exact pr_result hP
    · unfold wp_Md_operate
      rw [ho]
      repeat first | refine bq_t (by decide) ?_ | refine bq_f (by decide) ?_
      unfold wp_Md_memories
      refine md_rs H.e9 H.rel (md_offset H.e9 (fun at_ eat => md_field H.e9 ?_))
      have eat : at_ = adr rg w := eat
      subst eat
      repeat first | refine bq_t (by decide) ?_ | refine bq_f (by decide) ?_
      have hm := M.m8
      have hS := M.hS
      have hmn := M.hmn
      have hw : mf (a / 4) = q_word bm (a / 4) := H.rel.2.2.2.2.2.2.2.2 _ (by omega)
      refine md_gd (k := 4) M (Or.inr (Or.inr (Or.inl rfl))) (fun _ => ?_) (fun q => absurd hg q)
      refine bq_f (by decide) ?_
      unfold wj_Md_memories_94
      refine bq_t (by rw [H.e5]; decide) ?_
      rw [ea]
      refine md_part (k := 4) (Or.inr (Or.inr rfl)) hS h1 h2 ?_
      rw [rd4_e, ← ea]
      refine md_into H.e5 ⟨in1_5, fun x ex => ⟨in1_5, ?_⟩⟩
      dsimp only at ex ⊢
      rw [c_1] at *
      subst ex
      exact hQ
  · refine pfx_mk H 1 (fun L O => (g, rg, hq, mf, cd, fg, L, O)) (fun dd l1 l2 => (upd dd 5 1, l1, l2, bm, rr, kt)) (fun L O P hP => ?_) (fun dd l1 l2 H L O => ⟨oc_end (by unfold q_e; simp) H.rel H.nxt rfl (fun j _ h => pk_un h), fun Q hQ => ?_⟩) (fun _ _ _ _ => rfl) (fun _ _ _ _ _ hs => ⟨by repeat first | exact hs | apply lo_upd, rfl, rfl, rfl⟩) (by first | exact Or.inr (fun _ _ => rfl) | exact Or.inl (by unfold q_e; decide)) (fun _ _ _ => rfl)
    · unfold wp_Pr_perform
      refine pr_op ?_
      rw [ho]
      repeat first | refine bq_t (by decide) ?_ | refine bq_f (by decide) ?_
      unfold wp_Pr_access
      refine pr_op ?_
      rw [ho]
      repeat first | refine bq_t (by decide) ?_ | refine bq_f (by decide) ?_
      unfold wp_Pr_loadLinked
      refine pr_adr ?_
      refine me_gd (k := 4) M (Or.inr (Or.inr (Or.inl rfl))) (fun q => absurd q hg) (fun _ => ?_)
      exact bq_t rfl hP
    · unfold wp_Md_operate
      rw [ho]
      repeat first | refine bq_t (by decide) ?_ | refine bq_f (by decide) ?_
      unfold wp_Md_memories
      refine md_rs H.e9 H.rel (md_offset H.e9 (fun at_ eat => md_field H.e9 ?_))
      have eat : at_ = adr rg w := eat
      subst eat
      repeat first | refine bq_t (by decide) ?_ | refine bq_f (by decide) ?_
      refine md_gd (k := 4) M (Or.inr (Or.inr (Or.inl rfl))) (fun q => absurd q hg) (fun _ => ?_)
      refine bq_t rfl (md_ends H.e5 ?_)
      unfold wj_Md_memories_94
      exact bq_f (show ¬ (1 : Int32) ≤ 0 by decide) hQ

theorem i_sc (H : pre mn g rg hq mf cd fg w dd bm rr kt) (M : mem ms mn S) (ho : zz_ushr w 26 = 56) : pfx ms mn g rg hq mf cd fg w dd bm rr kt := by
  by_cases hl : ¬ g 3 = 0 ∧ adr rg w = g 4
  · by_cases hg : q_gd S 4 (adr rg w)
    · obtain ⟨a, ea, h1, h2⟩ := id hg
      refine pfx_mk H 0 (fun L O => (upd (upd g 3 0) 9 (g 9 + 1), wr rg (fI w 16) 1, hq, upd mf (a / 4) (q_word (stb bm a 4 (rv rg w 16)) (a / 4)), cd, fg, L, O)) (fun dd l1 l2 => (upd dd 7 0, l1, l2, stb bm a 4 (rv rg w 16), wr rr (fI w 16) 1, upd kt 2 (kt 2 + 1))) (fun L O P hP => ?_) (fun dd l1 l2 H L O => ⟨oc_0 (q_wr (q_sc (q_mem H.rel (stb_k (Or.inr (Or.inr rfl)) h2)))) H.e5 H.e11 H.e12 H.e13, fun Q hQ => ?_⟩) (fun _ _ _ _ => rfl) (fun _ _ _ _ _ hs => ⟨by repeat first | exact hs | apply lo_upd, rfl, rfl, rfl⟩) (by first | exact Or.inr (fun _ _ => rfl) | exact Or.inl (by unfold q_e; decide)) (fun _ _ _ => rfl)
      · unfold wp_Pr_perform
        refine pr_op ?_
        rw [ho]
        repeat first | refine bq_t (by decide) ?_ | refine bq_f (by decide) ?_
        unfold wp_Pr_access
        refine pr_op ?_
        rw [ho]
        repeat first | refine bq_t (by decide) ?_ | refine bq_f (by decide) ?_
        unfold wp_Pr_storeConditional
        refine pr_adr (bq_f hl.1 (bq_t hl.2 ?_))
        refine me_gd (k := 4) M (Or.inr (Or.inr (Or.inl rfl))) (fun _ => ?_) (fun q => absurd hg q)
        refine bq_f (by decide) (fun x ex => pr_rt ⟨fI_in w 16, fun y ey => ?_⟩)
        have hm := M.m8
        have hS := M.hS
        have hmn := M.hmn
        have hw : mf (a / 4) = q_word bm (a / 4) := H.rel.2.2.2.2.2.2.2.2 _ (by omega)
        subst ex
        subst ey
        rw [ea]
        refine me_wrt (k := 4) (Or.inr (Or.inr rfl)) hS hmn h1 h2 (by omega) hw (pr_rt ?_)
        exact pr_result hP
      · unfold wp_Md_operate
        rw [ho]
        repeat first | refine bq_t (by decide) ?_ | refine bq_f (by decide) ?_
        unfold wp_Md_memories
        refine md_rs H.e9 H.rel (md_offset H.e9 (fun at_ eat => md_field H.e9 ?_))
        have eat : at_ = adr rg w := eat
        subst eat
        repeat first | refine bq_t (by decide) ?_ | refine bq_f (by decide) ?_
        have hm := M.m8
        have hS := M.hS
        have hmn := M.hmn
        have hw : mf (a / 4) = q_word bm (a / 4) := H.rel.2.2.2.2.2.2.2.2 _ (by omega)
        have h7 : dd 7 = g 3 := H.rel.2.2.2.2.2.2.1.2.2.2.2.2.1
        have h8 : dd 8 = g 4 := H.rel.2.2.2.2.2.2.1.2.2.2.2.2.2.2 hl.1
        refine bq_f (by rw [h7]; exact hl.1) (bq_t (by rw [h8]; exact hl.2.symm) ?_)
        unfold wj_Md_memories_208
        refine md_gd (k := 4) M (Or.inr (Or.inr (Or.inl rfl))) (fun _ => ?_) (fun q => absurd hg q)
        refine bq_f (by decide) ?_
        unfold wj_Md_memories_222
        refine bq_t (by rw [H.e5]; decide) ⟨fI_in67 w 16, fun v ev => ?_⟩
        have ev : v = rv rg w 16 := ev.trans (H.rel.1 _ (fI_lt w 16))
        subst ev
        rw [ea]
        refine md_store (k := 4) (Or.inr (Or.inr rfl)) hS h1 ?_
        refine md_into H.e5 ⟨in2_5, fun x ex => ⟨in2_5, ?_⟩⟩
        dsimp only at ex ⊢
        rw [c_2] at *
        subst ex
        exact hQ
    · refine pfx_mk H 2 (fun L O => (g, rg, hq, mf, cd, fg, L, O)) (fun dd l1 l2 => (upd dd 5 2, l1, l2, bm, rr, kt)) (fun L O P hP => ?_) (fun dd l1 l2 H L O => ⟨oc_end (by unfold q_e; simp) H.rel H.nxt rfl (fun j _ h => pk_un h), fun Q hQ => ?_⟩) (fun _ _ _ _ => rfl) (fun _ _ _ _ _ hs => ⟨by repeat first | exact hs | apply lo_upd, rfl, rfl, rfl⟩) (by first | exact Or.inr (fun _ _ => rfl) | exact Or.inl (by unfold q_e; decide)) (fun _ _ _ => rfl)
      · unfold wp_Pr_perform
        refine pr_op ?_
        rw [ho]
        repeat first | refine bq_t (by decide) ?_ | refine bq_f (by decide) ?_
        unfold wp_Pr_access
        refine pr_op ?_
        rw [ho]
        repeat first | refine bq_t (by decide) ?_ | refine bq_f (by decide) ?_
        unfold wp_Pr_storeConditional
        refine pr_adr (bq_f hl.1 (bq_t hl.2 ?_))
        refine me_gd (k := 4) M (Or.inr (Or.inr (Or.inl rfl))) (fun q => absurd q hg) (fun _ => ?_)
        exact bq_t rfl hP
      · unfold wp_Md_operate
        rw [ho]
        repeat first | refine bq_t (by decide) ?_ | refine bq_f (by decide) ?_
        unfold wp_Md_memories
        refine md_rs H.e9 H.rel (md_offset H.e9 (fun at_ eat => md_field H.e9 ?_))
        have eat : at_ = adr rg w := eat
        subst eat
        repeat first | refine bq_t (by decide) ?_ | refine bq_f (by decide) ?_
        have h7 : dd 7 = g 3 := H.rel.2.2.2.2.2.2.1.2.2.2.2.2.1
        have h8 : dd 8 = g 4 := H.rel.2.2.2.2.2.2.1.2.2.2.2.2.2.2 hl.1
        refine bq_f (by rw [h7]; exact hl.1) (bq_t (by rw [h8]; exact hl.2.symm) ?_)
        unfold wj_Md_memories_208
        refine md_gd (k := 4) M (Or.inr (Or.inr (Or.inl rfl))) (fun q => absurd q hg) (fun _ => ?_)
        refine bq_t rfl (md_ends H.e5 ?_)
        unfold wj_Md_memories_222
        exact bq_f (show ¬ (2 : Int32) ≤ 0 by decide) hQ
  · refine pfx_mk H 8 (fun L O => (g, rg, hq, mf, cd, fg, L, O)) (fun dd l1 l2 => (upd dd 5 8, l1, l2, bm, rr, kt)) (fun L O P hP => ?_) (fun dd l1 l2 H L O => ⟨oc_end (by unfold q_e; simp) H.rel H.nxt rfl (fun j _ h => pk_un h), fun Q hQ => ?_⟩) (fun _ _ _ _ => rfl) (fun _ _ _ _ _ hs => ⟨by repeat first | exact hs | apply lo_upd, rfl, rfl, rfl⟩) (by first | exact Or.inr (fun _ _ => rfl) | exact Or.inl (by unfold q_e; decide)) (fun _ _ _ => rfl)
    · unfold wp_Pr_perform
      refine pr_op ?_
      rw [ho]
      repeat first | refine bq_t (by decide) ?_ | refine bq_f (by decide) ?_
      unfold wp_Pr_access
      refine pr_op ?_
      rw [ho]
      repeat first | refine bq_t (by decide) ?_ | refine bq_f (by decide) ?_
      unfold wp_Pr_storeConditional
      exact pr_adr ⟨fun _ => hP, fun c => ⟨fun d => absurd ⟨c, d⟩ hl, fun _ => hP⟩⟩
    · unfold wp_Md_operate
      rw [ho]
      repeat first | refine bq_t (by decide) ?_ | refine bq_f (by decide) ?_
      unfold wp_Md_memories
      refine md_rs H.e9 H.rel (md_offset H.e9 (fun at_ eat => md_field H.e9 ?_))
      have eat : at_ = adr rg w := eat
      subst eat
      repeat first | refine bq_t (by decide) ?_ | refine bq_f (by decide) ?_
      have h7 : dd 7 = g 3 := H.rel.2.2.2.2.2.2.1.2.2.2.2.2.1
      have fin : wj_Md_memories_202 ms 56 (fun u => Q u) (adr rg w) (fI w 16) dd l1 l2 bm rr kt := by
        unfold wj_Md_memories_202
        refine md_ends H.e5 ?_
        have k222 : ∀ d5 : Nat → Int32, d5 = upd dd 5 8 → wj_Md_memories_222 ms 56 (fun u => Q u) (adr rg w) (fI w 16) d5 l1 l2 bm rr kt := by
          intro d5 e5
          subst e5
          unfold wj_Md_memories_222
          exact bq_f (show ¬ (8 : Int32) ≤ 0 by decide) hQ
        unfold wj_Md_memories_208
        refine md_gd (k := 4) M (Or.inr (Or.inr (Or.inl rfl))) (fun _ => ?_) (fun _ => ?_)
        · exact bq_f (by decide) (k222 _ rfl)
        · exact bq_t rfl (md_ends_n (show ¬ (8 : Int32) = 0 by decide) (k222 _ rfl))
      refine ⟨fun _ => fin, fun c => ⟨fun d => ?_, fun _ => fin⟩⟩
      have c2 : ¬ g 3 = 0 := by rw [← h7]; exact c
      have h8 : dd 8 = g 4 := H.rel.2.2.2.2.2.2.1.2.2.2.2.2.2.2 c2
      exact absurd ⟨c2, by rw [← h8]; exact d.symm⟩ hl

theorem i_lwc1 (H : pre mn g rg hq mf cd fg w dd bm rr kt) (M : mem ms mn S) (ho : zz_ushr w 26 = 49) : pfx ms mn g rg hq mf cd fg w dd bm rr kt := by
  obtain ⟨j, hj, ej⟩ := fI_n w 16
  by_cases hg : q_gd S 4 (adr rg w)
  · obtain ⟨a, ea, h1, h2⟩ := id hg
    refine pfx_mk H 0 (fun L O => (upd g 8 (g 8 + 1), rg, hq, mf, cd, upd fg j (q_word bm (a / 4)), L, O)) (fun dd l1 l2 => (dd, l1, l2, bm, upd rr (34 + j) (q_word bm (a / 4)), upd kt 1 (kt 1 + 1))) (fun L O P hP => ?_) (fun dd l1 l2 H L O => ⟨oc_0 (q_fg hj (q_c8 H.rel)) H.e5 H.e11 H.e12 H.e13, fun Q hQ => ?_⟩) (fun _ _ _ _ => rfl) (fun _ _ _ _ _ hs => ⟨by repeat first | exact hs | apply lo_upd, rfl, rfl, rfl⟩) (by first | exact Or.inr (fun _ _ => rfl) | exact Or.inl (by unfold q_e; decide)) (fun _ _ _ => rfl)
    · unfold wp_Pr_perform
      refine pr_op ?_
      rw [ho]
      repeat first | refine bq_t (by decide) ?_ | refine bq_f (by decide) ?_
      unfold wp_Pr_access
      refine pr_op ?_
      rw [ho]
      repeat first | refine bq_t (by decide) ?_ | refine bq_f (by decide) ?_
      unfold wp_Pr_loadSingle
      refine pr_adr ?_
      refine me_gd (k := 4) M (Or.inr (Or.inr (Or.inl rfl))) (fun _ => ?_) (fun q => absurd hg q)
      refine bq_f (by decide) (fun x ex => pr_rt ?_)
      have hm := M.m8
      have hS := M.hS
      have hmn := M.hmn
      have hw : mf (a / 4) = q_word bm (a / 4) := H.rel.2.2.2.2.2.2.2.2 _ (by omega)
      subst ex
      rw [ea]
      refine me_rd (k := 4) (Or.inr (Or.inr rfl)) hS hmn h1 h2 (by omega) hw ⟨fI_in w 16, ?_⟩
      rw [rd4_e, ej, nI_clamp (by omega)]
      exact hP
    · unfold wp_Md_operate
      rw [ho]
      repeat first | refine bq_t (by decide) ?_ | refine bq_f (by decide) ?_
      unfold wp_Md_memories
      refine md_rs H.e9 H.rel (md_offset H.e9 (fun at_ eat => md_field H.e9 ?_))
      have eat : at_ = adr rg w := eat
      subst eat
      repeat first | refine bq_t (by decide) ?_ | refine bq_f (by decide) ?_
      try unfold wj_Md_fractionMemory_63
      have hm := M.m8
      have hS := M.hS
      have hmn := M.hmn
      have hw : mf (a / 4) = q_word bm (a / 4) := H.rel.2.2.2.2.2.2.2.2 _ (by omega)
      have e34 : (34 : Int32) + fI w 16 = nI (34 + j) := by rw [ej, show (34 : Int32) = nI 34 from rfl, nI_add]
      refine md_gd (k := 4) M (Or.inr (Or.inr (Or.inl rfl))) (fun _ => ?_) (fun q => absurd hg q)
      refine bq_f (by decide) ?_
      unfold wj_Md_fractionMemory_83
      refine bq_t (by rw [H.e5]; decide) ?_
      repeat first | refine bq_t (by decide) ?_ | refine bq_f (by decide) ?_
      unfold wj_Md_fractionMemory_105
      refine ⟨in1_5, fun x ex => ⟨in1_5, fun y ey => ?_⟩⟩
      rw [c_1] at *
      subst ex
      rw [e34] at ey
      subst ey
      repeat first | refine bq_t (by decide) ?_ | refine bq_f (by decide) ?_
      unfold wj_Md_fractionMemory_139
      rw [ea]
      refine md_part (k := 4) (Or.inr (Or.inr rfl)) hS h1 h2 ⟨vp_in_nI (by omega) (by decide), ?_⟩
      rw [rd4_e, nI_clamp (by omega)]
      exact bq_t rfl hQ
  · refine pfx_mk H 1 (fun L O => (g, rg, hq, mf, cd, fg, L, O)) (fun dd l1 l2 => (upd dd 5 1, l1, l2, bm, rr, kt)) (fun L O P hP => ?_) (fun dd l1 l2 H L O => ⟨oc_end (by unfold q_e; simp) H.rel H.nxt rfl (fun j _ h => pk_un h), fun Q hQ => ?_⟩) (fun _ _ _ _ => rfl) (fun _ _ _ _ _ hs => ⟨by repeat first | exact hs | apply lo_upd, rfl, rfl, rfl⟩) (by first | exact Or.inr (fun _ _ => rfl) | exact Or.inl (by unfold q_e; decide)) (fun _ _ _ => rfl)
    · unfold wp_Pr_perform
      refine pr_op ?_
      rw [ho]
      repeat first | refine bq_t (by decide) ?_ | refine bq_f (by decide) ?_
      unfold wp_Pr_access
      refine pr_op ?_
      rw [ho]
      repeat first | refine bq_t (by decide) ?_ | refine bq_f (by decide) ?_
      unfold wp_Pr_loadSingle
      refine pr_adr ?_
      refine me_gd (k := 4) M (Or.inr (Or.inr (Or.inl rfl))) (fun q => absurd q hg) (fun _ => ?_)
      exact bq_t rfl hP
    · unfold wp_Md_operate
      rw [ho]
      repeat first | refine bq_t (by decide) ?_ | refine bq_f (by decide) ?_
      unfold wp_Md_memories
      refine md_rs H.e9 H.rel (md_offset H.e9 (fun at_ eat => md_field H.e9 ?_))
      have eat : at_ = adr rg w := eat
      subst eat
      repeat first | refine bq_t (by decide) ?_ | refine bq_f (by decide) ?_
      try unfold wj_Md_fractionMemory_63
      refine md_gd (k := 4) M (Or.inr (Or.inr (Or.inl rfl))) (fun q => absurd q hg) (fun _ => ?_)
      refine bq_t rfl (bq_f (by decide) (md_ends H.e5 ?_))
      unfold wj_Md_fractionMemory_83
      exact bq_f (show ¬ (1 : Int32) ≤ 0 by decide) hQ

theorem i_swc1 (H : pre mn g rg hq mf cd fg w dd bm rr kt) (M : mem ms mn S) (ho : zz_ushr w 26 = 57) : pfx ms mn g rg hq mf cd fg w dd bm rr kt := by
  obtain ⟨j, hj, ej⟩ := fI_n w 16
  by_cases hg : q_gd S 4 (adr rg w)
  · obtain ⟨a, ea, h1, h2⟩ := id hg
    refine pfx_mk H 0 (fun L O => (upd g 9 (g 9 + 1), rg, hq, upd mf (a / 4) (q_word (stb bm a 4 (fg j)) (a / 4)), cd, fg, L, O)) (fun dd l1 l2 => (dd, l1, l2, stb bm a 4 (fg j), rr, upd kt 2 (kt 2 + 1))) (fun L O P hP => ?_) (fun dd l1 l2 H L O => ⟨oc_0 (q_mem (q_c9 H.rel) (stb_k (Or.inr (Or.inr rfl)) h2)) H.e5 H.e11 H.e12 H.e13, fun Q hQ => ?_⟩) (fun _ _ _ _ => rfl) (fun _ _ _ _ _ hs => ⟨by repeat first | exact hs | apply lo_upd, rfl, rfl, rfl⟩) (by first | exact Or.inr (fun _ _ => rfl) | exact Or.inl (by unfold q_e; decide)) (fun _ _ _ => rfl)
    · unfold wp_Pr_perform
      refine pr_op ?_
      rw [ho]
      repeat first | refine bq_t (by decide) ?_ | refine bq_f (by decide) ?_
      unfold wp_Pr_access
      refine pr_op ?_
      rw [ho]
      repeat first | refine bq_t (by decide) ?_ | refine bq_f (by decide) ?_
      unfold wp_Pr_storeSingle
      refine pr_adr ?_
      refine me_gd (k := 4) M (Or.inr (Or.inr (Or.inl rfl))) (fun _ => ?_) (fun q => absurd hg q)
      refine bq_f (by decide) (fun x ex => pr_rt ⟨fI_in w 16, fun y ey => ?_⟩)
      have hm := M.m8
      have hS := M.hS
      have hmn := M.hmn
      have hw : mf (a / 4) = q_word bm (a / 4) := H.rel.2.2.2.2.2.2.2.2 _ (by omega)
      subst ex
      rw [ej, nI_clamp (by omega)] at ey
      subst ey
      rw [ea]
      exact me_wrt (k := 4) (Or.inr (Or.inr rfl)) hS hmn h1 h2 (by omega) hw hP
    · unfold wp_Md_operate
      rw [ho]
      repeat first | refine bq_t (by decide) ?_ | refine bq_f (by decide) ?_
      unfold wp_Md_memories
      refine md_rs H.e9 H.rel (md_offset H.e9 (fun at_ eat => md_field H.e9 ?_))
      have eat : at_ = adr rg w := eat
      subst eat
      repeat first | refine bq_t (by decide) ?_ | refine bq_f (by decide) ?_
      try unfold wj_Md_fractionMemory_63
      have hm := M.m8
      have hS := M.hS
      have hmn := M.hmn
      have hw : mf (a / 4) = q_word bm (a / 4) := H.rel.2.2.2.2.2.2.2.2 _ (by omega)
      have e34 : (34 : Int32) + fI w 16 = nI (34 + j) := by rw [ej, show (34 : Int32) = nI 34 from rfl, nI_add]
      refine md_gd (k := 4) M (Or.inr (Or.inr (Or.inl rfl))) (fun _ => ?_) (fun q => absurd hg q)
      refine bq_f (by decide) ?_
      unfold wj_Md_fractionMemory_83
      refine bq_t (by rw [H.e5]; decide) ?_
      repeat first | refine bq_t (by decide) ?_ | refine bq_f (by decide) ?_
      unfold wj_Md_fractionMemory_105
      refine ⟨in2_5, fun x ex => ⟨in2_5, fun y ey => ?_⟩⟩
      rw [c_2] at *
      subst ex
      rw [e34] at ey
      subst ey
      repeat first | refine bq_t (by decide) ?_ | refine bq_f (by decide) ?_
      unfold wj_Md_fractionMemory_190
      refine ⟨vp_in_nI (by omega) (by decide), fun v ev => ?_⟩
      rw [nI_clamp (by omega), H.rel.2.2.2.2.1 j hj] at ev
      subst ev
      rw [ea]
      exact md_store (k := 4) (Or.inr (Or.inr rfl)) hS h1 (bq_t rfl hQ)
  · refine pfx_mk H 2 (fun L O => (g, rg, hq, mf, cd, fg, L, O)) (fun dd l1 l2 => (upd dd 5 2, l1, l2, bm, rr, kt)) (fun L O P hP => ?_) (fun dd l1 l2 H L O => ⟨oc_end (by unfold q_e; simp) H.rel H.nxt rfl (fun j _ h => pk_un h), fun Q hQ => ?_⟩) (fun _ _ _ _ => rfl) (fun _ _ _ _ _ hs => ⟨by repeat first | exact hs | apply lo_upd, rfl, rfl, rfl⟩) (by first | exact Or.inr (fun _ _ => rfl) | exact Or.inl (by unfold q_e; decide)) (fun _ _ _ => rfl)
    · unfold wp_Pr_perform
      refine pr_op ?_
      rw [ho]
      repeat first | refine bq_t (by decide) ?_ | refine bq_f (by decide) ?_
      unfold wp_Pr_access
      refine pr_op ?_
      rw [ho]
      repeat first | refine bq_t (by decide) ?_ | refine bq_f (by decide) ?_
      unfold wp_Pr_storeSingle
      refine pr_adr ?_
      refine me_gd (k := 4) M (Or.inr (Or.inr (Or.inl rfl))) (fun q => absurd q hg) (fun _ => ?_)
      exact bq_t rfl hP
    · unfold wp_Md_operate
      rw [ho]
      repeat first | refine bq_t (by decide) ?_ | refine bq_f (by decide) ?_
      unfold wp_Md_memories
      refine md_rs H.e9 H.rel (md_offset H.e9 (fun at_ eat => md_field H.e9 ?_))
      have eat : at_ = adr rg w := eat
      subst eat
      repeat first | refine bq_t (by decide) ?_ | refine bq_f (by decide) ?_
      try unfold wj_Md_fractionMemory_63
      refine md_gd (k := 4) M (Or.inr (Or.inr (Or.inl rfl))) (fun q => absurd q hg) (fun _ => ?_)
      refine bq_t rfl (bq_t rfl (md_ends H.e5 ?_))
      unfold wj_Md_fractionMemory_83
      exact bq_f (show ¬ (2 : Int32) ≤ 0 by decide) hQ

theorem q_fg2 {j : Nat} {v : Int32} (hj : j + 1 < 32) (h : q_rel mn g rg hq mf cd fg dd bm rr kt) : q_rel mn g rg hq mf cd (upd fg (j + 1) v) dd bm (upd rr (35 + j) v) kt := by
  have := q_fg (v := v) hj h
  rw [show 34 + (j + 1) = 35 + j by omega] at this
  exact this
theorem i_ldc1 (H : pre mn g rg hq mf cd fg w dd bm rr kt) (M : mem ms mn S) (ho : zz_ushr w 26 = 53) : pfx ms mn g rg hq mf cd fg w dd bm rr kt := by
  obtain ⟨j, hj, ej⟩ := fI_n w 16
  by_cases he : j % 2 = 0
  · by_cases hg : q_gd S 8 (adr rg w)
    · obtain ⟨a, ea, h1, h2⟩ := id hg
      refine pfx_mk H 0 (fun L O => (upd g 8 (g 8 + 1), rg, hq, mf, cd, upd (upd fg (j + 1) (q_word bm (a / 4))) j (q_word bm ((a + 4) / 4)), L, O)) (fun dd l1 l2 => (dd, l1, l2, bm, upd (upd rr (35 + j) (q_word bm (a / 4))) (34 + j) (q_word bm ((a + 4) / 4)), upd kt 1 (kt 1 + 1))) (fun L O P hP => ?_) (fun dd l1 l2 H L O => ⟨oc_0 (q_fg hj (q_fg2 (show j + 1 < 32 by omega) (q_c8 H.rel))) H.e5 H.e11 H.e12 H.e13, fun Q hQ => ?_⟩) (fun _ _ _ _ => rfl) (fun _ _ _ _ _ hs => ⟨by repeat first | exact hs | apply lo_upd, rfl, rfl, rfl⟩) (by first | exact Or.inr (fun _ _ => rfl) | exact Or.inl (by unfold q_e; decide)) (fun _ _ _ => rfl)
      · unfold wp_Pr_perform
        refine pr_op ?_
        rw [ho]
        repeat first | refine bq_t (by decide) ?_ | refine bq_f (by decide) ?_
        unfold wp_Pr_access
        refine pr_op ?_
        rw [ho]
        repeat first | refine bq_t (by decide) ?_ | refine bq_f (by decide) ?_
        unfold wp_Pr_loadDouble
        refine pr_adr (pr_rt ?_)
        have hodd : (fI w 16 &&& 1 = 0) ↔ j % 2 = 0 := by rw [ej, and1_n hj, show (0 : Int32) = nI 0 from rfl, nI_eq (by omega) (by decide)]
        have hodd1 : (fI w 16 &&& 1 = 1) ↔ ¬ j % 2 = 0 := by rw [ej, and1_n hj, show (1 : Int32) = nI 1 from rfl, nI_eq (by omega) (by decide)]; omega
        refine bq_t (hodd.mpr he) ?_
        refine me_gd (k := 8) M (Or.inr (Or.inr (Or.inr rfl))) (fun _ => ?_) (fun q => absurd hg q)
        refine bq_f (by decide) (fun x ex => ?_)
        have hm := M.m8
        have hS := M.hS
        have hmn := M.hmn
        have hw : mf (a / 4) = q_word bm (a / 4) := H.rel.2.2.2.2.2.2.2.2 _ (by omega)
        have ea4 : adr rg w + 4 = nI (a + 4) := by rw [ea, show (4 : Int32) = nI 4 from rfl, nI_add]
        have hw2 : mf ((a + 4) / 4) = q_word bm ((a + 4) / 4) := H.rel.2.2.2.2.2.2.2.2 _ (by omega)
        have eo : fI w 16 ||| 1 = nI (j + 1) := by rw [ej]; exact or1_ev j hj he
        subst ex
        rw [eo, ea4, ea]
        refine me_rd (k := 4) (Or.inr (Or.inr rfl)) hS hmn (by omega) (by omega) (by omega) hw ⟨vp_in_nI (by omega) (by decide), ?_⟩
        refine me_rd (k := 4) (Or.inr (Or.inr rfl)) hS hmn (by omega) (by omega) (by omega) hw2 ⟨fI_in w 16, ?_⟩
        rw [rd4_e, rd4_e, ej, nI_clamp (by omega), nI_clamp (by omega)]
        exact hP
      · unfold wp_Md_operate
        rw [ho]
        repeat first | refine bq_t (by decide) ?_ | refine bq_f (by decide) ?_
        unfold wp_Md_memories
        refine md_rs H.e9 H.rel (md_offset H.e9 (fun at_ eat => md_field H.e9 ?_))
        have eat : at_ = adr rg w := eat
        subst eat
        repeat first | refine bq_t (by decide) ?_ | refine bq_f (by decide) ?_
        try unfold wj_Md_fractionMemory_63
        have hm := M.m8
        have hS := M.hS
        have hmn := M.hmn
        have hw : mf (a / 4) = q_word bm (a / 4) := H.rel.2.2.2.2.2.2.2.2 _ (by omega)
        have e34 : (34 : Int32) + fI w 16 = nI (34 + j) := by rw [ej, show (34 : Int32) = nI 34 from rfl, nI_add]
        have e35 : (34 : Int32) + fI w 16 + 1 = nI (35 + j) := by rw [e34, nI_1]; congr 1; omega
        have ea4 : adr rg w + 4 = nI (a + 4) := by rw [ea, show (4 : Int32) = nI 4 from rfl, nI_add]
        have hodd : (fI w 16 &&& 1 = 0) ↔ j % 2 = 0 := by rw [ej, and1_n hj, show (0 : Int32) = nI 0 from rfl, nI_eq (by omega) (by decide)]
        have hodd1 : (fI w 16 &&& 1 = 1) ↔ ¬ j % 2 = 0 := by rw [ej, and1_n hj, show (1 : Int32) = nI 1 from rfl, nI_eq (by omega) (by decide)]; omega
        refine bq_f (fun q => hodd1.mp q he) ?_
        repeat first | refine bq_t (by decide) ?_ | refine bq_f (by decide) ?_
        refine md_gd (k := 8) M (Or.inr (Or.inr (Or.inr rfl))) (fun _ => ?_) (fun q => absurd hg q)
        refine bq_f (by decide) ?_
        unfold wj_Md_fractionMemory_83
        refine bq_t (by rw [H.e5]; decide) ?_
        repeat first | refine bq_t (by decide) ?_ | refine bq_f (by decide) ?_
        unfold wj_Md_fractionMemory_105
        refine ⟨in1_5, fun x ex => ⟨in1_5, fun y ey => ?_⟩⟩
        rw [c_1] at *
        subst ex
        repeat first | refine bq_t (by decide) ?_ | refine bq_f (by decide) ?_
        unfold wj_Md_fractionMemory_139
        rw [ey, e35, e34, ea4, ea]
        refine md_part (k := 4) (Or.inr (Or.inr rfl)) hS (by omega) (by omega) ⟨vp_in_nI (by omega) (by decide), ?_⟩
        rw [rd4_e, nI_clamp (by omega)]
        refine bq_f (by decide) ?_
        refine md_part (k := 4) (Or.inr (Or.inr rfl)) hS (by omega) (by omega) ⟨vp_in_nI (by omega) (by decide), ?_⟩
        rw [rd4_e, nI_clamp (by omega)]
        exact hQ
    · refine pfx_mk H 1 (fun L O => (g, rg, hq, mf, cd, fg, L, O)) (fun dd l1 l2 => (upd dd 5 1, l1, l2, bm, rr, kt)) (fun L O P hP => ?_) (fun dd l1 l2 H L O => ⟨oc_end (by unfold q_e; simp) H.rel H.nxt rfl (fun j _ h => pk_un h), fun Q hQ => ?_⟩) (fun _ _ _ _ => rfl) (fun _ _ _ _ _ hs => ⟨by repeat first | exact hs | apply lo_upd, rfl, rfl, rfl⟩) (by first | exact Or.inr (fun _ _ => rfl) | exact Or.inl (by unfold q_e; decide)) (fun _ _ _ => rfl)
      · unfold wp_Pr_perform
        refine pr_op ?_
        rw [ho]
        repeat first | refine bq_t (by decide) ?_ | refine bq_f (by decide) ?_
        unfold wp_Pr_access
        refine pr_op ?_
        rw [ho]
        repeat first | refine bq_t (by decide) ?_ | refine bq_f (by decide) ?_
        unfold wp_Pr_loadDouble
        refine pr_adr (pr_rt ?_)
        have hodd : (fI w 16 &&& 1 = 0) ↔ j % 2 = 0 := by rw [ej, and1_n hj, show (0 : Int32) = nI 0 from rfl, nI_eq (by omega) (by decide)]
        have hodd1 : (fI w 16 &&& 1 = 1) ↔ ¬ j % 2 = 0 := by rw [ej, and1_n hj, show (1 : Int32) = nI 1 from rfl, nI_eq (by omega) (by decide)]; omega
        refine bq_t (hodd.mpr he) ?_
        refine me_gd (k := 8) M (Or.inr (Or.inr (Or.inr rfl))) (fun q => absurd q hg) (fun _ => ?_)
        exact bq_t rfl hP
      · unfold wp_Md_operate
        rw [ho]
        repeat first | refine bq_t (by decide) ?_ | refine bq_f (by decide) ?_
        unfold wp_Md_memories
        refine md_rs H.e9 H.rel (md_offset H.e9 (fun at_ eat => md_field H.e9 ?_))
        have eat : at_ = adr rg w := eat
        subst eat
        repeat first | refine bq_t (by decide) ?_ | refine bq_f (by decide) ?_
        try unfold wj_Md_fractionMemory_63
        have hodd : (fI w 16 &&& 1 = 0) ↔ j % 2 = 0 := by rw [ej, and1_n hj, show (0 : Int32) = nI 0 from rfl, nI_eq (by omega) (by decide)]
        have hodd1 : (fI w 16 &&& 1 = 1) ↔ ¬ j % 2 = 0 := by rw [ej, and1_n hj, show (1 : Int32) = nI 1 from rfl, nI_eq (by omega) (by decide)]; omega
        refine bq_f (fun q => hodd1.mp q he) ?_
        repeat first | refine bq_t (by decide) ?_ | refine bq_f (by decide) ?_
        refine md_gd (k := 8) M (Or.inr (Or.inr (Or.inr rfl))) (fun q => absurd q hg) (fun _ => ?_)
        refine bq_t rfl (bq_f (by decide) (md_ends H.e5 ?_))
        unfold wj_Md_fractionMemory_83
        exact bq_f (show ¬ (1 : Int32) ≤ 0 by decide) hQ
  · refine pfx_mk H 8 (fun L O => (g, rg, hq, mf, cd, fg, L, O)) (fun dd l1 l2 => (upd dd 5 8, l1, l2, bm, rr, kt)) (fun L O P hP => ?_) (fun dd l1 l2 H L O => ⟨oc_end (by unfold q_e; simp) H.rel H.nxt rfl (fun j _ h => pk_un h), fun Q hQ => ?_⟩) (fun _ _ _ _ => rfl) (fun _ _ _ _ _ hs => ⟨by repeat first | exact hs | apply lo_upd, rfl, rfl, rfl⟩) (by first | exact Or.inr (fun _ _ => rfl) | exact Or.inl (by unfold q_e; decide)) (fun _ _ _ => rfl)
    · unfold wp_Pr_perform
      refine pr_op ?_
      rw [ho]
      repeat first | refine bq_t (by decide) ?_ | refine bq_f (by decide) ?_
      unfold wp_Pr_access
      refine pr_op ?_
      rw [ho]
      repeat first | refine bq_t (by decide) ?_ | refine bq_f (by decide) ?_
      unfold wp_Pr_loadDouble
      refine pr_adr (pr_rt ?_)
      have hodd : (fI w 16 &&& 1 = 0) ↔ j % 2 = 0 := by rw [ej, and1_n hj, show (0 : Int32) = nI 0 from rfl, nI_eq (by omega) (by decide)]
      have hodd1 : (fI w 16 &&& 1 = 1) ↔ ¬ j % 2 = 0 := by rw [ej, and1_n hj, show (1 : Int32) = nI 1 from rfl, nI_eq (by omega) (by decide)]; omega
      exact bq_f (fun q => he (hodd.mp q)) hP
    · unfold wp_Md_operate
      rw [ho]
      repeat first | refine bq_t (by decide) ?_ | refine bq_f (by decide) ?_
      unfold wp_Md_memories
      refine md_rs H.e9 H.rel (md_offset H.e9 (fun at_ eat => md_field H.e9 ?_))
      have eat : at_ = adr rg w := eat
      subst eat
      repeat first | refine bq_t (by decide) ?_ | refine bq_f (by decide) ?_
      try unfold wj_Md_fractionMemory_63
      have hodd : (fI w 16 &&& 1 = 0) ↔ j % 2 = 0 := by rw [ej, and1_n hj, show (0 : Int32) = nI 0 from rfl, nI_eq (by omega) (by decide)]
      have hodd1 : (fI w 16 &&& 1 = 1) ↔ ¬ j % 2 = 0 := by rw [ej, and1_n hj, show (1 : Int32) = nI 1 from rfl, nI_eq (by omega) (by decide)]; omega
      have k83 : ∀ d5 : Nat → Int32, d5 = upd dd 5 8 → wj_Md_fractionMemory_83 ms 53 (adr rg w) (fI w 16) (fun u => Q u) 1 1 d5 l1 l2 bm rr kt := by
        intro d5 e5
        subst e5
        unfold wj_Md_fractionMemory_83
        exact bq_f (show ¬ (8 : Int32) ≤ 0 by decide) hQ
      refine bq_t (hodd1.mpr he) (md_ends H.e5 ?_)
      repeat first | refine bq_t (by decide) ?_ | refine bq_f (by decide) ?_
      refine md_gd (k := 8) M (Or.inr (Or.inr (Or.inr rfl))) (fun _ => ?_) (fun _ => ?_)
      · exact bq_f (by decide) (k83 _ rfl)
      · exact bq_t rfl (bq_f (by decide) (md_ends_n (show ¬ (8 : Int32) = 0 by decide) (k83 _ rfl)))

theorem i_sdc1 (H : pre mn g rg hq mf cd fg w dd bm rr kt) (M : mem ms mn S) (ho : zz_ushr w 26 = 61) : pfx ms mn g rg hq mf cd fg w dd bm rr kt := by
  obtain ⟨j, hj, ej⟩ := fI_n w 16
  by_cases he : j % 2 = 0
  · by_cases hg : q_gd S 8 (adr rg w)
    · obtain ⟨a, ea, h1, h2⟩ := id hg
      refine pfx_mk H 0 (fun L O => (upd g 9 (g 9 + 1), rg, hq, upd (upd mf (a / 4) (q_word (stb bm a 4 (fg (j + 1))) (a / 4))) ((a + 4) / 4) (q_word (stb (stb bm a 4 (fg (j + 1))) (a + 4) 4 (fg j)) ((a + 4) / 4)), cd, fg, L, O)) (fun dd l1 l2 => (dd, l1, l2, stb (stb bm a 4 (fg (j + 1))) (a + 4) 4 (fg j), rr, upd kt 2 (kt 2 + 1))) (fun L O P hP => ?_) (fun dd l1 l2 H L O => ⟨oc_0 (q_mem (q_mem (q_c9 H.rel) (stb_k (Or.inr (Or.inr rfl)) (by omega))) (stb_k (Or.inr (Or.inr rfl)) (by omega))) H.e5 H.e11 H.e12 H.e13, fun Q hQ => ?_⟩) (fun _ _ _ _ => rfl) (fun _ _ _ _ _ hs => ⟨by repeat first | exact hs | apply lo_upd, rfl, rfl, rfl⟩) (by first | exact Or.inr (fun _ _ => rfl) | exact Or.inl (by unfold q_e; decide)) (fun _ _ _ => rfl)
      · unfold wp_Pr_perform
        refine pr_op ?_
        rw [ho]
        repeat first | refine bq_t (by decide) ?_ | refine bq_f (by decide) ?_
        unfold wp_Pr_access
        refine pr_op ?_
        rw [ho]
        repeat first | refine bq_t (by decide) ?_ | refine bq_f (by decide) ?_
        unfold wp_Pr_storeDouble
        refine pr_adr (pr_rt ?_)
        have hodd : (fI w 16 &&& 1 = 0) ↔ j % 2 = 0 := by rw [ej, and1_n hj, show (0 : Int32) = nI 0 from rfl, nI_eq (by omega) (by decide)]
        have hodd1 : (fI w 16 &&& 1 = 1) ↔ ¬ j % 2 = 0 := by rw [ej, and1_n hj, show (1 : Int32) = nI 1 from rfl, nI_eq (by omega) (by decide)]; omega
        refine bq_t (hodd.mpr he) ?_
        refine me_gd (k := 8) M (Or.inr (Or.inr (Or.inr rfl))) (fun _ => ?_) (fun q => absurd hg q)
        refine bq_f (by decide) (fun x ex => ?_)
        have hm := M.m8
        have hS := M.hS
        have hmn := M.hmn
        have hw : mf (a / 4) = q_word bm (a / 4) := H.rel.2.2.2.2.2.2.2.2 _ (by omega)
        have ea4 : adr rg w + 4 = nI (a + 4) := by rw [ea, show (4 : Int32) = nI 4 from rfl, nI_add]
        have hw3 : (upd mf (a / 4) (q_word (stb bm a 4 (fg (j + 1))) (a / 4))) ((a + 4) / 4) = q_word (stb bm a 4 (fg (j + 1))) ((a + 4) / 4) := by
          rw [pk_un (by omega), H.rel.2.2.2.2.2.2.2.2 _ (by omega)]
          exact (q_keep (K := a / 4) (stb_k (Or.inr (Or.inr rfl)) (by omega)) (by omega)).symm
        have eo : fI w 16 ||| 1 = nI (j + 1) := by rw [ej]; exact or1_ev j hj he
        subst ex
        rw [eo, ea4, ea]
        refine ⟨vp_in_nI (by omega) (by decide), fun y ey => ?_⟩
        rw [nI_clamp (by omega)] at ey
        subst ey
        refine me_wrt (k := 4) (Or.inr (Or.inr rfl)) hS hmn (by omega) (by omega) (by omega) hw ⟨fI_in w 16, fun y ey => ?_⟩
        rw [ej, nI_clamp (by omega)] at ey
        subst ey
        exact me_wrt (k := 4) (Or.inr (Or.inr rfl)) hS hmn (by omega) (by omega) (by omega) hw3 hP
      · unfold wp_Md_operate
        rw [ho]
        repeat first | refine bq_t (by decide) ?_ | refine bq_f (by decide) ?_
        unfold wp_Md_memories
        refine md_rs H.e9 H.rel (md_offset H.e9 (fun at_ eat => md_field H.e9 ?_))
        have eat : at_ = adr rg w := eat
        subst eat
        repeat first | refine bq_t (by decide) ?_ | refine bq_f (by decide) ?_
        try unfold wj_Md_fractionMemory_63
        have hm := M.m8
        have hS := M.hS
        have hmn := M.hmn
        have hw : mf (a / 4) = q_word bm (a / 4) := H.rel.2.2.2.2.2.2.2.2 _ (by omega)
        have e34 : (34 : Int32) + fI w 16 = nI (34 + j) := by rw [ej, show (34 : Int32) = nI 34 from rfl, nI_add]
        have e35 : (34 : Int32) + fI w 16 + 1 = nI (35 + j) := by rw [e34, nI_1]; congr 1; omega
        have ea4 : adr rg w + 4 = nI (a + 4) := by rw [ea, show (4 : Int32) = nI 4 from rfl, nI_add]
        have hodd : (fI w 16 &&& 1 = 0) ↔ j % 2 = 0 := by rw [ej, and1_n hj, show (0 : Int32) = nI 0 from rfl, nI_eq (by omega) (by decide)]
        have hodd1 : (fI w 16 &&& 1 = 1) ↔ ¬ j % 2 = 0 := by rw [ej, and1_n hj, show (1 : Int32) = nI 1 from rfl, nI_eq (by omega) (by decide)]; omega
        refine bq_f (fun q => hodd1.mp q he) ?_
        repeat first | refine bq_t (by decide) ?_ | refine bq_f (by decide) ?_
        refine md_gd (k := 8) M (Or.inr (Or.inr (Or.inr rfl))) (fun _ => ?_) (fun q => absurd hg q)
        refine bq_f (by decide) ?_
        unfold wj_Md_fractionMemory_83
        refine bq_t (by rw [H.e5]; decide) ?_
        repeat first | refine bq_t (by decide) ?_ | refine bq_f (by decide) ?_
        unfold wj_Md_fractionMemory_105
        refine ⟨in2_5, fun x ex => ⟨in2_5, fun y ey => ?_⟩⟩
        rw [c_2] at *
        subst ex
        repeat first | refine bq_t (by decide) ?_ | refine bq_f (by decide) ?_
        unfold wj_Md_fractionMemory_190
        rw [ey, e35, e34, ea4, ea]
        refine ⟨vp_in_nI (by omega) (by decide), fun v ev => ?_⟩
        rw [nI_clamp (by omega), show 35 + j = 34 + (j + 1) by omega, H.rel.2.2.2.2.1 (j + 1) (by omega)] at ev
        subst ev
        refine md_store (k := 4) (Or.inr (Or.inr rfl)) hS (by omega) (bq_f (by decide) ⟨vp_in_nI (by omega) (by decide), fun v ev => ?_⟩)
        dsimp only at ev
        rw [nI_clamp (by omega), H.rel.2.2.2.2.1 j hj] at ev
        subst ev
        exact md_store (k := 4) (Or.inr (Or.inr rfl)) hS (by omega) hQ
    · refine pfx_mk H 2 (fun L O => (g, rg, hq, mf, cd, fg, L, O)) (fun dd l1 l2 => (upd dd 5 2, l1, l2, bm, rr, kt)) (fun L O P hP => ?_) (fun dd l1 l2 H L O => ⟨oc_end (by unfold q_e; simp) H.rel H.nxt rfl (fun j _ h => pk_un h), fun Q hQ => ?_⟩) (fun _ _ _ _ => rfl) (fun _ _ _ _ _ hs => ⟨by repeat first | exact hs | apply lo_upd, rfl, rfl, rfl⟩) (by first | exact Or.inr (fun _ _ => rfl) | exact Or.inl (by unfold q_e; decide)) (fun _ _ _ => rfl)
      · unfold wp_Pr_perform
        refine pr_op ?_
        rw [ho]
        repeat first | refine bq_t (by decide) ?_ | refine bq_f (by decide) ?_
        unfold wp_Pr_access
        refine pr_op ?_
        rw [ho]
        repeat first | refine bq_t (by decide) ?_ | refine bq_f (by decide) ?_
        unfold wp_Pr_storeDouble
        refine pr_adr (pr_rt ?_)
        have hodd : (fI w 16 &&& 1 = 0) ↔ j % 2 = 0 := by rw [ej, and1_n hj, show (0 : Int32) = nI 0 from rfl, nI_eq (by omega) (by decide)]
        have hodd1 : (fI w 16 &&& 1 = 1) ↔ ¬ j % 2 = 0 := by rw [ej, and1_n hj, show (1 : Int32) = nI 1 from rfl, nI_eq (by omega) (by decide)]; omega
        refine bq_t (hodd.mpr he) ?_
        refine me_gd (k := 8) M (Or.inr (Or.inr (Or.inr rfl))) (fun q => absurd q hg) (fun _ => ?_)
        exact bq_t rfl hP
      · unfold wp_Md_operate
        rw [ho]
        repeat first | refine bq_t (by decide) ?_ | refine bq_f (by decide) ?_
        unfold wp_Md_memories
        refine md_rs H.e9 H.rel (md_offset H.e9 (fun at_ eat => md_field H.e9 ?_))
        have eat : at_ = adr rg w := eat
        subst eat
        repeat first | refine bq_t (by decide) ?_ | refine bq_f (by decide) ?_
        try unfold wj_Md_fractionMemory_63
        have hodd : (fI w 16 &&& 1 = 0) ↔ j % 2 = 0 := by rw [ej, and1_n hj, show (0 : Int32) = nI 0 from rfl, nI_eq (by omega) (by decide)]
        have hodd1 : (fI w 16 &&& 1 = 1) ↔ ¬ j % 2 = 0 := by rw [ej, and1_n hj, show (1 : Int32) = nI 1 from rfl, nI_eq (by omega) (by decide)]; omega
        refine bq_f (fun q => hodd1.mp q he) ?_
        repeat first | refine bq_t (by decide) ?_ | refine bq_f (by decide) ?_
        refine md_gd (k := 8) M (Or.inr (Or.inr (Or.inr rfl))) (fun q => absurd q hg) (fun _ => ?_)
        refine bq_t rfl (bq_t rfl (md_ends H.e5 ?_))
        unfold wj_Md_fractionMemory_83
        exact bq_f (show ¬ (2 : Int32) ≤ 0 by decide) hQ
  · refine pfx_mk H 8 (fun L O => (g, rg, hq, mf, cd, fg, L, O)) (fun dd l1 l2 => (upd dd 5 8, l1, l2, bm, rr, kt)) (fun L O P hP => ?_) (fun dd l1 l2 H L O => ⟨oc_end (by unfold q_e; simp) H.rel H.nxt rfl (fun j _ h => pk_un h), fun Q hQ => ?_⟩) (fun _ _ _ _ => rfl) (fun _ _ _ _ _ hs => ⟨by repeat first | exact hs | apply lo_upd, rfl, rfl, rfl⟩) (by first | exact Or.inr (fun _ _ => rfl) | exact Or.inl (by unfold q_e; decide)) (fun _ _ _ => rfl)
    · unfold wp_Pr_perform
      refine pr_op ?_
      rw [ho]
      repeat first | refine bq_t (by decide) ?_ | refine bq_f (by decide) ?_
      unfold wp_Pr_access
      refine pr_op ?_
      rw [ho]
      repeat first | refine bq_t (by decide) ?_ | refine bq_f (by decide) ?_
      unfold wp_Pr_storeDouble
      refine pr_adr (pr_rt ?_)
      have hodd : (fI w 16 &&& 1 = 0) ↔ j % 2 = 0 := by rw [ej, and1_n hj, show (0 : Int32) = nI 0 from rfl, nI_eq (by omega) (by decide)]
      have hodd1 : (fI w 16 &&& 1 = 1) ↔ ¬ j % 2 = 0 := by rw [ej, and1_n hj, show (1 : Int32) = nI 1 from rfl, nI_eq (by omega) (by decide)]; omega
      exact bq_f (fun q => he (hodd.mp q)) hP
    · unfold wp_Md_operate
      rw [ho]
      repeat first | refine bq_t (by decide) ?_ | refine bq_f (by decide) ?_
      unfold wp_Md_memories
      refine md_rs H.e9 H.rel (md_offset H.e9 (fun at_ eat => md_field H.e9 ?_))
      have eat : at_ = adr rg w := eat
      subst eat
      repeat first | refine bq_t (by decide) ?_ | refine bq_f (by decide) ?_
      try unfold wj_Md_fractionMemory_63
      have hodd : (fI w 16 &&& 1 = 0) ↔ j % 2 = 0 := by rw [ej, and1_n hj, show (0 : Int32) = nI 0 from rfl, nI_eq (by omega) (by decide)]
      have hodd1 : (fI w 16 &&& 1 = 1) ↔ ¬ j % 2 = 0 := by rw [ej, and1_n hj, show (1 : Int32) = nI 1 from rfl, nI_eq (by omega) (by decide)]; omega
      have k83 : ∀ d5 : Nat → Int32, d5 = upd dd 5 8 → wj_Md_fractionMemory_83 ms 61 (adr rg w) (fI w 16) (fun u => Q u) 1 0 d5 l1 l2 bm rr kt := by
        intro d5 e5
        subst e5
        unfold wj_Md_fractionMemory_83
        exact bq_f (show ¬ (8 : Int32) ≤ 0 by decide) hQ
      refine bq_t (hodd1.mpr he) (md_ends H.e5 ?_)
      repeat first | refine bq_t (by decide) ?_ | refine bq_f (by decide) ?_
      refine md_gd (k := 8) M (Or.inr (Or.inr (Or.inr rfl))) (fun _ => ?_) (fun _ => ?_)
      · exact bq_f (by decide) (k83 _ rfl)
      · exact bq_t rfl (bq_t rfl (md_ends_n (show ¬ (8 : Int32) = 0 by decide) (k83 _ rfl)))

end LS2
