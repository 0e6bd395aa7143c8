/-! ===== p9 is false: put(0, BREAK), run(1), put(0, -1), pass() ===== -/
section RF
variable {ms : Int32} {mn S : Nat} {g rg hq mf : Nat → Int32} {cd : Int32} {fg : Nat → Int32} {L O : Fr4} {dd bm rr kt : Nat → Int32} {l1 l2 : Int64} {ov : Nat → Int64} {a0 a1 w : Int32} {a : Nat}
/-- put at a good address, the class's side and the reference's -/
theorem rf_put (M : mem ms mn S) (h1 : a + 4 ≤ S) (h2 : a % 4 = 0) (hw : mf (a / 4) = q_word bm (a / 4)) {P : Int32 → (CoT × (Nat → Int64)) → Prop}
    (hP : P 0 ((g, rg, hq, upd mf (a / 4) (q_word (stb bm a 4 a1) (a / 4)), cd, fg, L, O), vp_updL ov (0 : Int32).toNatClampNeg (q_word bm (a / 4)).toInt64)) : wp_La_put ms mn g rg hq mf cd fg L O ov (nI a) a1 P := by
  have hm := M.m8
  have hmn := M.hmn
  unfold wp_La_put wp_Co_put
  refine me_gd (k := 4) M (Or.inr (Or.inr (Or.inl rfl))) (fun _ => ?_) (fun q => absurd ⟨a, rfl, h1, h2⟩ q)
  refine bq_f (by decide) ?_
  refine me_rd (k := 4) (Or.inr (Or.inr rfl)) M.hS hmn h1 h2 (by omega) hw ?_
  rw [rd4_e]
  exact me_wrt (k := 4) (Or.inr (Or.inr rfl)) M.hS hmn h1 h2 (by omega) hw hP
theorem rf_mput (M : mem ms mn S) (h1 : a + 4 ≤ S) (h2 : a % 4 = 0) {Q : Int32 → MdT → Prop}
    (hQ : Q (q_word bm (a / 4)) (upd dd 0 0, l1, l2, stb bm a 4 a1, rr, kt)) : wp_Md_put_III ms dd l1 l2 bm rr kt (nI a) a1 Q := by
  unfold wp_Md_put_III
  refine md_gd (k := 4) M (Or.inr (Or.inr (Or.inl rfl))) (fun _ => ?_) (fun q => absurd ⟨a, rfl, h1, h2⟩ q)
  refine bq_f (by decide) ?_
  refine md_part (k := 4) (Or.inr (Or.inr rfl)) M.hS h1 h2 ?_
  rw [rd4_e]
  exact md_store (k := 4) (Or.inr (Or.inr rfl)) M.hS h1 hQ
/-- a step at a BREAK, the class's side and the reference's -/
theorem rf_step (M : mem ms mn S) (hp : g 0 = nI a) (h1 : a + 4 ≤ S) (h2 : a % 4 = 0) (hw : mf (a / 4) = w) (ho : zz_ushr w 26 = 0) (hf : w &&& 63 = 13) {P : CoT → Prop}
    (hP : P (upd (upd g 6 (zz_ushr w 6 &&& 1048575)) 5 6, rg, hq, mf, cd, fg, L, O)) : wp_Pr_step ms mn g rg hq mf cd fg L O P := by
  unfold wp_Pr_step
  rw [hp]
  refine me_good (k := 4) (Or.inr (Or.inr (Or.inl rfl))) M.hS M.h8 M.hms (fun _ => ⟨fun q => absurd q (by decide), fun _ => ?_⟩) (fun q => absurd ⟨a, rfl, h1, h2⟩ q)
  refine me_read4 h1 h2 M.hS M.hmn ?_
  rw [hw]
  unfold wp_Pr_perform
  refine pr_op ?_
  rw [ho]
  repeat first | refine bq_t (by decide) ?_ | refine bq_f (by decide) ?_
  unfold wp_Pr_special
  refine pr_fun ?_
  rw [hf]
  repeat first | refine bq_t (by decide) ?_ | refine bq_f (by decide) ?_
  unfold wp_Pr_jumpOrMoveOrCall
  refine pr_fun ?_
  rw [hf]
  repeat first | refine bq_t (by decide) ?_ | refine bq_f (by decide) ?_
  unfold wp_Pr_call
  intro x ex
  subst ex
  exact bq_f (by decide) hP
theorem rf_mstep (M : mem ms mn S) (hp : dd 3 = nI a) (h5 : dd 5 = 0) (h1 : a + 4 ≤ S) (h2 : a % 4 = 0) (hw : q_word bm (a / 4) = w) (ho : zz_ushr w 26 = 0) (hf : w &&& 63 = 13) {Q : MdT → Prop}
    (hQ : Q (upd (upd (upd (upd (upd dd 9 w) 11 0) 12 0) 13 0) 5 6, l1, l2, bm, rr, kt)) : wp_Md_step ms dd l1 l2 bm rr kt Q := by
  unfold wp_Md_step
  rw [hp]
  refine md_good (k := 4) (Or.inr (Or.inr (Or.inl rfl))) M.hS M.h8 M.hms (fun _ => ⟨fun q => absurd q (by decide), fun _ => ?_⟩) (fun q => absurd ⟨a, rfl, h1, h2⟩ q)
  refine md_part4 h1 h2 M.hS ?_
  rw [hw]
  have e9 : upd (upd (upd (upd dd 9 w) 11 0) 12 0) 13 0 9 = w := (pk_un (by decide)).trans ((pk_un (by decide)).trans ((pk_un (by decide)).trans pk_us))
  have e5 : upd (upd (upd (upd dd 9 w) 11 0) 12 0) 13 0 5 = 0 := (pk_un (by decide)).trans ((pk_un (by decide)).trans ((pk_un (by decide)).trans ((pk_un (by decide)).trans h5)))
  unfold wp_Md_operate
  rw [ho]
  repeat first | refine bq_t (by decide) ?_ | refine bq_f (by decide) ?_
  rw [e9, hf]
  unfold wp_Md_special
  repeat first | refine bq_t (by decide) ?_ | refine bq_f (by decide) ?_
  try unfold wp_Md_moves
  repeat first | refine bq_t (by decide) ?_ | refine bq_f (by decide) ?_
  have n5 : ¬ upd (upd (upd (upd (upd dd 9 w) 11 0) 12 0) 13 0) 5 6 5 ≤ 0 := by rw [pk_us]; decide
  exact md_ends e5 (bq_f n5 hQ)
/-- run(1) at a BREAK -/
theorem rf_run (M : mem ms mn S) (hp : g 0 = nI a) (hg : g 5 = 0) (h1 : a + 4 ≤ S) (h2 : a % 4 = 0) (hw : mf (a / 4) = w) (ho : zz_ushr w 26 = 0) (hf : w &&& 63 = 13) {P : Int32 → (CoT × (Nat → Int64)) → Prop}
    (hP : P 0 ((upd (upd g 6 (zz_ushr w 6 &&& 1048575)) 5 6, rg, hq, mf, cd, fg, L, O), vp_updL ov (0 : Int32).toNatClampNeg (0 : Int32).toInt64)) : wp_La_run ms mn g rg hq mf cd fg L O ov 1 P := by
  unfold wp_La_run wp_Co_run
  refine bq_f (by decide) (bq_t (by decide) (bq_t hg ⟨1, ?_⟩))
  rw [wl_Co_run_44]
  have n5 : ¬ upd (upd g 6 (zz_ushr w 6 &&& 1048575)) 5 6 5 = 0 := by rw [pk_us]; decide
  exact bq_f (by decide) (rf_step M hp h1 h2 hw ho hf (bq_f n5 hP))
theorem rf_mrun (M : mem ms mn S) (hp : dd 3 = nI a) (h5 : dd 5 = 0) (h1 : a + 4 ≤ S) (h2 : a % 4 = 0) (hw : q_word bm (a / 4) = w) (ho : zz_ushr w 26 = 0) (hf : w &&& 63 = 13) {Q : Int32 → MdT → Prop}
    (hQ : Q 0 (upd (upd (upd (upd (upd (upd dd 0 0) 9 w) 11 0) 12 0) 13 0) 5 6, l1, l2, bm, rr, kt)) : wp_Md_run ms dd l1 l2 bm rr kt 1 Q := by
  unfold wp_Md_run
  have k5 : dd 5 ≤ 0 := by rw [h5]; decide
  have u5 : upd dd 0 0 5 = 0 := (pk_un (by decide)).trans h5
  have u3 : upd dd 0 0 3 = nI a := (pk_un (by decide)).trans hp
  have n5 : ¬ upd (upd (upd (upd (upd (upd dd 0 0) 9 w) 11 0) 12 0) 13 0) 5 6 5 = 0 := by rw [pk_us]; decide
  refine bq_f (by decide) (bq_t (by decide) (bq_t k5 ⟨2, ?_⟩))
  rw [wl_Md_run_38]
  refine bq_f (by decide) (bq_t u5 (rf_mstep M u3 u5 h1 h2 hw ho hf (bq_f n5 ?_)))
  rw [wl_Md_run_38]
  exact bq_f (by decide) (bq_f n5 hQ)
/-- pass behind a BREAK -/
theorem rf_pass (hg : g 5 = 6) {P : Int32 → (CoT × (Nat → Int64)) → Prop} (hP : P 0 ((p_g g, rg, hq, mf, cd, fg, L, O), vp_updL ov (0 : Int32).toNatClampNeg (p_g g 6).toInt64)) : wp_La_pass ms mn g rg hq mf cd fg L O ov P := by
  unfold wp_La_pass wp_Co_pass
  refine bq_t hg ?_
  unfold wp_Pr_stepOver wp_Pr_move
  refine ⟨Or.inl rfl, fun x ex => ?_⟩
  have e7 : upd (upd (upd g 0 (g 1)) 1 (g 1 + 4)) 2 0 7 = g 7 := (pk_un (by decide)).trans ((pk_un (by decide)).trans (pk_un (by decide)))
  dsimp only at ex
  rw [e7] at ex
  subst ex
  exact hP
theorem rf_mpass (M : mem ms mn S) (hp : dd 3 = nI a) (h5 : dd 5 = 6) (h1 : a + 4 ≤ S) (h2 : a % 4 = 0) {Q : Int32 → MdT → Prop} (hQ : Q ((zz_ushr (q_word bm (a / 4)) 6) &&& 1048575) (mvd (p_d dd), l1, l2, bm, rr, mvk (p_d dd) kt)) : wp_Md_pass ms dd l1 l2 bm rr kt Q := by
  unfold wp_Md_pass
  refine bq_t h5 ?_
  rw [hp]
  refine md_part4 h1 h2 M.hS (fun x ex => ?_)
  subst ex
  have e12 : p_d dd 12 = 0 := (pk_un (by decide)).trans pk_us
  exact md_moveOn (Or.inl e12) hQ
end RF
/-! ===== the script, and the law's loop over it ===== -/
def rf_l : List Int32 := [0, 0, 0, 13, 5, 1, 0, 0, 0, -1, 7, 0, 0]
def rf_x (j : Nat) : Int32 := rf_l.getD j 0
theorem rf_q1 : q_word (stb (fun _ => 0) 0 4 13) (0 / 4) = 13 := by decide +kernel
theorem rf_q2 : q_word (stb (stb (fun _ => 0) 0 4 13) 0 4 (-1)) (0 / 4) = -1 := by decide +kernel
theorem rf_m0 : (0 : Int32) = q_word (fun _ => 0) (0 / 4) := by decide +kernel
theorem rf_in {i : Nat} (h : i < 13) : vp_in (nI i) 13 := vp_in_nI h (by omega)
theorem rf_M : mem (nI 1024) 256 1024 := ⟨by decide, by decide, rfl, by decide, by decide⟩
theorem rf_ne : ¬ ((0 : Int32).toInt64 = ((zz_ushr (-1) 6) &&& 1048575).toInt64) := by decide +kernel
section RL
variable {g rg hq mf : Nat → Int32} {cd : Int32} {fg : Nat → Int32} {L O : Fr4} {dd bm rr kt : Nat → Int32} {l1 l2 : Int64} {ov : Nat → Int64} {n : Nat}
set_option maxHeartbeats 4000000 in
set_option maxRecDepth 100000 in
/-- pass(): the class answers the BREAK's code, the reference the bits of the word that lies there now -/
theorem rf_c4 (g5 : g 5 = 6) (g6 : g 6 = 0) (d3 : dd 3 = nI 0) (d5 : dd 5 = 6) (hw : q_word bm (0 / 4) = -1) : wl_law 13 rf_x (nI 1024) 256 (nI 1024) (n + 1) (nI 10) g rg hq mf cd fg L O ov dd l1 l2 bm rr kt := by
  rw [wl_law]
  intro x0 e0
  subst e0
  refine ⟨fun q => absurd q (by decide), fun _ => ⟨rf_in (by decide), fun x3 e3 => ?_⟩⟩
  have e3 : x3 = 7 := e3.trans (by decide)
  subst e3
  refine bq_f (by decide) (bq_f (by decide) (bq_f (by decide) (bq_f (by decide) (bq_f (by decide) (bq_f (by decide) (bq_f (by decide) (bq_t (by decide) ?_)))))))
  refine rf_pass g5 (rf_mpass rf_M d3 d5 (by decide) (by decide) ?_)
  unfold wp_Md_thrown
  refine ⟨fun _ => ⟨fun _ x ex => ⟨fun q => absurd (ex.symm.trans q) ?_, fun _ => trivial⟩, fun q => absurd rfl q⟩, fun _ => trivial⟩
  have e6 : p_g g 6 = 0 := (pk_un (by decide)).trans ((pk_un (by decide)).trans ((pk_un (by decide)).trans ((pk_un (by decide)).trans ((pk_un (by decide)).trans g6))))
  rw [hw]
  have ev : vp_updL ov (0 : Int32).toNatClampNeg (p_g g 6).toInt64 (0 : Int32).toNatClampNeg = (0 : Int32).toInt64 := by rw [e6]; exact pk_uLs
  exact fun q => rf_ne (ev.symm.trans q)
set_option maxHeartbeats 4000000 in
set_option maxRecDepth 100000 in
/-- put(0, -1) over the BREAK -/
theorem rf_c3 (g5 : g 5 = 6) (g6 : g 6 = 0) (d3 : dd 3 = nI 0) (d5 : dd 5 = 6) (hm : mf (0 / 4) = q_word bm (0 / 4)) (hw : q_word (stb bm 0 4 (-1)) (0 / 4) = -1) : wl_law 13 rf_x (nI 1024) 256 (nI 1024) (n + 1 + 1) (nI 7) g rg hq mf cd fg L O ov dd l1 l2 bm rr kt := by
  rw [wl_law]
  intro x0 e0
  subst e0
  refine ⟨fun q => absurd q (by decide), fun _ => ⟨rf_in (by decide), fun x3 e3 => ?_⟩⟩
  have e3 : x3 = 0 := e3.trans (by decide)
  subst e3
  refine bq_t (by decide) ⟨rf_in (i := 8) (by decide), fun x5 e5 => ⟨rf_in (i := 9) (by decide), fun x6 e6 => ?_⟩⟩
  have e5 : x5 = nI 0 := e5.trans (by decide)
  have e6 : x6 = -1 := e6.trans (by decide)
  subst e5; subst e6
  refine rf_put (bm := bm) rf_M (by decide) (by decide) hm ⟨rf_in (i := 8) (by decide), fun x9 e9 => ⟨rf_in (i := 9) (by decide), fun x10 e10 => ?_⟩⟩
  have e9 : x9 = nI 0 := e9.trans (by decide)
  have e10 : x10 = -1 := e10.trans (by decide)
  subst e9; subst e10
  refine rf_mput rf_M (by decide) (by decide) (fun x13 e13 => ?_)
  have e13 : x13 = nI 10 := e13.trans (by decide)
  subst e13
  have f3 : upd dd 0 0 3 = nI 0 := (pk_un (by decide)).trans d3
  have f5 : upd dd 0 0 5 = 6 := (pk_un (by decide)).trans d5
  exact rf_c4 g5 g6 f3 f5 hw
set_option maxHeartbeats 4000000 in
set_option maxRecDepth 100000 in
/-- run(1): the BREAK ends it -/
theorem rf_c2 (g0 : g 0 = nI 0) (g5 : g 5 = 0) (d3 : dd 3 = nI 0) (d5 : dd 5 = 0) (hm : mf (0 / 4) = 13) (hb : q_word bm (0 / 4) = 13) (hw : q_word (stb bm 0 4 (-1)) (0 / 4) = -1) : wl_law 13 rf_x (nI 1024) 256 (nI 1024) (n + 1 + 1 + 1) (nI 4) g rg hq mf cd fg L O ov dd l1 l2 bm rr kt := by
  rw [wl_law]
  intro x0 e0
  subst e0
  refine ⟨fun q => absurd q (by decide), fun _ => ⟨rf_in (by decide), fun x3 e3 => ?_⟩⟩
  have e3 : x3 = 5 := e3.trans (by decide)
  subst e3
  refine bq_f (by decide) (bq_f (by decide) (bq_f (by decide) (bq_f (by decide) (bq_f (by decide) (bq_t (by decide) ⟨rf_in (i := 5) (by decide), fun x5 e5 => ?_⟩)))))
  have e5 : x5 = 1 := e5.trans (by decide)
  subst e5
  refine rf_run (w := 13) rf_M g0 g5 (by decide) (by decide) hm (by decide) (by decide) ⟨rf_in (i := 5) (by decide), fun x9 e9 => ?_⟩
  have e9 : x9 = 1 := e9.trans (by decide)
  subst e9
  refine rf_mrun (w := 13) rf_M d3 d5 (by decide) (by decide) hb (by decide) (by decide) (fun x13 e13 => ?_)
  have e13 : x13 = nI 7 := e13.trans (by decide)
  subst e13
  have k5 : upd (upd g 6 (zz_ushr 13 6 &&& 1048575)) 5 6 5 = 6 := pk_us
  have k6 : upd (upd g 6 (zz_ushr 13 6 &&& 1048575)) 5 6 6 = 0 := (pk_un (by decide)).trans (pk_us.trans (by decide))
  have f5 : upd (upd (upd (upd (upd (upd dd 0 0) 9 13) 11 0) 12 0) 13 0) 5 6 5 = 6 := pk_us
  have f3 : upd (upd (upd (upd (upd (upd dd 0 0) 9 13) 11 0) 12 0) 13 0) 5 6 3 = nI 0 := (pk_un (by decide)).trans ((pk_un (by decide)).trans ((pk_un (by decide)).trans ((pk_un (by decide)).trans ((pk_un (by decide)).trans ((pk_un (by decide)).trans d3)))))
  exact rf_c3 k5 k6 f3 f5 (hm.trans hb.symm) hw
set_option maxHeartbeats 4000000 in
set_option maxRecDepth 100000 in
/-- put(0, 13): a BREAK -/
theorem rf_c1 (g0 : g 0 = nI 0) (g5 : g 5 = 0) (d3 : dd 3 = nI 0) (d5 : dd 5 = 0) (hm : mf (0 / 4) = q_word bm (0 / 4)) (hb : q_word (stb bm 0 4 13) (0 / 4) = 13) (hw : q_word (stb (stb bm 0 4 13) 0 4 (-1)) (0 / 4) = -1) : wl_law 13 rf_x (nI 1024) 256 (nI 1024) (n + 1 + 1 + 1 + 1) (nI 1) g rg hq mf cd fg L O ov dd l1 l2 bm rr kt := by
  rw [wl_law]
  intro x0 e0
  subst e0
  refine ⟨fun q => absurd q (by decide), fun _ => ⟨rf_in (by decide), fun x3 e3 => ?_⟩⟩
  have e3 : x3 = 0 := e3.trans (by decide)
  subst e3
  refine bq_t (by decide) ⟨rf_in (i := 2) (by decide), fun x5 e5 => ⟨rf_in (i := 3) (by decide), fun x6 e6 => ?_⟩⟩
  have e5 : x5 = nI 0 := e5.trans (by decide)
  have e6 : x6 = 13 := e6.trans (by decide)
  subst e5; subst e6
  refine rf_put (bm := bm) rf_M (by decide) (by decide) hm ⟨rf_in (i := 2) (by decide), fun x9 e9 => ⟨rf_in (i := 3) (by decide), fun x10 e10 => ?_⟩⟩
  have e9 : x9 = nI 0 := e9.trans (by decide)
  have e10 : x10 = 13 := e10.trans (by decide)
  subst e9; subst e10
  refine rf_mput rf_M (by decide) (by decide) (fun x13 e13 => ?_)
  have e13 : x13 = nI 4 := e13.trans (by decide)
  subst e13
  have f3 : upd dd 0 0 3 = nI 0 := (pk_un (by decide)).trans d3
  have f5 : upd dd 0 0 5 = 0 := (pk_un (by decide)).trans d5
  have fm : upd mf (0 / 4) (q_word (stb bm 0 4 13) (0 / 4)) (0 / 4) = 13 := pk_us.trans hb
  exact rf_c2 g0 g5 f3 f5 fm hb hw
end RL
theorem rf_owed : zz_owed 13 rf_x 0 := by
  refine ⟨4, by decide, ?_⟩
  rw [show zz_size 0 = nI 1024 by decide +kernel, show (nI 1024 / 4).toNatClampNeg = 256 by decide +kernel]
  exact rf_c1 (n := 0) rfl rfl rfl rfl rf_m0 rf_q1 rf_q2
theorem rf_pays : (Int32.ofNat 13 ≤ (0 : Int32) → zz_owed 13 rf_x 0) ∧ (¬ Int32.ofNat 13 ≤ (0 : Int32) → vp_in (0 : Int32) 13 ∧ zz_owed 13 rf_x (rf_x (0 : Int32).toNatClampNeg)) := ⟨fun _ => rf_owed, fun _ => ⟨rf_in (i := 0) (by decide), rf_owed⟩⟩
