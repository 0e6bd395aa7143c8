/-! ===== the reference's operations on all kinds ===== -/
def md2 (w : Int32) (a b : Nat) (nb : Int32) (dd : Nat → Int32) (l1 l2 : Int64) : Prop := dd 18 = fn w a ∧ dd 14 = fk w a ∧ (fk w a = 1 → dd 15 = iI (fp w a) ∧ l1 = lN (fA w a)) ∧ dd 19 = nb ∧ dd 16 = fk w b ∧ (fk w b = 1 → dd 17 = iI (fp w b) ∧ l2 = lN (fA w b))
section MO
variable {ms : Int32} {dd bm rr kt : Nat → Int32} {l1 l2 : Int64}
theorem md_noNumber {w : Int32} {P : Int64 → Prop} (h : P (rn_no w)) : wp_Md_noNumber w P := by
  unfold wp_Md_noNumber
  unfold rn_no at h
  exact ⟨fun c => by rw [if_pos c] at h; exact h, fun c => by rw [if_neg c] at h; exact h⟩
theorem md_second {w nb : Int32} {a b : Nat} {P : Int64 → Prop} (hd : md2 w a b nb dd l1 l2) (h3 : ¬ fk w b = 3) (h : P (rn_sg nb w (lN (fm w b)))) : wp_Md_secondBits ms dd l1 l2 bm rr kt w P := by
  obtain ⟨d18, d14, d15, d19, d16, d17⟩ := hd
  unfold wp_Md_secondBits
  rw [d16, d19]
  refine ⟨fun c => ?_, fun c => ⟨fun c2 => ?_, fun c2 => ?_⟩⟩
  · rw [fm_2 c] at h; exact md_endless h
  · rw [fm_0 c2] at h; exact md_signed h
  · have c1 : fk w b = 1 := by
      rcases fk_4 w b with q | q | q | q
      · exact absurd q c2
      · exact q
      · exact absurd q c
      · exact absurd q h3
    obtain ⟨e1, e2⟩ := d17 c1
    rw [e1, e2]
    have hA := fA_in (fk_1 c1)
    have hp := fp_in w b
    refine md_fin (X := fA w b) (j := 0) (by rw [Nat.pow_zero, Nat.div_one]) (by rw [Nat.pow_zero, Nat.mod_one]; decide) (by omega) (by omega) (fun q => absurd (by rw [Nat.pow_zero, Nat.mod_one]) q) (by omega) ?_
    rw [show fp w b - ((0 : Nat) : Int) = fp w b by omega, fm_rnX c1]
    exact h
theorem md_sum {w nb : Int32} {a b : Nat} {P : Int64 → Prop} (ha : fin w a) (hd : md2 w a b nb dd l1 l2) (h3 : ¬ fk w a = 3) (h4 : ¬ fk w b = 3) (h : P (sumB w (fn w a) a nb b)) : wp_Md_sum_JZJ ms dd l1 l2 bm rr kt (lN a) w P := by
  have hs := md_second (ms := ms) (bm := bm) (rr := rr) (kt := kt) (P := P) hd h4
  obtain ⟨d18, d14, d15, d19, d16, d17⟩ := id hd
  unfold sumB at h
  rw [if_neg (fun z => z.elim h3 h4)] at h
  rw [fm_id ha] at h
  have t99 : ¬ fk w a = 2 → ¬ fk w b = 2 → ¬ (fk w a = 0 ∧ fk w b = 0) → wj_Md_sum_JZJ_99 ms (lN a) w dd l1 l2 bm rr kt P := by
    intro n1 n2 n3
    rw [if_neg (fun z => n1 z.1), if_neg n1, if_neg n2, if_neg n3] at h
    by_cases c : fk w b = 0
    · rw [if_pos c] at h
      unfold wj_Md_sum_JZJ_99
      exact ⟨fun _ => h, fun q => absurd (d16.trans c) q⟩
    · rw [if_neg c] at h
      by_cases c2 : fk w a = 0
      · rw [if_pos c2] at h
        unfold wj_Md_sum_JZJ_99
        exact ⟨fun q => absurd (d16.symm.trans q) c, fun _ => ⟨fun _ => hs h, fun q => absurd (d14.trans c2) q⟩⟩
      · rw [if_neg c2] at h
        have ka : fk w a = 1 := by
          rcases fk_4 w a with q | q | q | q
          · exact absurd q c2
          · exact q
          · exact absurd q n1
          · exact absurd q h3
        have kb : fk w b = 1 := by
          rcases fk_4 w b with q | q | q | q
          · exact absurd q c
          · exact q
          · exact absurd q n2
          · exact absurd q h4
        obtain ⟨e1, e2⟩ := d15 ka
        obtain ⟨f1, f2⟩ := d17 kb
        subst e2; subst f2
        refine md_adF (fA_in (fk_1 ka)) (fA_in (fk_1 kb)) (fp_in w a) (fp_in w b) e1 f1 (by rw [d18, d19]; exact h) (by rw [d14]; exact c2) (by rw [d16]; exact c)
  have t36 : ¬ (fk w a = 2 ∧ fk w b = 2) → wj_Md_sum_JZJ_36 ms (lN a) w dd l1 l2 bm rr kt P := by
    intro n0
    rw [if_neg n0] at h
    unfold wj_Md_sum_JZJ_36 wj_Md_sum_JZJ_92 wj_Md_sum_JZJ_93
    rw [d14, d16, d18, d19]
    refine ⟨fun c => by rw [if_pos c] at h; exact h, fun c => ⟨fun c2 => ?_, fun c2 => ⟨fun c3 => ⟨fun c4 => ⟨fun c5 => ?_, fun c5 => ⟨fun c6 => ?_, fun c6 => ?_⟩⟩, fun c4 => t99 c c2 (fun z => c4 z.2)⟩, fun c3 => t99 c c2 (fun z => c3 z.1)⟩⟩⟩
    · rw [if_neg c, if_pos c2] at h; exact hs h
    · rw [if_neg c, if_neg c2, if_pos ⟨c3, c4⟩, if_pos (Or.inl c5)] at h; exact md_signed h
    · rw [if_neg c, if_neg c2, if_pos ⟨c3, c4⟩, if_pos (Or.inr c6)] at h; exact md_signed h
    · rw [if_neg c, if_neg c2, if_pos ⟨c3, c4⟩, if_neg (fun z => z.elim c5 c6)] at h; exact md_signed h
  unfold wp_Md_sum_JZJ
  rw [d14, d16, d18, d19]
  refine ⟨fun c => ⟨fun c2 => ⟨fun c3 => ?_, fun c3 => ?_⟩, fun c2 => t36 (fun z => c2 z.2)⟩, fun c => t36 (fun z => c z.1)⟩
  · rw [if_pos ⟨c, c2⟩, if_pos c3] at h; exact h
  · rw [if_pos ⟨c, c2⟩, if_neg c3] at h; exact md_noNumber h
theorem md_times {w nb : Int32} {a b : Nat} {P : Int64 → Prop} (hd : md2 w a b nb dd l1 l2) (h3 : ¬ fk w a = 3) (h4 : ¬ fk w b = 3) (h : P (mulB w (fn w a) a nb b)) : wp_Md_times ms dd l1 l2 bm rr kt w P := by
  obtain ⟨d18, d14, d15, d19, d16, d17⟩ := hd
  unfold mulB at h
  rw [if_neg (fun z => z.elim h3 h4)] at h
  have t33 : ∀ s, s = sgn2 (fn w a) nb → (fk w a = 2 ∨ fk w b = 2) → wj_Md_times_33 ms w dd l1 l2 bm rr kt P s := by
    intro s hs n0
    rw [if_pos n0] at h
    unfold wj_Md_times_33 wj_Md_times_47
    rw [d14, d16]
    refine ⟨fun c => ?_, fun c => ⟨fun c2 => ?_, fun c2 => ?_⟩⟩
    · rw [if_pos (Or.inl c)] at h; exact md_noNumber h
    · rw [if_pos (Or.inr c2)] at h; exact md_noNumber h
    · rw [if_neg (fun z => z.elim c c2)] at h; rw [hs]; exact md_endless h
  have t16 : ∀ s, s = sgn2 (fn w a) nb → wj_Md_times_16 ms w dd l1 l2 bm rr kt P s := by
    intro s hs
    unfold wj_Md_times_16 wj_Md_times_74
    rw [d14, d16]
    refine ⟨fun c => t33 s hs (Or.inl c), fun c => ⟨fun c2 => t33 s hs (Or.inr c2), fun c2 => ?_⟩⟩
    rw [if_neg (fun z => z.elim c c2)] at h
    refine ⟨fun c3 => ?_, fun c3 => ⟨fun c4 => ?_, fun c4 => ?_⟩⟩
    · rw [if_pos (Or.inl c3)] at h; rw [hs]; exact md_signed h
    · rw [if_pos (Or.inr c4)] at h; rw [hs]; exact md_signed h
    · rw [if_neg (fun z => z.elim c3 c4)] at h
      have ka : fk w a = 1 := by
        rcases fk_4 w a with q | q | q | q
        · exact absurd q c3
        · exact q
        · exact absurd q c
        · exact absurd q h3
      have kb : fk w b = 1 := by
        rcases fk_4 w b with q | q | q | q
        · exact absurd q c4
        · exact q
        · exact absurd q c2
        · exact absurd q h4
      obtain ⟨e1, e2⟩ := d15 ka
      obtain ⟨f1, f2⟩ := d17 kb
      subst e2; subst f2
      refine ⟨54, ?_⟩
      rw [hs]
      refine md_tml (fA_in (fk_1 ka)) (fA_in (fk_1 kb)) (fp_in w a) (fp_in w b) e1 f1 h 53 0 _ 0 0 (by decide) ?_ ?_ ?_
      · rw [show min 0 52 - min 0 44 = 0 from rfl, Nat.pow_zero, Nat.mul_one]
      · rw [Nat.pow_zero, Nat.mod_one, Nat.mul_zero, Nat.zero_div]
      · rw [Nat.pow_zero, Nat.mod_one, Nat.mul_zero, Nat.zero_mod]
        exact ⟨fun _ => rfl, fun _ => rfl⟩
  unfold wp_Md_times
  rw [d18, d19]
  exact ⟨fun c => t16 0 (by unfold sgn2; rw [if_pos c]), fun c => t16 1 (by unfold sgn2; rw [if_neg c])⟩
theorem md_by {w nb : Int32} {a b : Nat} {P : Int64 → Prop} (hd : md2 w a b nb dd l1 l2) (h3 : ¬ fk w a = 3) (h4 : ¬ fk w b = 3) (h : P (divB w (fn w a) a nb b)) : wp_Md_by ms dd l1 l2 bm rr kt w P := by
  obtain ⟨d18, d14, d15, d19, d16, d17⟩ := hd
  unfold divB at h
  rw [if_neg (fun z => z.elim h3 h4)] at h
  have t16 : ∀ s, s = sgn2 (fn w a) nb → wj_Md_by_16 ms w dd l1 l2 bm rr kt P s := by
    intro s hs
    rw [← hs] at h
    unfold wj_Md_by_16
    rw [d14, d16]
    refine ⟨fun c => ⟨fun c2 => ?_, fun c2 => ?_⟩, fun c => ⟨fun c2 => ?_, fun c2 => ⟨fun c3 => ⟨fun c4 => ?_, fun c4 => ?_⟩, fun c3 => ⟨fun c4 => ?_, fun c4 => ?_⟩⟩⟩⟩
    · rw [if_pos c, if_pos c2] at h; exact md_noNumber h
    · rw [if_pos c, if_neg c2] at h; exact md_endless h
    · rw [if_neg c, if_pos c2] at h; exact md_signed h
    · rw [if_neg c, if_neg c2, if_pos c3, if_pos c4] at h; exact md_noNumber h
    · rw [if_neg c, if_neg c2, if_pos c3, if_neg c4] at h; exact md_endless h
    · rw [if_neg c, if_neg c2, if_neg c3, if_pos c4] at h; exact md_signed h
    · rw [if_neg c, if_neg c2, if_neg c3, if_neg c4] at h
      have ka : fk w a = 1 := by
        rcases fk_4 w a with q | q | q | q
        · exact absurd q c4
        · exact q
        · exact absurd q c
        · exact absurd q h3
      have kb : fk w b = 1 := by
        rcases fk_4 w b with q | q | q | q
        · exact absurd q c3
        · exact q
        · exact absurd q c2
        · exact absurd q h4
      obtain ⟨e1, e2⟩ := d15 ka
      obtain ⟨f1, f2⟩ := d17 kb
      subst e2; subst f2
      have hA := fA_in (fk_1 ka)
      have hB := fA_in (fk_1 kb)
      refine ⟨61, ?_⟩
      exact md_byl hA hB (fp_in w a) (fp_in w b) e1 f1 h 60 0 0 (fA w a) (by decide) (by rw [Nat.pow_zero, Nat.mul_one, Nat.zero_mul, Nat.zero_add]) (by omega)
  unfold wp_Md_by
  rw [d18, d19]
  exact ⟨fun c => t16 0 (by unfold sgn2; rw [if_pos c]), fun c => t16 1 (by unfold sgn2; rw [if_neg c])⟩
/-- what all these leave of the reference's scalars -/
def mdlo (dd dd' : Nat → Int32) : Prop := ∀ j, j < 14 → dd' j = dd j
/-- the second sign, turned round for a difference -/
def fneg (n : Int32) : Int32 := if n = 0 then 1 else 0
/-- the bits of an operation on two -/
def twoB (f w : Int32) (a b : Nat) : Int64 := if f = 0 then sumB w (fn w a) a (fn w b) b else if f = 1 then sumB w (fn w a) a (fneg (fn w b)) b else if f = 2 then mulB w (fn w a) a (fn w b) b else divB w (fn w a) a (fn w b) b
theorem twoB_0 (w : Int32) (a b : Nat) : twoB 0 w a b = sumB w (fn w a) a (fn w b) b := by unfold twoB; rw [if_pos rfl]
theorem twoB_1 (w : Int32) (a b : Nat) : twoB 1 w a b = sumB w (fn w a) a (fneg (fn w b)) b := by unfold twoB; rw [if_neg (by decide), if_pos rfl]
theorem twoB_2 (w : Int32) (a b : Nat) : twoB 2 w a b = mulB w (fn w a) a (fn w b) b := by unfold twoB; rw [if_neg (by decide), if_neg (by decide), if_pos rfl]
theorem twoB_3 (w : Int32) (a b : Nat) : twoB 3 w a b = divB w (fn w a) a (fn w b) b := by unfold twoB; rw [if_neg (by decide), if_neg (by decide), if_neg (by decide)]
theorem twoB_no {f w : Int32} {a b : Nat} (hf : f = 0 ∨ f = 1 ∨ f = 2 ∨ f = 3) (q : fk w a = 3 ∨ fk w b = 3) : twoB f w a b = rn_no w := by
  rcases hf with rfl | rfl | rfl | rfl
  · rw [twoB_0]; unfold sumB; rw [if_pos q]
  · rw [twoB_1]; unfold sumB; rw [if_pos q]
  · rw [twoB_2]; unfold mulB; rw [if_pos q]
  · rw [twoB_3]; unfold divB; rw [if_pos q]
theorem md_two {f w : Int32} {a b : Nat} {P : Int64 → MdT → Prop} (ha : fin w a) (hb : fin w b) (hf : f = 0 ∨ f = 1 ∨ f = 2 ∨ f = 3)
    (h : ∀ dd' l1' l2', mdlo dd dd' → P (twoB f w a b) (dd', l1', l2', bm, rr, kt)) : wp_Md_two ms dd l1 l2 bm rr kt f (lN a) (lN b) w P := by
  unfold wp_Md_two
  refine md_take hb (fun d1 m1 o1 => ?_)
  obtain ⟨p0, p18, p14, p15⟩ := o1
  unfold wp_Md_aside
  dsimp only
  refine fun x ex y ey => ⟨by rw [ey, p18]; exact fn_bz w b, fun z ez => ?_⟩
  refine md_take ha (fun d2 m2 o2 => ?_)
  obtain ⟨r0, r18, r14, r15⟩ := o2
  have e16 : d2 16 = fk w b := by rw [r0 16 (by decide) (by decide) (by decide), pk_un (by decide), pk_un (by decide), pk_us, ex, p14]
  have e19 : d2 19 = fn w b := by rw [r0 19 (by decide) (by decide) (by decide), pk_un (by decide), pk_us, ey, p18]
  have e17 : fk w b = 1 → d2 17 = iI (fp w b) ∧ m1 = lN (fA w b) := fun q => by
    obtain ⟨q1, q2⟩ := p15 q
    exact ⟨by rw [r0 17 (by decide) (by decide) (by decide), pk_us, ez, q1], q2⟩
  have lo : mdlo dd d2 := fun j hj => by
    rw [r0 j (by omega) (by omega) (by omega), pk_un (by omega), pk_un (by omega), pk_un (by omega), p0 j (by omega) (by omega) (by omega)]
  have lo' : ∀ v, mdlo dd (upd d2 19 v) := fun v j hj => by rw [pk_un (by omega)]; exact lo j hj
  have s0 : md2 w a b (fn w b) d2 m2 m1 := ⟨r18, r14, r15, e19, e16, e17⟩
  have s1 : ∀ v, md2 w a b v (upd d2 19 v) m2 m1 := fun v => ⟨by rw [pk_un (by decide)]; exact r18, by rw [pk_un (by decide)]; exact r14, fun q => ⟨by rw [pk_un (by decide)]; exact (r15 q).1, (r15 q).2⟩, pk_us, by rw [pk_un (by decide)]; exact e16, fun q => ⟨by rw [pk_un (by decide)]; exact (e17 q).1, (e17 q).2⟩⟩
  have no : fk w a = 3 ∨ fk w b = 3 → P (rn_no w) (d2, m2, m1, bm, rr, kt) := by
    intro q
    have := h d2 m2 m1 lo
    rw [twoB_no hf q] at this
    exact this
  dsimp only
  rw [r14, e16, e19]
  refine ⟨fun c => md_noNumber (no (Or.inl c)), fun c => ⟨fun c2 => md_noNumber (no (Or.inr c2)), fun c2 => ⟨fun c3 => ?_, fun c3 => ⟨fun c4 => ⟨fun c5 => ?_, fun c5 => ?_⟩, fun c4 => ?_⟩⟩⟩⟩
  · subst c3
    rw [twoB_1] at h
    refine ⟨fun c5 => ⟨fun q => absurd q (by decide), fun _ => ?_⟩, fun c5 => ⟨fun q => absurd q (by decide), fun _ => ?_⟩⟩
    · refine md_sum ha (s1 1) c c2 ?_
      have := h (upd d2 19 1) m2 m1 (lo' 1)
      unfold fneg at this
      rw [if_pos c5] at this
      exact this
    · refine md_sum ha (s1 0) c c2 ?_
      have := h (upd d2 19 0) m2 m1 (lo' 0)
      unfold fneg at this
      rw [if_neg c5] at this
      exact this
  · subst c5
    rw [twoB_2] at h
    exact md_times s0 c c2 (h d2 m2 m1 lo)
  · rcases hf with rfl | rfl | rfl | rfl
    · exact absurd c4 (by decide)
    · exact absurd rfl c3
    · exact absurd rfl c5
    · rw [twoB_3] at h; exact md_by s0 c c2 (h d2 m2 m1 lo)
  · rcases hf with rfl | rfl | rfl | rfl
    · rw [twoB_0] at h; exact md_sum ha s0 c c2 (h d2 m2 m1 lo)
    · exact absurd rfl c3
    · exact absurd (by decide) c4
    · exact absurd (by decide) c4
end MO
