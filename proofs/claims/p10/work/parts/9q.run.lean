/-! ===== the calls: run, pass, put, word, and the rest ===== -/
section STEP
variable {ms : Int32} {mn S : Nat} {g rg hq mf : Nat → Int32} {cd : Int32} {fg : Nat → Int32} {L O : Fr4} {dd bm rr kt : Nat → Int32} {l1 l2 : Int64} {w : Int32}
/-- what is known of the end: none or one of the eight; behind a BREAK or SYSCALL, PC is good -/
def q_kd (S : Nat) (e p : Int32) : Prop := ((e = 6 ∨ e = 7) → q_gd S 4 p) ∧ (e = 0 ∨ q_e e)
theorem step_ek (hS : S ≤ 262144) (hS8 : 8 ≤ S) (hms : ms = nI S) (hmn : mn = S / 4) (h : q_st mn (g, rg, hq, mf, cd, fg, L, O) (dd, l1, l2, bm, rr, kt)) (h5 : g 5 = 0)
    (hp : ∀ (w : Int32) (dd' : Nat → Int32), pre mn g rg hq mf cd fg w dd' bm rr kt → pfx ms mn g rg hq mf cd fg w dd' bm rr kt) :
    ∃ (u : CoT) (v : MdT), (q_st mn u v ∧ q_kd S (u.1 5) (u.1 0) ∧ v.1 0 = dd 0) ∧ (∀ (L O : Fr4) (P : CoT → Prop), (∀ L' O', P (u.1, u.2.1, u.2.2.1, u.2.2.2.1, u.2.2.2.2.1, u.2.2.2.2.2.1, L', O')) → wp_Pr_step ms mn g rg hq mf cd fg L O P) ∧ (∀ v0 : MdT, vs9 (dd, l1, l2, bm, rr, kt) v0 → ∀ Q : MdT → Prop, (∀ v', vs9 v v' → Q v') → wp_Md_step ms v0.1 v0.2.1 v0.2.2.1 v0.2.2.2.1 v0.2.2.2.2.1 v0.2.2.2.2.2 Q) := by
  obtain ⟨hr, hn⟩ := id h
  obtain ⟨r1, r2, r3, r4, r5, r6, r7, r8, r9⟩ := id hr
  dsimp only at *
  have e3 : dd 3 = g 0 := r7.1
  have e5 : dd 5 = 0 := by rw [r7.2.2.1, h5]
  by_cases c : q_gd S 4 (g 0)
  · obtain ⟨a, ea, ha, h4⟩ := id c
    have hw : mf (a / 4) = q_word bm (a / 4) := r9 _ (by omega)
    obtain ⟨r, u, v, ⟨o, oz, ot⟩, k1, k2⟩ := hp (mf (a / 4)) (upd (upd (upd (upd dd 9 (mf (a / 4))) 11 0) 12 0) 13 0) ⟨hr, hn, e5, rfl, rfl, rfl, rfl⟩
    have cls : ∀ (L O : Fr4) (P : CoT → Prop), (∀ L' O', ((r ≤ (0 : Int32) → ((r = (-1 : Int32) → P (upd u.1 7 (u.1 7 + 1), u.2.1, u.2.2.1, u.2.2.2.1, u.2.2.2.2.1, u.2.2.2.2.2.1, L', O')) ∧ (¬ r = (-1 : Int32) → P (upd (upd (upd (upd u.1 0 (u.1 1)) 1 (u.1 1 + 4)) 2 0) 7 (u.1 7 + 1), u.2.1, u.2.2.1, u.2.2.2.1, u.2.2.2.2.1, u.2.2.2.2.2.1, L', O')))) ∧ (¬ r ≤ (0 : Int32) → P (upd u.1 5 r, u.2.1, u.2.2.1, u.2.2.2.1, u.2.2.2.2.1, u.2.2.2.2.2.1, L', O')))) → wp_Pr_step ms mn g rg hq mf cd fg L O P := by
      intro L O P hP
      unfold wp_Pr_step
      refine me_good (k := 4) (Or.inr (Or.inr (Or.inl rfl))) hS hS8 hms (fun _ => ⟨fun q => absurd q (by decide), fun _ => ?_⟩) (fun q => absurd c q)
      rw [ea]
      refine me_read4 ha h4 hS hmn (k1 L O _ (fun L' O' => ?_))
      obtain ⟨z1, z2⟩ := hP L' O'
      refine ⟨fun q => ⟨fun q2 x ex => ?_, fun q2 => ?_⟩, fun q => z2 q⟩
      · subst ex; exact (z1 q).1 q2
      · unfold wp_Pr_move
        refine ⟨Or.inl rfl, fun x ex => ?_⟩
        subst ex
        exact (z1 q).2 q2
    have ref : ∀ v0 : MdT, vs9 (dd, l1, l2, bm, rr, kt) v0 → ∀ Q : MdT → Prop, (∀ v', vsim v v' → ((v'.1 5 ≤ 0 → zz_bz (v'.1 12) ∧ Q (mvd v'.1, v'.2.1, v'.2.2.1, v'.2.2.2.1, v'.2.2.2.2.1, mvk v'.1 v'.2.2.2.2.2)) ∧ (¬ v'.1 5 ≤ 0 → Q v'))) → wp_Md_step ms v0.1 v0.2.1 v0.2.2.1 v0.2.2.2.1 v0.2.2.2.2.1 v0.2.2.2.2.2 Q := by
      intro v0 h0 Q hQ
      obtain ⟨a1, a2, a3, a4⟩ := h0
      dsimp only at a1 a2 a3 a4
      rw [a2, a3, a4]
      have e30 : v0.1 3 = g 0 := by rw [a1 3 (by decide) (by decide)]; exact e3
      unfold wp_Md_step
      refine md_good (k := 4) (Or.inr (Or.inr (Or.inl rfl))) hS hS8 hms (fun _ => ⟨fun q => absurd q (by decide), fun _ => ?_⟩) (fun q => absurd (by rw [e30]; exact c) q)
      rw [e30, ea]
      refine md_part4 ha h4 hS ?_
      rw [← hw]
      refine k2 _ _ _ ?_ _ (fun v' hv' => ⟨fun q => ?_, fun q => (hQ v' hv').2 q⟩)
      · intro j hj
        by_cases d13 : j = 13
        · subst d13; rfl
        · rw [pk_un d13, pk_un d13]
          by_cases d12 : j = 12
          · subst d12; rfl
          · rw [pk_un d12, pk_un d12]
            by_cases d11 : j = 11
            · subst d11; rfl
            · rw [pk_un d11, pk_un d11]
              by_cases d9 : j = 9
              · subst d9; rfl
              · rw [pk_un d9, pk_un d9]
                exact a1 j (by omega) d9
      · exact md_moveOn ((hQ v' hv').1 q).1 ((hQ v' hv').1 q).2
    have m9 : ∀ v', vsim v v' → vs9 (mvd v.1, v.2.1, v.2.2.1, v.2.2.2.1, v.2.2.2.2.1, mvk v.1 v.2.2.2.2.2) (mvd v'.1, v'.2.1, v'.2.2.1, v'.2.2.2.1, v'.2.2.2.2.1, mvk v'.1 v'.2.2.2.2.2) := by
      rintro v' ⟨b1, b2, b3, b4⟩
      refine ⟨fun j hj _ => (mv9 (kt := v.2.2.2.2.2) b1).1 j hj, b2, b3, ?_⟩
      dsimp only
      rw [b4]
      exact (mv9 b1).2
    have ot : v.1 0 = dd 0 := ot
    have om : mvd v.1 0 = dd 0 := by
      have e : mvd v.1 0 = v.1 0 := by unfold mvd; split <;> rfl
      rw [e]; exact ot
    have n67 : ∀ {u' : CoT}, q_st mn u' (mvd v.1, v.2.1, v.2.2.1, v.2.2.2.1, v.2.2.2.2.1, mvk v.1 v.2.2.2.2.2) → v.1 5 = 0 → q_kd S (u'.1 5) (u'.1 0) := by
      intro u' hst h0
      have e := hst.1.2.2.2.2.2.2.1.2.2.1
      have e2 : mvd v.1 5 = v.1 5 := by unfold mvd; split <;> rfl
      dsimp only at e
      rw [e2, h0] at e
      rw [← e]
      exact ⟨fun q => by rcases q with q | q <;> exact absurd q (by decide), Or.inl rfl⟩
    rcases o with ⟨o1, o2, o3⟩ | ⟨o1, o2, o3, o4⟩ | ⟨o1, o2, o3, o4⟩
    · refine ⟨_, _, ⟨o3, ⟨fun _ => ?_, Or.inr o1⟩, ot⟩, fun L O P hP => cls L O P (fun L' O' => ⟨fun q => absurd q (q_e_pos o1), fun _ => hP L' O'⟩), fun v0 h0 Q hQ => ref v0 h0 Q (fun v' hv' => ⟨fun q => ?_, fun _ => hQ v' ⟨fun j hj _ => hv'.1 j (by omega), hv'.2⟩⟩)⟩
      · show q_gd S 4 (u.1 0)
        rcases oz with q | q
        · exact absurd o1 q
        · rw [q]; exact c
      · rw [hv'.1 5 (by decide), o2] at q; exact absurd q (q_e_pos o1)
    · refine ⟨_, _, ⟨o4, n67 o4 o2, om⟩, fun L O P hP => cls L O P (fun L' O' => ?_), fun v0 h0 Q hQ => ref v0 h0 Q (fun v' hv' => ⟨fun q => ⟨?_, hQ _ (m9 v' hv')⟩, fun q => absurd (by rw [hv'.1 5 (by decide), o2]; decide) q⟩)⟩
      · rw [o1]
        exact ⟨fun _ => ⟨fun q => absurd q (by decide), fun _ => hP L' O'⟩, fun q => absurd (by decide) q⟩
      · rw [hv'.1 12 (by decide)]; exact o3
    · refine ⟨_, _, ⟨o4, n67 o4 o2, om⟩, fun L O P hP => cls L O P (fun L' O' => ?_), fun v0 h0 Q hQ => ref v0 h0 Q (fun v' hv' => ⟨fun q => ⟨?_, hQ _ (m9 v' hv')⟩, fun q => absurd (by rw [hv'.1 5 (by decide), o2]; decide) q⟩)⟩
      · rw [o1]
        exact ⟨fun _ => ⟨fun _ => hP L' O', fun q => absurd rfl q⟩, fun q => absurd (by decide) q⟩
      · rw [hv'.1 12 (by decide)]; exact o3
  · refine ⟨(upd g 5 1, rg, hq, mf, cd, fg, L, O), (upd dd 5 1, l1, l2, bm, rr, kt), ⟨⟨?_, hn⟩, ⟨fun q => q.elim (fun z => absurd (show (1 : Int32) = 6 from z) (by decide)) (fun z => absurd (show (1 : Int32) = 7 from z) (by decide)), Or.inr (Or.inl rfl)⟩, rfl⟩, fun L O P hP => ?_, fun v0 h0 Q hQ => ?_⟩
    · exact ⟨r1, r2, r3, r4, r5, r6, ⟨r7.1, r7.2.1, rfl, r7.2.2.2⟩, r8, r9⟩
    · unfold wp_Pr_step
      exact me_good (k := 4) (Or.inr (Or.inr (Or.inl rfl))) hS hS8 hms (fun q => absurd q c) (fun _ => ⟨fun _ => hP L O, fun q => absurd rfl q⟩)
    · obtain ⟨a1, a2, a3, a4⟩ := h0
      dsimp only at a1 a2 a3 a4
      have e30 : v0.1 3 = g 0 := by rw [a1 3 (by decide) (by decide)]; exact e3
      unfold wp_Md_step
      refine md_good (k := 4) (Or.inr (Or.inr (Or.inl rfl))) hS hS8 hms (fun q => absurd (by rw [e30] at q; exact q) c) (fun _ => ⟨fun _ => hQ _ ⟨fun j hj h9 => ?_, a2, a3, a4⟩, fun q => absurd rfl q⟩)
      dsimp only
      by_cases d : j = 5
      · subst d; rfl
      · rw [pk_un d, pk_un d]; exact a1 j hj h9
end STEP
/-- the relation between calls: and behind a BREAK or SYSCALL, PC is good -/
def q_ok (S mn : Nat) (u : CoT) (v : MdT) : Prop := q_st mn u v ∧ q_kd S (u.1 5) (u.1 0)
section RUN
variable {ms : Int32} {mn S : Nat} {u : CoT} {v : MdT} {ov : Nat → Int64} {a0 a1 : Int32}
theorem step_ok (M : mem ms mn S) (h : q_ok S mn u v) (h5 : u.1 5 = 0) :
    ∃ (u' : CoT) (v' : MdT), (q_ok S mn u' v' ∧ v'.1 0 = v.1 0) ∧ (∀ (L O : Fr4) (P : CoT → Prop), (∀ L' O', P (u'.1, u'.2.1, u'.2.2.1, u'.2.2.2.1, u'.2.2.2.2.1, u'.2.2.2.2.2.1, L', O')) → wp_Pr_step ms mn u.1 u.2.1 u.2.2.1 u.2.2.2.1 u.2.2.2.2.1 u.2.2.2.2.2.1 L O P) ∧ (∀ v0 : MdT, vs9 v v0 → ∀ Q : MdT → Prop, (∀ v'', vs9 v' v'' → Q v'') → wp_Md_step ms v0.1 v0.2.1 v0.2.2.1 v0.2.2.2.1 v0.2.2.2.2.1 v0.2.2.2.2.2 Q) := by
  obtain ⟨g, rg, hq, mf, cd, fg, L, O⟩ := u
  obtain ⟨dd, l1, l2, bm, rr, kt⟩ := v
  obtain ⟨u', v', ⟨x1, x2, x3⟩, y, z⟩ := step_ek M.hS M.h8 M.hms M.hmn h.1 h5 (fun w dd' H => all_op H M)
  exact ⟨u', v', ⟨⟨x1, x2⟩, x3⟩, y, z⟩
theorem run_rel (M : mem ms mn S) {N : Nat} (hN : N ≤ 10000) : ∀ (d i : Nat) (u : CoT) (v : MdT), i + d = N → q_ok S mn u v → u.1 5 = 0 →
    ∃ (c : Int32) (u' : CoT) (v' : MdT), (q_ok S mn u' v' ∧ v'.1 0 = v.1 0) ∧ (∀ (L O : Fr4) (P : Int32 → CoT → Prop), (∀ L' O', P c (u'.1, u'.2.1, u'.2.2.1, u'.2.2.2.1, u'.2.2.2.2.1, u'.2.2.2.2.2.1, L', O')) → wl_Co_run_44 ms mn (nI N) P (d + 1) (nI i) u.1 u.2.1 u.2.2.1 u.2.2.2.1 u.2.2.2.2.1 u.2.2.2.2.2.1 L O) ∧ (∀ v0 : MdT, vs9 v v0 → ∀ Q : Int32 → MdT → Prop, (∀ v'', vs9 v' v'' → Q c v'') → wl_Md_run_38 ms (nI N) Q (d + 2) (nI i) v0.1 v0.2.1 v0.2.2.1 v0.2.2.2.1 v0.2.2.2.2.1 v0.2.2.2.2.2) := by
  intro d
  induction d with
  | zero =>
    intro i u v hi h h5
    have e : i = N := by omega
    subst e
    refine ⟨nI i, u, v, ⟨h, rfl⟩, fun L O P hP => ?_, fun v0 h0 Q hQ => ?_⟩
    · rw [wl_Co_run_44]; exact bq_t (nI_le (Nat.le_refl _) (by omega)) (hP L O)
    · rw [wl_Md_run_38]; exact bq_t (nI_le (Nat.le_refl _) (by omega)) (hQ v0 h0)
  | succ d ih =>
    intro i u v hi h h5
    obtain ⟨u1, v1, ⟨k1, t1⟩, c1, m1⟩ := step_ok M h h5
    have hlt : ¬ nI N ≤ nI i := nI_ge (by omega) (by omega)
    have e5 : ∀ {u : CoT} {v : MdT}, q_ok S mn u v → v.1 5 = u.1 5 := fun h => h.1.1.2.2.2.2.2.2.1.2.2.1
    have d5 : ∀ v0, vs9 v v0 → v0.1 5 = 0 := fun v0 h0 => by rw [h0.1 5 (by decide) (by decide), e5 h, h5]
    by_cases z : u1.1 5 = 0
    · obtain ⟨c, u', v', ⟨k2, t2⟩, c2, m2⟩ := ih (i + 1) u1 v1 (by omega) k1 z
      refine ⟨c, u', v', ⟨k2, t2.trans t1⟩, fun L O P hP => ?_, fun v0 h0 Q hQ => ?_⟩
      · rw [wl_Co_run_44]
        refine bq_f hlt (c1 L O _ (fun L' O' => bq_t z (fun x ex => ?_)))
        rw [nI_1] at ex
        subst ex
        exact c2 L' O' P hP
      · rw [wl_Md_run_38]
        refine bq_f hlt (bq_t (d5 v0 h0) (m1 v0 h0 _ (fun v2 h2 => bq_t ?_ (fun x ex => ?_))))
        · rw [h2.1 5 (by decide) (by decide), e5 k1, z]
        · rw [nI_1] at ex
          subst ex
          exact m2 v2 h2 Q hQ
    · refine ⟨nI i, u1, v1, ⟨k1, t1⟩, fun L O P hP => ?_, fun v0 h0 Q hQ => ?_⟩
      · rw [wl_Co_run_44]
        exact bq_f hlt (c1 L O _ (fun L' O' => bq_f z (hP L' O')))
      · rw [wl_Md_run_38]
        have n5 : ∀ v2, vs9 v1 v2 → ¬ v2.1 5 = 0 := fun v2 h2 q => z (by rw [← e5 k1, ← h2.1 5 (by decide) (by decide)]; exact q)
        refine bq_f hlt (bq_t (d5 v0 h0) (m1 v0 h0 _ (fun v2 h2 => bq_f (n5 v2 h2) ?_)))
        rw [wl_Md_run_38]
        exact bq_f hlt (bq_f (n5 v2 h2) (hQ v2 h2))
end RUN
