/-! ===== the pure side: what the class's state and the reference's state have to do with each other ===== -/
abbrev Fr4 : Type := Int32 × Int32 × Int32 × Int64
/-- four bytes as a word, the highest first -/
def q_word (bm : Nat → Int32) (k : Nat) : Int32 := (zz_shl ((zz_shl ((zz_shl ((zz_shl 0 8) ||| (bm (4 * k) &&& 255)) 8) ||| (bm (4 * k + 1) &&& 255)) 8) ||| (bm (4 * k + 2) &&& 255)) 8) ||| (bm (4 * k + 3) &&& 255)
/-- registers, HI and LO (what is unknown is 0 in the class, anything in the reference), fractions, conditions, the way, the counts, memory -/
def q_rel (mn : Nat) (g rg hq mf : Nat → Int32) (cd : Int32) (fg dd bm rr kt : Nat → Int32) : Prop :=
  (∀ j, j < 32 → rr j = rg j) ∧ rg 0 = 0 ∧
  (zz_bz (hq 2) ∧ dd 1 = hq 2 ∧ (hq 2 = 0 → hq 0 = 0) ∧ (¬ hq 2 = 0 → rr 32 = hq 0)) ∧ (zz_bz (hq 3) ∧ dd 2 = hq 3 ∧ (hq 3 = 0 → hq 1 = 0) ∧ (¬ hq 3 = 0 → rr 33 = hq 1)) ∧
  (∀ j, j < 32 → rr (34 + j) = fg j) ∧ (rr 66 = cd ∧ cd &&& 255 = cd) ∧
  (dd 3 = g 0 ∧ dd 4 = g 1 ∧ dd 5 = g 5 ∧ dd 6 = g 2 ∧ zz_bz (g 2) ∧ dd 7 = g 3 ∧ zz_bz (g 3) ∧ (¬ g 3 = 0 → dd 8 = g 4)) ∧
  (kt 0 = g 7 ∧ kt 1 = g 8 ∧ kt 2 = g 9 ∧ kt 3 = g 10 ∧ kt 4 = g 11) ∧
  (∀ k, k < mn → mf k = q_word bm k)
section QS
variable {ms : Int32} {mn : Nat} {g rg hq mf : Nat → Int32} {cd : Int32} {fg : Nat → Int32} {L O : Fr4} {ov : Nat → Int64} {dd bm rr kt : Nat → Int32} {l1 l2 : Int64} {a0 : Int32}
/-- state: the value of a place -/
def c_sv (g : Nat → Int32) (a0 : Int32) : Int32 := if a0 = 0 then g 0 else if a0 = 1 then g 1 else if a0 = 2 then (if g 2 = 0 then 0 else 1) else if a0 = 3 then g 7 else if a0 = 4 then g 8 else if a0 = 5 then g 9 else if a0 = 6 then g 10 else g 11
def c_in (a0 : Int32) : Prop := a0 = 0 ∨ a0 = 1 ∨ a0 = 2 ∨ a0 = 3 ∨ a0 = 4 ∨ a0 = 5 ∨ a0 = 6 ∨ a0 = 7
theorem co_state {P : Int32 → (((Nat → Int32) × (Nat → Int32) × (Nat → Int32) × (Nat → Int32) × Int32 × (Nat → Int32) × Fr4 × Fr4) × (Nat → Int64)) → Prop}
    (h1 : c_in a0 → P 0 ((g, rg, hq, mf, cd, fg, L, O), vp_updL ov (0 : Int32).toNatClampNeg (c_sv g a0).toInt64)) (h2 : ¬ c_in a0 → P 1 ((g, rg, hq, mf, cd, fg, L, O), ov)) : wp_La_state ms mn g rg hq mf cd fg L O ov a0 P := by
  unfold wp_La_state wp_Co_state
  refine ⟨fun c => ?_, fun c0 => ⟨fun c => ?_, fun c1 => ⟨fun c => ⟨fun d => ?_, fun d => ?_⟩, fun c2 => ⟨fun c => ?_, fun c3 => ⟨fun c => ?_, fun c4 => ⟨fun c => ?_, fun c5 => ⟨fun c => ?_, fun c6 => ⟨fun c => ?_, fun c7 => ⟨rfl, h2 ?_⟩⟩⟩⟩⟩⟩⟩⟩⟩
  case refine_10 => simp [c_in, c0, c1, c2, c3, c4, c5, c6, c7]
  all_goals have h := h1 (by simp [c_in, c])
  all_goals simp [c_sv, c] at h
  all_goals first | exact h | (simp [d] at h; exact h)
theorem md_state {P : Int32 → ((Nat → Int32) × Int64 × Int64 × (Nat → Int32) × (Nat → Int32) × (Nat → Int32)) → Prop}
    (hr : dd 3 = g 0 ∧ dd 4 = g 1 ∧ dd 6 = g 2 ∧ kt 0 = g 7 ∧ kt 1 = g 8 ∧ kt 2 = g 9 ∧ kt 3 = g 10 ∧ kt 4 = g 11)
    (h1 : c_in a0 → P (c_sv g a0) (upd dd 0 0, l1, l2, bm, rr, kt)) (h2 : ¬ c_in a0 → P 0 (upd (upd dd 0 0) 0 1, l1, l2, bm, rr, kt)) : wp_Md_state ms dd l1 l2 bm rr kt a0 P := by
  obtain ⟨e3, e4, e6, k0, k1, k2, k3, k4⟩ := hr
  unfold wp_Md_state wp_Md_fail
  refine ⟨fun c => h2 ?_, fun c => ⟨fun d => ?_, fun d => h2 ?_⟩⟩
  · rintro (rfl | rfl | rfl | rfl | rfl | rfl | rfl | rfl) <;> exact absurd c (by decide)
  · obtain ⟨j, hj, rfl⟩ := nI_of2 (x := a0) (M := 7) (n := 7) (by decide) c d
    have hin : c_in (nI j) := by
      have : j = 0 ∨ j = 1 ∨ j = 2 ∨ j = 3 ∨ j = 4 ∨ j = 5 ∨ j = 6 ∨ j = 7 := by omega
      rcases this with rfl | rfl | rfl | rfl | rfl | rfl | rfl | rfl <;> (unfold c_in; decide)
    have h := h1 hin
    have hj8 : j = 0 ∨ j = 1 ∨ j = 2 ∨ j = 3 ∨ j = 4 ∨ j = 5 ∨ j = 6 ∨ j = 7 := by omega
    refine ⟨fun q => ?_, fun q0 => ⟨fun q => ?_, fun q1 => ⟨fun q => ⟨fun z => ?_, fun z => ?_⟩, fun q2 => ⟨?_, fun x ex => ?_⟩⟩⟩⟩
    · rw [q] at h; rw [e3]; simpa [c_sv] using h
    · rw [q] at h; rw [e4]; simpa [c_sv] using h
    · rw [q] at h; rw [e6] at z; simpa [c_sv, z] using h
    · rw [q] at h; rw [e6] at z; simpa [c_sv, z] using h
    · rcases hj8 with rfl | rfl | rfl | rfl | rfl | rfl | rfl | rfl <;> first | exact absurd rfl q0 | exact absurd rfl q1 | exact absurd rfl q2 | (unfold vp_in; decide)
    · subst ex
      rcases hj8 with rfl | rfl | rfl | rfl | rfl | rfl | rfl | rfl
      · exact absurd rfl q0
      · exact absurd rfl q1
      · exact absurd rfl q2
      · have e : kt (nI 3 - 3).toNatClampNeg = c_sv g (nI 3) := by rw [show (nI 3 - 3).toNatClampNeg = 0 by decide, k0]; rfl
        rw [e]; exact h
      · have e : kt (nI 4 - 3).toNatClampNeg = c_sv g (nI 4) := by rw [show (nI 4 - 3).toNatClampNeg = 1 by decide, k1]; rfl
        rw [e]; exact h
      · have e : kt (nI 5 - 3).toNatClampNeg = c_sv g (nI 5) := by rw [show (nI 5 - 3).toNatClampNeg = 2 by decide, k2]; rfl
        rw [e]; exact h
      · have e : kt (nI 6 - 3).toNatClampNeg = c_sv g (nI 6) := by rw [show (nI 6 - 3).toNatClampNeg = 3 by decide, k3]; rfl
        rw [e]; exact h
      · have e : kt (nI 7 - 3).toNatClampNeg = c_sv g (nI 7) := by rw [show (nI 7 - 3).toNatClampNeg = 4 by decide, k4]; rfl
        rw [e]; exact h
  · rintro (rfl | rfl | rfl | rfl | rfl | rfl | rfl | rfl) <;> exact absurd (by decide) d
/-- go -/
theorem co_go {P : Int32 → (((Nat → Int32) × (Nat → Int32) × (Nat → Int32) × (Nat → Int32) × Int32 × (Nat → Int32) × Fr4 × Fr4) × (Nat → Int64)) → Prop}
    (h1 : a0 &&& 3 = 0 → P 0 ((upd (upd (upd (upd (upd g 0 a0) 1 (a0 + 4)) 2 0) 3 0) 5 0, rg, hq, mf, cd, fg, L, O), vp_updL ov (0 : Int32).toNatClampNeg (g 0).toInt64)) (h2 : ¬ a0 &&& 3 = 0 → P 1 ((g, rg, hq, mf, cd, fg, L, O), ov)) : wp_La_go ms mn g rg hq mf cd fg L O ov a0 P := by
  unfold wp_La_go wp_Co_go wp_Pr_startAt wp_Pr_move
  exact ⟨fun c x ex => ⟨Or.inl rfl, by subst ex; exact h1 c⟩, fun c => ⟨rfl, h2 c⟩⟩
theorem md_go {P : Int32 → ((Nat → Int32) × Int64 × Int64 × (Nat → Int32) × (Nat → Int32) × (Nat → Int32)) → Prop}
    (h1 : a0 &&& 3 = 0 → P (dd 3) (upd (upd (upd (upd (upd (upd dd 0 0) 3 a0) 4 (a0 + 4)) 6 0) 7 0) 5 0, l1, l2, bm, rr, kt)) (h2 : ¬ a0 &&& 3 = 0 → P 0 (upd (upd dd 0 0) 0 1, l1, l2, bm, rr, kt)) : wp_Md_go ms dd l1 l2 bm rr kt a0 P := by
  unfold wp_Md_go wp_Md_fail
  exact ⟨fun c x ex y ey => by subst ex; subst ey; exact h1 c, fun c => h2 c⟩
theorem q_rel_go (h : q_rel mn g rg hq mf cd fg dd bm rr kt) : q_rel mn (upd (upd (upd (upd (upd g 0 a0) 1 (a0 + 4)) 2 0) 3 0) 5 0) rg hq mf cd fg (upd (upd (upd (upd (upd (upd dd 0 0) 3 a0) 4 (a0 + 4)) 6 0) 7 0) 5 0) bm rr kt := by
  obtain ⟨r1, r2, r3, r4, r5, r6, r7, r8, r9⟩ := h
  refine ⟨r1, r2, r3, r4, r5, r6, ⟨rfl, rfl, rfl, rfl, Or.inl rfl, rfl, Or.inl rfl, fun q => absurd rfl q⟩, r8, r9⟩
/-- the reference's mark of a refusal is no part of the relation -/
theorem q_rel_thrown {v : Int32} (h : q_rel mn g rg hq mf cd fg dd bm rr kt) : q_rel mn g rg hq mf cd fg (upd dd 0 v) bm rr kt := h
end QS
