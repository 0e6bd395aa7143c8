/-! ===== p1: one call on a fresh object ===== -/
def f_g : Nat → Int32 := fun k => if k = 1 then 4 else 0
def f_h : Nat → Int32 := upd (upd (fun _ => 0) 2 1) 3 1
def f_d : Nat → Int32 := fun k => if k = 1 ∨ k = 2 then 1 else if k = 4 then 4 else 0
def f_0 : Nat → Int32 := fun _ => 0
section P1Z
variable {ms : Int32} {mn S : Nat} {g rg hq mf : Nat → Int32} {cd : Int32} {fg : Nat → Int32} {L O : Fr4} {ov : Nat → Int64} {dd bm rr kt : Nat → Int32} {l1 l2 : Int64} {a0 a1 : Int32}
theorem co_perform0 {P : Int32 → ((Nat → Int32) × (Nat → Int32) × (Nat → Int32) × (Nat → Int32) × Int32 × (Nat → Int32) × Fr4 × Fr4) → Prop} (h : P 0 (g, rg, hq, mf, cd, fg, L, O)) : wp_Pr_perform ms mn g rg hq mf cd fg L O 0 P := by
  unfold wp_Pr_perform wp_Pr_opcode
  refine ⟨fun _ => ?_, fun c => absurd (by decide) c⟩
  unfold wp_Pr_special wp_Pr_function
  refine ⟨fun _ => ?_, fun c => absurd (by decide) c⟩
  unfold wp_Pr_shiftOrMoveOnCondition wp_Pr_rt wp_Pr_rs wp_Pr_function
  refine fun x ex => ⟨by rw [ex]; unfold vp_in; decide, fun x2 _ x3 _ y ey => ⟨by rw [ey]; unfold vp_in; decide, fun _ _ _ _ => ⟨fun _ => ?_, fun c => absurd (by decide) c⟩⟩⟩
  unfold wp_Pr_rd wp_Pr_result wp_Pr_write
  exact fun z ez => ⟨fun _ => h, fun c => absurd (by rw [ez]; decide) c⟩
def i_c (i : Nat) (g : Nat → Int32) : Prop := g 0 = nI (4 * i) ∧ g 1 = nI (4 * i + 4) ∧ g 5 = 0
theorem co_zstep {P : ((Nat → Int32) × (Nat → Int32) × (Nat → Int32) × (Nat → Int32) × Int32 × (Nat → Int32) × Fr4 × Fr4) → Prop} {i : Nat} (hS : S ≤ 262144) (hS8 : 8 ≤ S) (hms : ms = nI S) (hmn : mn = S / 4) (hi : i ≤ 65536) (hI : i_c i g)
    (h1 : 4 * i + 4 ≤ S → ∀ g' : Nat → Int32, i_c (i + 1) g' → P (g', rg, hq, f_0, cd, fg, L, O)) (h2 : ¬ 4 * i + 4 ≤ S → ∀ g' : Nat → Int32, g' 5 = 1 → P (g', rg, hq, f_0, cd, fg, L, O)) : wp_Pr_step ms mn g rg hq f_0 cd fg L O P := by
  obtain ⟨e0, e1, e5⟩ := hI
  unfold wp_Pr_step
  rw [e0]
  refine me_good (S := S) (k := 4) (by unfold q_k; omega) hS hS8 hms (fun hg => ?_) (fun hg => ?_)
  · obtain ⟨a, ea, ha, ha4⟩ := hg
    have ea1 : 4 * i = a := (nI_eq (by omega) (by omega)).mp ea
    refine ⟨fun c => absurd c (by decide), fun _ => ?_⟩
    refine me_read4 (S := S) (a := 4 * i) (by omega) (by omega) hS hmn ?_
    refine co_perform0 ?_
    refine ⟨fun _ => ⟨fun c => absurd c (by decide), fun _ => ?_⟩, fun c => absurd (by decide) c⟩
    unfold wp_Pr_move
    refine ⟨Or.inl rfl, fun x ex => h1 (by omega) _ ⟨?_, ?_, ?_⟩⟩
    · show g 1 = _
      rw [e1]; rfl
    · show g 1 + 4 = _
      rw [e1]; exact nI_add (4 * i + 4) 4
    · exact e5
  · refine ⟨fun _ => h2 (fun q => hg ⟨4 * i, rfl, q, by omega⟩) _ rfl, fun c => absurd rfl c⟩
theorem co_zrun {P : Int32 → ((Nat → Int32) × (Nat → Int32) × (Nat → Int32) × (Nat → Int32) × Int32 × (Nat → Int32) × Fr4 × Fr4) → Prop} {N : Nat} (hN : N ≤ 10000) (hS : S ≤ 262144) (hS8 : 8 ≤ S) (hms : ms = nI S) (hmn : mn = S / 4)
    (hP : ∀ g' : Nat → Int32, P (nI (min N (S / 4))) (g', rg, hq, f_0, cd, fg, L, O)) : ∀ (k i : Nat) (g : Nat → Int32), i + k = N → i ≤ S / 4 → i_c i g → wl_Co_run_44 ms mn (nI N) P (k + 1) (nI i) g rg hq f_0 cd fg L O := by
  intro k
  induction k with
  | zero =>
    intro i g hi hs hI
    rw [wl_Co_run_44]
    have e : min N (S / 4) = N := by omega
    refine ⟨fun _ => ?_, fun c => absurd (nI_le (by omega) (by omega)) c⟩
    have h := hP g
    rw [e] at h
    exact h
  | succ k ih =>
    intro i g hi hs hI
    rw [wl_Co_run_44]
    refine ⟨fun c => absurd c (nI_ge (by omega) (by omega)), fun _ => ?_⟩
    refine co_zstep (S := S) (i := i) hS hS8 hms hmn (by omega) hI (fun q g' hg => ⟨fun _ x ex => ?_, fun c => absurd hg.2.2 c⟩) (fun q g' hg => ⟨fun c => ?_, fun _ => ?_⟩)
    · rw [ex, nI_1]
      exact ih (i + 1) g' (by omega) (by omega) hg
    · have c9 : g' 5 = 0 := c
      rw [hg] at c9
      exact absurd c9 (by decide)
    · have e : min N (S / 4) = i := by omega
      have h := hP g'
      rw [e] at h
      exact h
theorem md_shifts0 {P : ((Nat → Int32) × Int64 × Int64 × (Nat → Int32) × (Nat → Int32) × (Nat → Int32)) → Prop} (hw : dd 9 = 0) (h : P (dd, l1, l2, bm, rr, kt)) : wp_Md_shifts ms dd l1 l2 bm rr kt 0 P := by
  unfold wp_Md_shifts
  refine ⟨fun c => absurd c (by decide), fun _ => ⟨fun c => absurd c (by decide), fun _ => ⟨fun c => absurd c (by decide), fun _ => ?_⟩⟩⟩
  unfold wp_Md_field
  rw [hw]
  refine fun x ex y ey z ez => ⟨fun _ => ?_, fun c => absurd (by rw [ey]; decide) c⟩
  unfold wp_Md_rt wp_Md_field wp_Md_into
  rw [hw]
  exact fun w ew => ⟨by rw [ew]; unfold vp_in; decide, fun v _ => ⟨fun _ => h, fun c => absurd (by rw [ez]; decide) c⟩⟩
theorem md_operate0 {P : ((Nat → Int32) × Int64 × Int64 × (Nat → Int32) × (Nat → Int32) × (Nat → Int32)) → Prop} (hw : dd 9 = 0) (h : P (dd, l1, l2, bm, rr, kt)) : wp_Md_operate ms dd l1 l2 bm rr kt 0 P := by
  unfold wp_Md_operate
  refine ⟨fun _ => ?_, fun c => absurd rfl c⟩
  rw [hw]
  unfold wp_Md_special
  refine ⟨fun c => absurd c (by decide), fun _ => ?_⟩
  exact md_shifts0 hw h
def i_d (i : Nat) (dd : Nat → Int32) : Prop := dd 3 = nI (4 * i) ∧ dd 4 = nI (4 * i + 4) ∧ dd 5 = 0 ∧ dd 0 = 0
theorem q_word0 (k : Nat) : q_word f_0 k = 0 := by
  unfold q_word f_0
  decide
theorem md_zstep {P : ((Nat → Int32) × Int64 × Int64 × (Nat → Int32) × (Nat → Int32) × (Nat → Int32)) → Prop} {i : Nat} (hS : S ≤ 262144) (hS8 : 8 ≤ S) (hms : ms = nI S) (hi : i ≤ 65536) (hI : i_d i dd)
    (h1 : 4 * i + 4 ≤ S → ∀ d' k' : Nat → Int32, i_d (i + 1) d' → P (d', l1, l2, f_0, rr, k')) (h2 : ¬ 4 * i + 4 ≤ S → ∀ d' k' : Nat → Int32, d' 5 = 1 → d' 0 = 0 → P (d', l1, l2, f_0, rr, k')) : wp_Md_step ms dd l1 l2 f_0 rr kt P := by
  obtain ⟨e3, e4, e5, e0⟩ := hI
  unfold wp_Md_step
  rw [e3]
  refine md_good (S := S) (k := 4) (by unfold q_k; omega) hS hS8 hms (fun hg => ?_) (fun hg => ?_)
  · obtain ⟨a, ea, ha, ha4⟩ := hg
    have ea1 : 4 * i = a := (nI_eq (by omega) (by omega)).mp ea
    refine ⟨fun c => absurd c (by decide), fun _ => ?_⟩
    refine md_part4 (S := S) (a := 4 * i) (by omega) (by omega) hS ?_
    rw [q_word0]
    rw [show zz_ushr (0 : Int32) 26 = 0 by decide]
    refine md_operate0 rfl ?_
    refine ⟨fun _ => ?_, fun c => absurd (show dd 5 ≤ 0 by rw [e5]; decide) c⟩
    unfold wp_Md_moveOn
    refine fun x ex => ⟨by unfold vp_in; decide, fun y ey => ⟨by unfold vp_in; decide, ⟨fun _ => ⟨fun _ z ez => ⟨by unfold vp_in; decide, fun w ew => ⟨by unfold vp_in; decide, fun v ev => ⟨Or.inl ev, h1 (by omega) _ _ ⟨?_, ?_, ?_, ?_⟩⟩⟩⟩, fun c => absurd rfl c⟩, fun c => absurd rfl c⟩⟩⟩
    · show x = _
      rw [ex]; show dd 4 = _
      rw [e4]; rfl
    · show z = _
      rw [ez]; show dd 4 + 4 = _
      rw [e4]; exact nI_add (4 * i + 4) 4
    · exact e5
    · exact e0
  · refine ⟨fun _ => h2 (fun q => hg ⟨4 * i, rfl, q, by omega⟩) _ _ rfl e0, fun c => absurd rfl c⟩
theorem md_zrun {P : Int32 → ((Nat → Int32) × Int64 × Int64 × (Nat → Int32) × (Nat → Int32) × (Nat → Int32)) → Prop} {N : Nat} (hN : N ≤ 10000) (hS : S ≤ 262144) (hS8 : 8 ≤ S) (hms : ms = nI S)
    (hP : ∀ d' k' : Nat → Int32, d' 0 = 0 → P (nI (min N (S / 4))) (d', l1, l2, f_0, rr, k')) : ∀ (k i : Nat) (dd kt : Nat → Int32), i + k = N → i ≤ S / 4 → i_d i dd → wl_Md_run_38 ms (nI N) P (k + 2) (nI i) dd l1 l2 f_0 rr kt := by
  intro k
  induction k with
  | zero =>
    intro i dd kt hi hs hI
    rw [wl_Md_run_38]
    have e : min N (S / 4) = i := by omega
    refine ⟨fun _ => ?_, fun c => absurd (nI_le (by omega) (by omega)) c⟩
    have h := hP dd kt hI.2.2.2
    rw [e] at h
    exact h
  | succ k ih =>
    intro i dd kt hi hs hI
    rw [wl_Md_run_38]
    refine ⟨fun c => absurd c (nI_ge (by omega) (by omega)), fun _ => ⟨fun _ => ?_, fun c => absurd hI.2.2.1 c⟩⟩
    refine md_zstep (S := S) (i := i) hS hS8 hms (by omega) hI (fun q d' k' hg => ⟨fun _ x ex => ?_, fun c => absurd hg.2.2.1 c⟩) (fun q d' k' hg hg0 => ⟨fun c => ?_, fun _ => ?_⟩)
    · rw [ex, nI_1]
      exact ih (i + 1) d' k' (by omega) (by omega) hg
    · have c9 : d' 5 = 0 := c
      rw [hg] at c9
      exact absurd c9 (by decide)
    · rw [wl_Md_run_38]
      refine ⟨fun c => absurd c (nI_ge (by omega) (by omega)), fun _ => ⟨fun c => ?_, fun _ => ?_⟩⟩
      · have c9 : d' 5 = 0 := c
        rw [hg] at c9
        exact absurd c9 (by decide)
      · have e : min N (S / 4) = i := by omega
        have h := hP d' k' hg0
        rw [e] at h
        exact h
end P1Z
