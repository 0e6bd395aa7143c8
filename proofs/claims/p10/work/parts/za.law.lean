/-! ===== the law's loop ===== -/
theorem lw_lt {Ln i : Nat} (hL : Ln ≤ 1537) (hi : i ≤ 2000) : (Int32.ofNat Ln - 3 < nI i) ↔ Ln < i + 3 := by
  rw [Int32.lt_iff_toInt_lt, show Int32.ofNat Ln = nI Ln from rfl, Int32.toInt_sub, nI_toInt (by omega), nI_toInt (by omega), show (3 : Int32).toInt = 3 by decide, Int.bmod_def]
  split <;> omega
theorem lw_eq {r r' : Int32} {v4 : Int32} {K : Int32 → Prop} (h : r = r') (hK : K (v4 + 3)) : ((r = r' → ∀ y : Int32, y = v4 + 3 → K y) ∧ (¬ r = r' → False)) := ⟨fun _ y ey => ey ▸ hK, fun q => q h⟩
theorem lw_fin {r13 r8 r12 : Int32} {x0 : Int64} {K : Int32 → Prop} {v4 : Int32} (h1 : r13 = r8) (h2 : r8 = 0 → x0 = r12.toInt64) (hK : K (v4 + 3)) : ((r13 = r8 → ((r8 = (0 : Int32) → ∀ x : Int64, x = x0 → ((x = r12.toInt64 → ∀ y : Int32, y = v4 + 3 → K y) ∧ (¬ x = r12.toInt64 → False))) ∧ (¬ r8 = (0 : Int32) → ∀ y : Int32, y = v4 + 3 → K y))) ∧ (¬ r13 = r8 → False)) :=
  ⟨fun _ => ⟨fun h x e => ⟨fun _ y ey => ey ▸ hK, fun q => q (e.trans (h2 h))⟩, fun _ y ey => ey ▸ hK⟩, fun q => q h1⟩
set_option maxHeartbeats 4000000 in
set_option maxRecDepth 100000 in
theorem law_rel {ms : Int32} {mn S Ln : Nat} (M : mem ms mn S) (hL : Ln ≤ 1537) (xs : Nat → Int32) : ∀ (n i : Nat) (u : CoT) (v v0 : MdT) (L O : Fr4) (ov : Nat → Int64), i ≤ 1600 → Ln ≤ i + 3 * n + 2 → q_ok S mn u v → vs9 v v0 → wl_law Ln xs ms mn ms (n + 1) (nI i) u.1 u.2.1 u.2.2.1 u.2.2.2.1 u.2.2.2.2.1 u.2.2.2.2.2.1 L O ov v0.1 v0.2.1 v0.2.2.1 v0.2.2.2.1 v0.2.2.2.2.1 v0.2.2.2.2.2 := by
  intro n
  induction n with
  | zero =>
    intro i u v v0 L O ov hi hn h h0
    rw [wl_law]
    exact fun x hx => ⟨fun _ => trivial, fun c => absurd (by rw [hx]; exact (lw_lt hL (by omega)).mpr (by omega)) c⟩
  | succ n ih =>
    intro i u v v0 L O ov hi hn h h0
    obtain ⟨g, rg, hq, mf, cd, fg, Lu, Ou⟩ := u
    obtain ⟨dd, l1, l2, bm, rr, kt⟩ := v
    dsimp only
    rw [wl_law]
    intro x hx
    subst hx
    refine ⟨fun _ => trivial, fun c => ?_⟩
    have hc : i + 3 ≤ Ln := by
      rcases Nat.lt_or_ge Ln (i + 3) with q | q
      · exact absurd ((lw_lt hL (by omega : i ≤ 2000)).mpr q) c
      · exact q
    have e3 : nI i + 3 = nI (i + 3) := nI_add i 3
    have nx : ∀ (u' : CoT) (v' v'' : MdT) (L O : Fr4) (ov' : Nat → Int64), q_ok S mn u' v' → vs9 v' v'' → wl_law Ln xs ms mn ms (n + 1) (nI i + 3) u'.1 u'.2.1 u'.2.2.1 u'.2.2.2.1 u'.2.2.2.2.1 u'.2.2.2.2.2.1 L O ov' v''.1 v''.2.1 v''.2.2.1 v''.2.2.2.1 v''.2.2.2.2.1 v''.2.2.2.2.2 := by
      intro u' v' v'' L O ov' k1 k2
      rw [e3]
      exact ih (i + 3) u' v' v'' L O ov' (by omega) (by omega) k1 k2
    have w0 : vp_in (nI i) Ln := vp_in_nI (by omega) (by omega)
    have w1 : vp_in (nI i + 1) Ln := by rw [show nI i + 1 = nI (i + 1) from nI_add i 1]; exact vp_in_nI (by omega) (by omega)
    have w2 : vp_in (nI i + 2) Ln := by rw [show nI i + 2 = nI (i + 2) from nI_add i 2]; exact vp_in_nI (by omega) (by omega)
    refine ⟨w0, fun x3 _ => ?_⟩
    refine ⟨fun _ => ?_, fun _ => ⟨fun _ => ?_, fun _ => ⟨fun _ => ?_, fun _ => ⟨fun _ => ?_, fun _ => ⟨fun _ => ?_, fun _ => ⟨fun _ => ?_, fun _ => ⟨fun _ => ?_, fun _ => ⟨fun _ => ?_, fun _ => ⟨fun _ => ?_, fun _ => ?_⟩⟩⟩⟩⟩⟩⟩⟩⟩
    -- put
    · refine ⟨w1, fun x5 e5 => ⟨w2, fun x6 e6 => ?_⟩⟩
      obtain ⟨k, b, u', v', ov', ⟨q1, t1, t2⟩, kc, km⟩ := cal_put (ms := ms) (ov := ov) (a0 := x5) (a1 := x6) M h
      refine kc L O _ (fun L' O' => ⟨w1, fun x9 e9 => ⟨w2, fun x10 e10 => ?_⟩⟩)
      have ee : x9 = x5 := e9.trans e5.symm
      subst ee
      have ef : x10 = x6 := e10.trans e6.symm
      subst ef
      exact km v0 h0 _ (fun v'' h2 => fun y ey => by subst ey; exact nx u' v' v'' L' O' ov' q1 h2)
    -- word
    · refine ⟨w1, fun x5 e5 => ?_⟩
      obtain ⟨k, b, u', v', ov', ⟨q1, t1, t2⟩, kc, km⟩ := cal_word (ms := ms) (ov := ov) (a0 := x5) M h
      refine kc L O _ (fun L' O' => ⟨w1, fun x9 e9 => ?_⟩)
      have ee : x9 = x5 := e9.trans e5.symm
      subst ee
      exact km v0 h0 _ (fun v'' h2 => fun y ey => by subst ey; exact nx u' v' v'' L' O' ov' q1 h2)
    -- go
    · refine ⟨w1, fun x5 e5 => ?_⟩
      obtain ⟨k, b, u', v', ov', ⟨q1, t1, t2⟩, kc, km⟩ := cal_go (ms := ms) (ov := ov) (a0 := x5) h
      refine kc L O _ (fun L' O' => ⟨w1, fun x9 e9 => ?_⟩)
      have ee : x9 = x5 := e9.trans e5.symm
      subst ee
      exact km v0 h0 _ (fun v'' h2 => fun y ey => by subst ey; exact nx u' v' v'' L' O' ov' q1 h2)
    -- set
    · refine ⟨w1, fun x5 e5 => ⟨w2, fun x6 e6 => ?_⟩⟩
      obtain ⟨k, b, u', v', ov', ⟨q1, t1, t2⟩, kc, km⟩ := cal_set (ms := ms) (ov := ov) (a0 := x5) (a1 := x6) h
      refine kc L O _ (fun L' O' => ⟨w1, fun x9 e9 => ⟨w2, fun x10 e10 => ?_⟩⟩)
      have ee : x9 = x5 := e9.trans e5.symm
      subst ee
      have ef : x10 = x6 := e10.trans e6.symm
      subst ef
      exact km v0 h0 _ (fun v'' h2 => fun y ey => by subst ey; exact nx u' v' v'' L' O' ov' q1 h2)
    -- get
    · refine ⟨w1, fun x5 e5 => ?_⟩
      obtain ⟨k, b, u', v', ov', ⟨q1, t1, t2⟩, kc, km⟩ := cal_get (ms := ms) (ov := ov) (a0 := x5) h
      refine kc L O _ (fun L' O' => ⟨w1, fun x9 e9 => ?_⟩)
      have ee : x9 = x5 := e9.trans e5.symm
      subst ee
      exact km v0 h0 _ (fun v'' h2 => fun y ey => by subst ey; exact nx u' v' v'' L' O' ov' q1 h2)
    -- run
    · refine ⟨w1, fun x5 e5 => ?_⟩
      obtain ⟨k, b, u', v', ov', ⟨q1, t1, t2⟩, kc, km⟩ := cal_run (ms := ms) (ov := ov) (a0 := x5) M h
      refine kc L O _ (fun L' O' => ⟨w1, fun x9 e9 => ?_⟩)
      have ee : x9 = x5 := e9.trans e5.symm
      subst ee
      exact km v0 h0 _ (fun v'' h2 => fun y ey => by subst ey; exact nx u' v' v'' L' O' ov' q1 h2)
    -- end
    · obtain ⟨q1, kc, km⟩ := cal_end (ms := ms) h
      exact kc L O _ (km v0 h0 _ (fun v'' h2 y ey => by subst ey; exact nx (g, rg, hq, mf, cd, fg, Lu, Ou) _ v'' L O ov q1 h2))
    -- pass
    · obtain ⟨k, b, u', v', ov', ⟨q1, t1, t2⟩, kc, km⟩ := cal_pass (ms := ms) (ov := ov) M h
      exact kc L O _ (fun L' O' => km v0 h0 _ (fun v'' h2 => fun y ey => by subst ey; exact nx u' v' v'' L' O' ov' q1 h2))
    -- state
    · refine ⟨w1, fun x5 e5 => ?_⟩
      obtain ⟨k, b, u', v', ov', ⟨q1, t1, t2⟩, kc, km⟩ := cal_state (ms := ms) (ov := ov) (a0 := x5) h
      refine kc L O _ (fun L' O' => ⟨w1, fun x9 e9 => ?_⟩)
      have ee : x9 = x5 := e9.trans e5.symm
      subst ee
      exact km v0 h0 _ (fun v'' h2 => by unfold wp_Md_thrown; exact lw_fin ((h2.1 0 (by decide) (by decide)).trans t1) (fun q => t2 trivial q) (nx u' v' v'' L' O' ov' q1 h2))
    -- none
    · intro y ey
      subst ey
      exact nx (g, rg, hq, mf, cd, fg, Lu, Ou) _ v0 L O ov h h0
