theorem hv0 (j : Nat) : c_hv f_0 f_h 0 f_0 j = 0 := by
  unfold c_hv
  split
  · rfl
  · split
    · rfl
    · split
      · rfl
      · split <;> rfl
theorem t_dd0 (dd : Nat → Int32) (j : Nat) : t_dd dd j 0 = dd 0 := by
  unfold t_dd
  split
  · rfl
  · split <;> rfl
theorem p1_out {x : Int32} (h : x < 1 ∨ ¬ x ≤ 10000) {N : Nat} (n1 : 1 ≤ N) (n2 : N ≤ 10000) : ¬ x = nI N := by
  intro e
  subst e
  rcases h with h | h
  · exact nI_nlt (b := 1) n1 (by omega) h
  · exact h (nI_le (b := 10000) n2 (by decide))
set_option maxHeartbeats 4000000 in
set_option maxRecDepth 100000 in
theorem p1_step {S : Nat} (hS : S ≤ 262144) (hS8 : 8 ≤ S) (xs : Nat → Int32) : wl_law 4 xs (nI S) (S / 4) (nI S) 3 1 f_g f_0 f_h f_0 0 f_0 f_4 f_4 (fun _ => 0) f_d 0 0 f_0 f_0 f_0 := by
  rw [wl_law]
  intro x hx
  have hx1 : x = 1 := hx.trans (by decide)
  subst hx1
  have v1 : vp_in (1 : Int32) 4 := by unfold vp_in; decide
  have v2 : vp_in ((1 : Int32) + 1) 4 := by unfold vp_in; decide
  have v3 : vp_in ((1 : Int32) + 2) 4 := by unfold vp_in; decide
  refine ⟨fun c => absurd c (by decide), fun _ => ⟨v1, fun x3 _ => ?_⟩⟩
  refine ⟨fun _ => ?_, fun _ => ⟨fun _ => ?_, fun _ => ⟨fun _ => ?_, fun _ => ⟨fun _ => ?_, fun _ => ⟨fun _ => ?_, fun _ => ⟨fun _ => ?_, fun _ => ⟨fun _ => ?_, fun _ => ⟨fun _ => ?_, fun _ => ⟨fun _ => ?_, fun _ => ?_⟩⟩⟩⟩⟩⟩⟩⟩⟩
  -- put
  · refine ⟨v2, fun x5 e5 => ⟨v3, fun x6 e6 => ?_⟩⟩
    refine co_put1 hS hS8 rfl rfl (fun hg => ⟨v2, fun x9 e9 => ⟨v3, fun x10 e10 => ?_⟩⟩) (fun hg m' => ⟨v2, fun x9 e9 => ⟨v3, fun x10 e10 => ?_⟩⟩)
    · have ee : x9 = x5 := e9.trans e5.symm
      subst ee
      exact md_put1 hS hS8 rfl (fun _ => by unfold wp_Md_thrown; exact zz_fin rfl (fun z => absurd z (by decide)) (wl_exit (by decide))) (fun q => absurd q hg)
    · have ee : x9 = x5 := e9.trans e5.symm
      subst ee
      exact md_put1 hS hS8 rfl (fun q => absurd hg q) (fun _ b' => by unfold wp_Md_thrown; exact zz_fin rfl (fun _ => by dsimp only; rw [pk_uLs] <;> rfl) (wl_exit (by decide)))
  -- word
  · refine ⟨v2, fun x5 e5 => ?_⟩
    refine co_word1 hS hS8 rfl rfl (fun hg => ⟨v2, fun x9 e9 => ?_⟩) (fun hg => ⟨v2, fun x9 e9 => ?_⟩)
    · have ee : x9 = x5 := e9.trans e5.symm
      subst ee
      exact md_word1 hS hS8 rfl (fun _ => by unfold wp_Md_thrown; exact zz_fin rfl (fun z => absurd z (by decide)) (wl_exit (by decide))) (fun q => absurd q hg)
    · have ee : x9 = x5 := e9.trans e5.symm
      subst ee
      exact md_word1 hS hS8 rfl (fun q => absurd hg q) (fun _ => by unfold wp_Md_thrown; exact zz_fin rfl (fun _ => by dsimp only; rw [pk_uLs] <;> rfl) (wl_exit (by decide)))
  -- go
  · refine ⟨v2, fun x5 e5 => ?_⟩
    refine co_go (fun hg => ⟨v2, fun x9 e9 => ?_⟩) (fun hg => ⟨v2, fun x9 e9 => ?_⟩)
    · have ee : x9 = x5 := e9.trans e5.symm
      subst ee
      exact md_go (fun _ => by unfold wp_Md_thrown; exact zz_fin rfl (fun _ => by dsimp only; rw [pk_uLs] <;> rfl) (wl_exit (by decide))) (fun q => absurd hg q)
    · have ee : x9 = x5 := e9.trans e5.symm
      subst ee
      exact md_go (fun q => absurd q hg) (fun _ => by unfold wp_Md_thrown; exact zz_fin rfl (fun z => absurd z (by decide)) (wl_exit (by decide)))
  -- set
  · refine ⟨v2, fun x5 e5 => ⟨v3, fun x6 e6 => ?_⟩⟩
    refine co_set (fun hg => ⟨v2, fun x9 e9 => ⟨v3, fun x10 e10 => ?_⟩⟩) (fun j hj hg => ⟨v2, fun x9 e9 => ⟨v3, fun x10 e10 => ?_⟩⟩)
    · have ee : x9 = x5 := e9.trans e5.symm
      subst ee
      exact md_set (fun _ => by unfold wp_Md_thrown; exact zz_fin rfl (fun z => absurd z (by decide)) (wl_exit (by decide))) (fun j hj q => absurd q (lt_out hg j hj))
    · have ee : x9 = x5 := e9.trans e5.symm
      subst ee
      refine md_set (fun q => absurd hg (lt_out q j hj)) (fun j2 hj2 q => ?_)
      unfold wp_Md_thrown
      refine zz_fin (t_dd0 _ _) (fun _ => ?_) (wl_exit (by decide))
      dsimp only
      rw [pk_uLs, hv0]
      split <;> rfl
  -- get
  · refine ⟨v2, fun x5 e5 => ?_⟩
    refine co_get (fun hg => ⟨v2, fun x9 e9 => ?_⟩) (fun j hj hg hk => ?_) (fun j hj hg hk => ⟨v2, fun x9 e9 => ?_⟩)
    · have ee : x9 = x5 := e9.trans e5.symm
      subst ee
      exact md_get (fun _ => by unfold wp_Md_thrown; exact zz_fin rfl (fun z => absurd z (by decide)) (wl_exit (by decide))) (fun j hj q => absurd q (lt_out hg j hj)) (fun j hj q => absurd q (lt_out hg j hj))
    · rcases hk with ⟨_, z⟩ | ⟨_, z⟩ <;> exact absurd z (by decide)
    · have ee : x9 = x5 := e9.trans e5.symm
      subst ee
      refine md_get (fun q => absurd hg (lt_out q j hj)) (fun j2 hj2 q hk2 => ?_) (fun j2 hj2 q hk2 => ?_)
      · rcases hk2 with ⟨_, z⟩ | ⟨_, z⟩ <;> exact absurd z (by decide)
      · unfold wp_Md_thrown
        refine zz_fin rfl (fun _ => ?_) (wl_exit (by decide))
        dsimp only
        rw [pk_uLs, hv0]
        rfl
  -- run
  · refine ⟨v2, fun x5 e5 => ?_⟩
    refine co_run1 hS hS8 rfl rfl (fun hg => ⟨v2, fun x9 e9 => ?_⟩) (fun N n1 n2 hg g' => ⟨v2, fun x9 e9 => ?_⟩)
    · have ee : x9 = x5 := e9.trans e5.symm
      subst ee
      exact md_run1 hS hS8 rfl (fun _ => by unfold wp_Md_thrown; exact zz_fin rfl (fun z => absurd z (by decide)) (wl_exit (by decide))) (fun N n1 n2 q => absurd q (p1_out hg n1 n2))
    · have ee : x9 = x5 := e9.trans e5.symm
      subst ee
      refine md_run1 hS hS8 rfl (fun q => absurd hg (p1_out q n1 n2)) (fun N2 m1 m2 q d' k' hd => ?_)
      have en : N = N2 := (nI_eq (by omega) (by omega)).mp (hg.symm.trans q)
      subst en
      unfold wp_Md_thrown
      exact zz_fin hd (fun _ => by dsimp only; rw [pk_uLs] <;> rfl) (wl_exit (by decide))
  -- end
  · unfold wp_Co_end wp_Md_end
    refine ⟨fun _ y ey => ?_, fun q => absurd rfl q⟩
    subst ey
    exact wl_exit (by decide)
  -- pass
  · refine co_pass1 (md_pass1 ?_)
    unfold wp_Md_thrown
    exact zz_fin rfl (fun z => absurd z (by decide)) (wl_exit (by decide))
  -- state
  · refine ⟨v2, fun x5 e5 => ?_⟩
    refine co_state (fun hg => ⟨v2, fun x9 e9 => ?_⟩) (fun hg => ⟨v2, fun x9 e9 => ?_⟩)
    · have ee : x9 = x5 := e9.trans e5.symm
      subst ee
      refine md_state (g := f_g) ⟨rfl, rfl, rfl, rfl, rfl, rfl, rfl, rfl⟩ (fun _ => ?_) (fun q => absurd hg q)
      unfold wp_Md_thrown
      exact zz_fin rfl (fun _ => by dsimp only; rw [pk_uLs] <;> rfl) (wl_exit (by decide))
    · have ee : x9 = x5 := e9.trans e5.symm
      subst ee
      refine md_state (g := f_g) ⟨rfl, rfl, rfl, rfl, rfl, rfl, rfl, rfl⟩ (fun q => absurd q hg) (fun _ => ?_)
      unfold wp_Md_thrown
      exact zz_fin rfl (fun z => absurd z (by decide)) (wl_exit (by decide))
  -- none
  · intro y ey
    subst ey
    exact wl_exit (by decide)
theorem p1_owed1 {L : Nat} (hL : L ≤ 4) (xs : Nat → Int32) (a0 : Int32) : zz_owed L xs a0 := by
  obtain ⟨k, k8, kS, e⟩ := zz_size_nat2 a0
  refine ⟨3, by decide, ?_⟩
  have e4 : (nI k / 4).toNatClampNeg = k / 4 := by
    rw [show (4 : Int32) = nI 4 from rfl, pk_div (by omega) (by decide) (by decide), nI_clamp (by omega)]
  rw [e, e4]
  by_cases h : L = 4
  · subst h
    exact p1_step kS k8 xs
  · have : L = 0 ∨ L = 1 ∨ L = 2 ∨ L = 3 := by omega
    rcases this with rfl | rfl | rfl | rfl <;> exact wl_exit (by decide)
theorem zz_pays {L : Nat} (hL : L ≤ 4) (xs : Nat → Int32) : (Int32.ofNat L ≤ (0 : Int32) → zz_owed L xs 0) ∧ (¬ Int32.ofNat L ≤ (0 : Int32) → vp_in (0 : Int32) L ∧ zz_owed L xs (xs (0 : Int32).toNatClampNeg)) := by
  refine ⟨fun _ => p1_owed1 hL xs 0, fun c => ⟨?_, p1_owed1 hL xs _⟩⟩
  rcases Nat.eq_zero_or_pos L with z | z
  · subst z
    exact absurd (by decide) c
  · exact vp_in_nI (n := 0) z (by omega)
