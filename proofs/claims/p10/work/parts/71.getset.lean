/-! ===== get and set ===== -/
section QG
variable {ms : Int32} {mn : Nat} {g rg hq mf : Nat → Int32} {cd : Int32} {fg : Nat → Int32} {L O : Fr4} {ov : Nat → Int64} {dd bm rr kt : Nat → Int32} {l1 l2 : Int64} {a0 a1 : Int32}
theorem lt_out {x : Int32} (h : x < 0 ∨ ¬ x ≤ 66) : ∀ j : Nat, j ≤ 66 → ¬ x = nI j := by
  intro j hj e
  subst e
  rcases h with h | h
  · exact nI_pos (by omega) h
  · exact h (nI_le (b := 66) hj (by decide))
theorem le_lit {j k : Nat} (hj : j < 2 ^ 31) (hk : k < 2 ^ 31) : (Int32.ofNat k ≤ nI j) ↔ k ≤ j := nI_leI hk hj
theorem eq_lit {j k : Nat} (hj : j < 2 ^ 31) (hk : k < 2 ^ 31) : (nI j = Int32.ofNat k) ↔ j = k := nI_eq hj hk
/-- what stands at a place -/
def c_hv (rg hq : Nat → Int32) (cd : Int32) (fg : Nat → Int32) (j : Nat) : Int32 := if j < 32 then rg j else if j = 32 then hq 0 else if j = 33 then hq 1 else if j < 66 then fg (j - 34) else cd
theorem and31 {j : Nat} (hj : j < 2 ^ 32) : nI j &&& 31 = nI (j % 32) := pk_andN hj 5 (by decide)
theorem co_held {P : Int32 → Prop} {j : Nat} (hj : j ≤ 66) (h : P (c_hv rg hq cd fg j)) : wp_Co_held ms mn g rg hq mf cd fg L O (nI j) P := by
  unfold wp_Co_held
  refine ⟨fun c => ⟨fun d => ?_, fun d => ⟨fun e => ?_, fun e => ⟨fun f => ?_, fun f x ex => ?_⟩⟩⟩, fun c => ?_⟩
  · have e1 : j = 32 := (eq_lit (k := 32) (by omega) (by decide)).mp d
    subst e1; exact h
  · have e1 : j = 33 := (eq_lit (k := 33) (by omega) (by decide)).mp e
    subst e1; exact h
  · have e1 : 66 ≤ j := (le_lit (k := 66) (by omega) (by decide)).mp f
    have e2 : j = 66 := by omega
    subst e2; exact h
  · have e1 : 32 ≤ j := (le_lit (k := 32) (by omega) (by decide)).mp c
    have e2 : ¬ j = 32 := fun q => d ((eq_lit (k := 32) (by omega) (by decide)).mpr q)
    have e3 : ¬ j = 33 := fun q => e ((eq_lit (k := 33) (by omega) (by decide)).mpr q)
    have e4 : ¬ 66 ≤ j := fun q => f ((le_lit (k := 66) (by omega) (by decide)).mpr q)
    have e5 : x = nI (j - 34) := by
      rw [ex, show (34 : Int32) = nI 34 from rfl, pk_sub (by omega), and31 (by omega), Nat.mod_eq_of_lt (by omega)]
    subst e5
    refine ⟨vp_in_nI (by omega) (by decide), fun y ey => ?_⟩
    rw [ey, nI_clamp (by omega)]
    rw [c_hv, if_neg (by omega), if_neg e2, if_neg e3, if_pos (by omega)] at h
    exact h
  · have e1 : ¬ 32 ≤ j := fun q => c ((le_lit (k := 32) (by omega) (by decide)).mpr q)
    rw [and31 (by omega), Nat.mod_eq_of_lt (by omega)]
    refine ⟨vp_in_nI (by omega) (by decide), fun y ey => ?_⟩
    rw [ey, nI_clamp (by omega)]
    rw [c_hv, if_pos (by omega)] at h
    exact h
/-- the outcome of get: 0 an answer, 1 no such place, 2 unknown -/
theorem co_get {P : Int32 → (((Nat → Int32) × (Nat → Int32) × (Nat → Int32) × (Nat → Int32) × Int32 × (Nat → Int32) × Fr4 × Fr4) × (Nat → Int64)) → Prop}
    (h1 : (a0 < 0 ∨ ¬ a0 ≤ 66) → P 1 ((g, rg, hq, mf, cd, fg, L, O), ov))
    (h2 : ∀ j : Nat, j ≤ 66 → a0 = nI j → (j = 32 ∧ hq 2 = 0 ∨ j = 33 ∧ hq 3 = 0) → P 2 ((g, rg, hq, mf, cd, fg, L, O), ov))
    (h3 : ∀ j : Nat, j ≤ 66 → a0 = nI j → ¬ (j = 32 ∧ hq 2 = 0 ∨ j = 33 ∧ hq 3 = 0) → P 0 ((g, rg, hq, mf, cd, fg, L, O), vp_updL ov (0 : Int32).toNatClampNeg (c_hv rg hq cd fg j).toInt64)) : wp_La_get ms mn g rg hq mf cd fg L O ov a0 P := by
  unfold wp_La_get wp_Co_get
  refine ⟨fun c => Or.inl ⟨rfl, h1 (Or.inl c)⟩, fun c => ⟨fun d => ?_, fun d => Or.inl ⟨rfl, h1 (Or.inr d)⟩⟩⟩
  obtain ⟨j, hj, rfl⟩ := nI_of2 (x := a0) (M := 66) (n := 66) (by decide) c d
  have q32 : nI j = (32 : Int32) ↔ j = 32 := eq_lit (k := 32) (by omega) (by decide)
  have q33 : nI j = (33 : Int32) ↔ j = 33 := eq_lit (k := 33) (by omega) (by decide)
  refine ⟨fun e => ⟨fun f => Or.inr ⟨rfl, h2 j hj rfl (Or.inl ⟨q32.mp e, f⟩)⟩, fun f => ⟨fun k => ?_, fun k => ?_⟩⟩, fun e => ⟨fun f => ⟨fun k => Or.inr ⟨rfl, h2 j hj rfl (Or.inr ⟨q33.mp f, k⟩)⟩, fun k => ?_⟩, fun f => ?_⟩⟩
  · exact absurd ((q32.mp e).symm.trans (q33.mp k)) (by decide)
  · exact co_held hj (h3 j hj rfl (fun q => q.elim (fun z => f z.2) (fun z => k (q33.mpr z.1))))
  · exact co_held hj (h3 j hj rfl (fun q => q.elim (fun z => e (q32.mpr z.1)) (fun z => k z.2)))
  · exact co_held hj (h3 j hj rfl (fun q => q.elim (fun z => e (q32.mpr z.1)) (fun z => f (q33.mpr z.1))))
theorem md_get {P : Int32 → ((Nat → Int32) × Int64 × Int64 × (Nat → Int32) × (Nat → Int32) × (Nat → Int32)) → Prop}
    (h1 : (a0 < 0 ∨ ¬ a0 ≤ 66) → P 0 (upd (upd dd 0 0) 0 1, l1, l2, bm, rr, kt))
    (h2 : ∀ j : Nat, j ≤ 66 → a0 = nI j → (j = 32 ∧ dd 1 = 0 ∨ j = 33 ∧ dd 2 = 0) → P 0 (upd (upd dd 0 0) 0 2, l1, l2, bm, rr, kt))
    (h3 : ∀ j : Nat, j ≤ 66 → a0 = nI j → ¬ (j = 32 ∧ dd 1 = 0 ∨ j = 33 ∧ dd 2 = 0) → P (rr j) (upd dd 0 0, l1, l2, bm, rr, kt)) : wp_Md_get ms dd l1 l2 bm rr kt a0 P := by
  unfold wp_Md_get wp_Md_fail
  refine ⟨fun c => h1 (Or.inl c), fun c => ⟨fun d => ?_, fun d => h1 (Or.inr d)⟩⟩
  obtain ⟨j, hj, rfl⟩ := nI_of2 (x := a0) (M := 66) (n := 66) (by decide) c d
  have q32 : nI j = (32 : Int32) ↔ j = 32 := eq_lit (k := 32) (by omega) (by decide)
  have q33 : nI j = (33 : Int32) ↔ j = 33 := eq_lit (k := 33) (by omega) (by decide)
  have hin : vp_in (nI j) 67 := vp_in_nI (by omega) (by decide)
  have hv : ∀ x : Int32, x = rr (nI j).toNatClampNeg → ¬ (j = 32 ∧ dd 1 = 0 ∨ j = 33 ∧ dd 2 = 0) → P x (upd dd 0 0, l1, l2, bm, rr, kt) := fun x ex q => by
    rw [ex, nI_clamp (by omega)]; exact h3 j hj rfl q
  refine ⟨fun e => ⟨fun f => h2 j hj rfl (Or.inl ⟨q32.mp e, f⟩), fun f => ⟨fun k => ?_, fun k => ⟨hin, fun x ex => hv x ex ?_⟩⟩⟩, fun e => ⟨fun f => ⟨fun k => h2 j hj rfl (Or.inr ⟨q33.mp f, k⟩), fun k => ⟨hin, fun x ex => hv x ex ?_⟩⟩, fun f => ⟨hin, fun x ex => hv x ex ?_⟩⟩⟩
  · exact absurd ((q32.mp e).symm.trans (q33.mp k)) (by decide)
  · rintro (⟨_, z⟩ | ⟨z, _⟩)
    · exact f z
    · exact k (q33.mpr z)
  · rintro (⟨z, _⟩ | ⟨_, z⟩)
    · exact e (q32.mpr z)
    · exact k z
  · rintro (⟨z, _⟩ | ⟨z, _⟩)
    · exact e (q32.mpr z)
    · exact f (q33.mpr z)
theorem q_rel_hv (h : q_rel mn g rg hq mf cd fg dd bm rr kt) {j : Nat} (hj : j ≤ 66) (hk : ¬ (j = 32 ∧ hq 2 = 0 ∨ j = 33 ∧ hq 3 = 0)) : rr j = c_hv rg hq cd fg j := by
  obtain ⟨r1, r2, r3, r4, r5, r6, r7, r8, r9⟩ := h
  unfold c_hv
  by_cases e1 : j < 32
  · rw [if_pos e1]; exact r1 j e1
  · rw [if_neg e1]
    by_cases e2 : j = 32
    · rw [if_pos e2, e2]; exact r3.2.2.2 (fun q => hk (Or.inl ⟨e2, q⟩))
    · rw [if_neg e2]
      by_cases e3 : j = 33
      · rw [if_pos e3, e3]; exact r4.2.2.2 (fun q => hk (Or.inr ⟨e3, q⟩))
      · rw [if_neg e3]
        by_cases e4 : j < 66
        · rw [if_pos e4, ← r5 (j - 34) (by omega), show 34 + (j - 34) = j by omega]
        · rw [if_neg e4, show j = 66 by omega]; exact r6.1
/-- set: what the class holds behind it -/
def s_rg (rg : Nat → Int32) (j : Nat) (v : Int32) : Nat → Int32 := if j = 0 then rg else if j < 32 then upd rg j v else rg
def s_hq (hq : Nat → Int32) (j : Nat) (v : Int32) : Nat → Int32 := if j = 32 then upd (upd hq 0 v) 2 1 else if j = 33 then upd (upd hq 1 v) 3 1 else hq
def s_fg (fg : Nat → Int32) (j : Nat) (v : Int32) : Nat → Int32 := if 34 ≤ j ∧ j < 66 then upd fg (j - 34) v else fg
def s_cd (cd : Int32) (j : Nat) (v : Int32) : Int32 := if j = 66 then v &&& 255 else cd
theorem co_hold {P : ((Nat → Int32) × (Nat → Int32) × (Nat → Int32) × (Nat → Int32) × Int32 × (Nat → Int32) × Fr4 × Fr4) → Prop} {j : Nat} (hj : j ≤ 66) (h : P (g, s_rg rg j a1, s_hq hq j a1, mf, s_cd cd j a1, s_fg fg j a1, L, O)) : wp_Co_hold ms mn g rg hq mf cd fg L O (nI j) a1 P := by
  unfold wp_Co_hold wp_Hl_keepHi wp_Hl_keepLo wp_Pr_write
  unfold s_rg s_hq s_cd s_fg at h
  refine ⟨fun c => ⟨fun d => ?_, fun d => ⟨fun e => ?_, fun e => ⟨fun f x ex => ?_, fun f x ex => ?_⟩⟩⟩, fun c => ⟨fun d => ?_, fun d => ?_⟩⟩
  · have e1 : j = 32 := (eq_lit (k := 32) (by omega) (by decide)).mp d
    subst e1; exact h
  · have e1 : j = 33 := (eq_lit (k := 33) (by omega) (by decide)).mp e
    subst e1; exact h
  · have e1 : 66 ≤ j := (le_lit (k := 66) (by omega) (by decide)).mp f
    have e2 : j = 66 := by omega
    subst e2; subst ex; exact h
  · have e1 : 32 ≤ j := (le_lit (k := 32) (by omega) (by decide)).mp c
    have e2 : ¬ j = 32 := fun q => d ((eq_lit (k := 32) (by omega) (by decide)).mpr q)
    have e3 : ¬ j = 33 := fun q => e ((eq_lit (k := 33) (by omega) (by decide)).mpr q)
    have e4 : ¬ 66 ≤ j := fun q => f ((le_lit (k := 66) (by omega) (by decide)).mpr q)
    have e5 : x = nI (j - 34) := by
      rw [ex, show (34 : Int32) = nI 34 from rfl, pk_sub (by omega), and31 (by omega), Nat.mod_eq_of_lt (by omega)]
    subst e5
    refine ⟨vp_in_nI (by omega) (by decide), ?_⟩
    rw [nI_clamp (by omega)]
    rw [if_neg (by omega : ¬ j = 0), if_neg (by omega : ¬ j < 32), if_neg e2, if_neg e3, if_neg (by omega : ¬ j = 66), if_pos (by omega : 34 ≤ j ∧ j < 66)] at h
    exact h
  · have e1 : j = 0 := (eq_lit (k := 0) (by omega) (by decide)).mp d
    subst e1; exact h
  · have e1 : ¬ 32 ≤ j := fun q => c ((le_lit (k := 32) (by omega) (by decide)).mpr q)
    have e2 : ¬ j = 0 := fun q => d ((eq_lit (k := 0) (by omega) (by decide)).mpr q)
    rw [and31 (by omega), Nat.mod_eq_of_lt (by omega)]
    refine ⟨vp_in_nI (by omega) (by decide), ?_⟩
    rw [nI_clamp (by omega)]
    rw [if_neg e2, if_pos (by omega : j < 32), if_neg (by omega : ¬ j = 32), if_neg (by omega : ¬ j = 33), if_neg (by omega : ¬ j = 66), if_neg (by omega : ¬ (34 ≤ j ∧ j < 66))] at h
    exact h
theorem co_set {P : Int32 → (((Nat → Int32) × (Nat → Int32) × (Nat → Int32) × (Nat → Int32) × Int32 × (Nat → Int32) × Fr4 × Fr4) × (Nat → Int64)) → Prop}
    (h1 : (a0 < 0 ∨ ¬ a0 ≤ 66) → P 1 ((g, rg, hq, mf, cd, fg, L, O), ov))
    (h3 : ∀ j : Nat, j ≤ 66 → a0 = nI j → P 0 ((g, s_rg rg j a1, s_hq hq j a1, mf, s_cd cd j a1, s_fg fg j a1, L, O), vp_updL ov (0 : Int32).toNatClampNeg (c_hv rg hq cd fg j).toInt64)) : wp_La_set ms mn g rg hq mf cd fg L O ov a0 a1 P := by
  unfold wp_La_set wp_Co_set
  refine ⟨fun c => ⟨rfl, h1 (Or.inl c)⟩, fun c => ⟨fun d => ?_, fun d => ⟨rfl, h1 (Or.inr d)⟩⟩⟩
  obtain ⟨j, hj, rfl⟩ := nI_of2 (x := a0) (M := 66) (n := 66) (by decide) c d
  exact co_held hj (co_hold hj (h3 j hj rfl))
/-- set: the reference -/
def t_rr (rr : Nat → Int32) (j : Nat) (v : Int32) : Nat → Int32 := if j = 0 then rr else if j = 66 then upd rr 66 (v &&& 255) else upd rr j v
def t_dd (dd : Nat → Int32) (j : Nat) : Nat → Int32 := if j = 32 then upd dd 1 1 else if j = 33 then upd dd 2 1 else dd
theorem md_set {P : Int32 → ((Nat → Int32) × Int64 × Int64 × (Nat → Int32) × (Nat → Int32) × (Nat → Int32)) → Prop}
    (h1 : (a0 < 0 ∨ ¬ a0 ≤ 66) → P 0 (upd (upd dd 0 0) 0 1, l1, l2, bm, rr, kt))
    (h3 : ∀ j : Nat, j ≤ 66 → a0 = nI j → P (if j = 32 ∧ dd 1 = 0 ∨ j = 33 ∧ dd 2 = 0 then 0 else rr j) (t_dd (upd dd 0 0) j, l1, l2, bm, t_rr rr j a1, kt)) : wp_Md_set ms dd l1 l2 bm rr kt a0 a1 P := by
  unfold wp_Md_set wj_Md_set_15 wp_Md_fail
  refine ⟨fun c => h1 (Or.inl c), fun c => ⟨fun d => ?_, fun d => h1 (Or.inr d)⟩⟩
  obtain ⟨j, hj, rfl⟩ := nI_of2 (x := a0) (M := 66) (n := 66) (by decide) c d
  have q32 : nI j = (32 : Int32) ↔ j = 32 := eq_lit (k := 32) (by omega) (by decide)
  have q33 : nI j = (33 : Int32) ↔ j = 33 := eq_lit (k := 33) (by omega) (by decide)
  have q66 : nI j = (66 : Int32) ↔ j = 66 := eq_lit (k := 66) (by omega) (by decide)
  have q0 : nI j ≤ (0 : Int32) ↔ j = 0 := by
    rw [show (0 : Int32) = nI 0 from rfl, nI_leI (by omega) (by decide)]; omega
  have hin : vp_in (nI j) 67 := vp_in_nI (by omega) (by decide)
  have hc : (nI j).toNatClampNeg = j := nI_clamp (by omega)
  have h := h3 j hj rfl
  -- the end, for an answer v and marks d9
  have tail : ∀ (v : Int32), P v (t_dd (upd dd 0 0) j, l1, l2, bm, t_rr rr j a1, kt) → wj_Md_set_57 ms (nI j) a1 P v (upd dd 0 0) l1 l2 bm rr kt := by
    intro v hv
    have t80 : ∀ d9 : Nat → Int32, P v (d9, l1, l2, bm, t_rr rr j a1, kt) → wj_Md_set_80 ms (nI j) a1 P v d9 l1 l2 bm rr kt := by
      intro d9 h9
      unfold wj_Md_set_80
      unfold t_rr at h9
      refine ⟨fun z => ?_, fun z => ⟨fun y => ⟨hin, ?_⟩, fun y => ⟨hin, ?_⟩⟩⟩
      · rw [if_pos (q0.mp z)] at h9; exact h9
      · have e := q66.mp y
        rw [if_neg (by omega), if_pos e] at h9
        rw [hc, e]; exact h9
      · rw [if_neg (fun q => z (q0.mpr q)), if_neg (fun q => y (q66.mpr q))] at h9
        rw [hc]; exact h9
    unfold wj_Md_set_57 wj_Md_set_69
    unfold t_dd at hv
    refine ⟨fun z => ⟨fun y => ?_, fun y => ?_⟩, fun z => ⟨fun y => ?_, fun y => ?_⟩⟩
    · exact absurd ((q32.mp z).symm.trans (q33.mp y)) (by decide)
    · rw [if_pos (q32.mp z)] at hv; exact t80 _ hv
    · rw [if_neg (fun q => z (q32.mpr q)), if_pos (q33.mp y)] at hv; exact t80 _ hv
    · rw [if_neg (fun q => z (q32.mpr q)), if_neg (fun q => y (q33.mpr q))] at hv; exact t80 _ hv
  have t51 : ¬ (j = 32 ∧ dd 1 = 0 ∨ j = 33 ∧ dd 2 = 0) → wj_Md_set_51 ms (nI j) a1 P (upd dd 0 0) l1 l2 bm rr kt := by
    intro hn
    rw [if_neg hn] at h
    unfold wj_Md_set_51
    exact ⟨hin, fun x ex => by rw [ex, hc]; exact tail _ h⟩
  have t47 : (j = 32 ∧ dd 1 = 0 ∨ j = 33 ∧ dd 2 = 0) → wj_Md_set_47 ms (nI j) a1 P (upd dd 0 0) l1 l2 bm rr kt := by
    intro hn
    rw [if_pos hn] at h
    unfold wj_Md_set_47
    exact tail _ h
  unfold wj_Md_set_34
  refine ⟨fun e => ⟨fun f => t47 (Or.inl ⟨q32.mp e, f⟩), fun f => ⟨fun k => ?_, fun k => t51 ?_⟩⟩, fun e => ⟨fun f => ⟨fun k => t47 (Or.inr ⟨q33.mp f, k⟩), fun k => t51 ?_⟩, fun f => t51 ?_⟩⟩
  · exact absurd ((q32.mp e).symm.trans (q33.mp k)) (by decide)
  · exact fun q => q.elim (fun z => f z.2) (fun z => k (q33.mpr z.1))
  · exact fun q => q.elim (fun z => e (q32.mpr z.1)) (fun z => k z.2)
  · exact fun q => q.elim (fun z => e (q32.mpr z.1)) (fun z => f (q33.mpr z.1))
end QG
