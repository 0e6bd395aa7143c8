/-! ===== the operations on all kinds ===== -/
def sumB (w na : Int32) (a : Nat) (nb : Int32) (b : Nat) : Int64 :=
  if fk w a = 3 ∨ fk w b = 3 then rn_no w
  else if fk w a = 2 ∧ fk w b = 2 then (if na = nb then rn_sg na w (lN (fm w a)) else rn_no w)
  else if fk w a = 2 then rn_sg na w (lN (fm w a)) else if fk w b = 2 then rn_sg nb w (lN (fm w b))
  else if fk w a = 0 ∧ fk w b = 0 then rn_sg (if na = 0 ∨ nb = 0 then 0 else 1) w 0
  else if fk w b = 0 then rn_sg na w (lN (fm w a)) else if fk w a = 0 then rn_sg nb w (lN (fm w b))
  else adF w na (fA w a) (fp w a) nb (fA w b) (fp w b)
theorem fr_add {w na nb : Int32} {a b : Nat} {L O : Fr4} {P : Fr4 × Fr4 → Prop} (hL : fr_is w a na L) (hO : fr_is w b nb O) (hna : zz_bz na) (hnb : zz_bz nb)
    (h : ∀ L', frv w (sumB w na a nb b) L' → P (L', O)) : wp_Fr_add L O P := by
  have vL := frv_is hL
  have vO := frv_is hO
  have oL := frv_no hL
  have oO := frv_no hO
  obtain ⟨n1, k1, x1, m1⟩ := L
  obtain ⟨n2, k2, x2, m2⟩ := O
  obtain ⟨a1, a2, a3⟩ := hL
  obtain ⟨b1, b2, b3⟩ := hO
  dsimp only at *
  subst a1; subst b1
  unfold sumB at h
  have pa := fp_in w a
  have pb := fp_in w b
  rcases fk_4 w a with q | q | q | q <;> rcases fk_4 w b with r | r | r | r <;> rw [q] at a2 a3 vL oL h <;> rw [r] at b2 b3 vO oO h <;> subst a2 <;> subst b2 <;> simp (decide := true) at h vL vO oL oO <;> unfold wp_Fr_add wp_Fr_copy <;> simp (decide := true)
  all_goals first
    | exact h _ _ _ _ vL
    | exact ⟨hnb, h _ _ _ _ vO⟩
    | exact h _ _ _ _ oL
    | exact ⟨hnb, h _ _ _ _ oO⟩
    | skip
  · refine ⟨fun c => ?_, fun c => ⟨fun d => ?_, fun d => ?_⟩⟩
    · rw [if_pos (Or.inl c)] at h; exact h _ _ _ _ frv_0
    · rw [if_pos (Or.inr d)] at h; exact h _ _ _ _ frv_0
    · rw [if_neg (fun z => z.elim c d)] at h; exact h _ _ _ _ frv_0
  · obtain ⟨rfl, rfl⟩ := a3 rfl
    obtain ⟨rfl, rfl⟩ := b3 rfl
    exact fr_addF0 (p10 _) (p10 _) (fA_in (fk_1 q)) (fA_in (fk_1 r)) pa pb hna hnb (fun L' hL' => h _ _ _ _ hL')
  · refine ⟨fun c => ?_, fun c => ?_⟩
    · rw [if_pos c] at h; exact h _ _ _ _ vL
    · rw [if_neg c] at h; exact h _ _ _ _ frv_3
/-- the sign of a product or quotient -/
def sgn2 (na nb : Int32) : Int32 := if na = nb then 0 else 1
def mulB (w na : Int32) (a : Nat) (nb : Int32) (b : Nat) : Int64 :=
  if fk w a = 3 ∨ fk w b = 3 then rn_no w
  else if fk w a = 2 ∨ fk w b = 2 then (if fk w a = 0 ∨ fk w b = 0 then rn_no w else rn_sg (sgn2 na nb) w (lN (mo w * 2 ^ dg w)))
  else if fk w a = 0 ∨ fk w b = 0 then rn_sg (sgn2 na nb) w 0
  else rn_sg (sgn2 na nb) w (lN (rnX w (fA w a * fA w b) (fp w a + fp w b)))
set_option maxHeartbeats 4000000 in
theorem fr_multiply {w na nb : Int32} {a b : Nat} {L O : Fr4} {P : Fr4 × Fr4 → Prop} (hL : fr_is w a na L) (hO : fr_is w b nb O)
    (h : ∀ L', frv w (mulB w na a nb b) L' → P (L', O)) : wp_Fr_multiply L O P := by
  obtain ⟨n1, k1, x1, m1⟩ := L
  obtain ⟨n2, k2, x2, m2⟩ := O
  obtain ⟨a1, a2, a3⟩ := hL
  obtain ⟨b1, b2, b3⟩ := hO
  dsimp only at *
  subst a1; subst b1
  unfold mulB sgn2 at h
  have pa := fp_in w a
  have pb := fp_in w b
  unfold wp_Fr_multiply
  rcases fk_4 w a with q | q | q | q <;> rcases fk_4 w b with r | r | r | r <;> rw [q] at a2 a3 h <;> rw [r] at b2 b3 h <;> subst a2 <;> subst b2 <;> simp (decide := true) at h <;> simp (decide := true)
  all_goals (refine ⟨fun c => ?_, fun c => ?_⟩ <;> first | rw [if_pos c] at h | rw [if_neg c] at h | skip)
  all_goals first
    | exact h _ _ _ _ frv_0
    | exact h _ _ _ _ frv_2
    | exact h _ _ _ _ frv_3
    | skip
  all_goals
    obtain ⟨rfl, rfl⟩ := a3 rfl
    obtain ⟨rfl, rfl⟩ := b3 rfl
    exact fr_mulF (fA_in (fk_1 q)) (fA_in (fk_1 r)) pa pb (fun L' hL' => h _ _ _ _ hL')
def divB (w na : Int32) (a : Nat) (nb : Int32) (b : Nat) : Int64 :=
  if fk w a = 3 ∨ fk w b = 3 then rn_no w
  else if fk w a = 2 then (if fk w b = 2 then rn_no w else rn_sg (sgn2 na nb) w (lN (mo w * 2 ^ dg w)))
  else if fk w b = 2 then rn_sg (sgn2 na nb) w 0
  else if fk w b = 0 then (if fk w a = 0 then rn_no w else rn_sg (sgn2 na nb) w (lN (mo w * 2 ^ dg w)))
  else if fk w a = 0 then rn_sg (sgn2 na nb) w 0
  else rn_sg (sgn2 na nb) w (lN (rnX w (dvX (fA w a) (fA w b)) (fp w a - fp w b - 60)))
set_option maxHeartbeats 4000000 in
theorem fr_divide {w na nb : Int32} {a b : Nat} {L O : Fr4} {P : Fr4 × Fr4 → Prop} (hL : fr_is w a na L) (hO : fr_is w b nb O)
    (h : ∀ L', frv w (divB w na a nb b) L' → P (L', O)) : wp_Fr_divide L O P := by
  obtain ⟨n1, k1, x1, m1⟩ := L
  obtain ⟨n2, k2, x2, m2⟩ := O
  obtain ⟨a1, a2, a3⟩ := hL
  obtain ⟨b1, b2, b3⟩ := hO
  dsimp only at *
  subst a1; subst b1
  unfold divB sgn2 at h
  have pa := fp_in w a
  have pb := fp_in w b
  have sh : ∀ x : Nat, x < 2 ^ 53 → zz_lushr (lN (x * 2 ^ 10)) 10 = lN x := fun x hx => by
    have hb : x * 2 ^ 10 < 2 ^ 64 := by omega
    rw [show (10 : Int32) = nI 10 from rfl, fq_ushr hb (by decide), Nat.mul_div_cancel _ (by decide)]
  unfold wp_Fr_divide
  rcases fk_4 w a with q | q | q | q <;> rcases fk_4 w b with r | r | r | r <;> rw [q] at a2 a3 h <;> rw [r] at b2 b3 h <;> subst a2 <;> subst b2 <;> simp (decide := true) at h <;> simp (decide := true)
  all_goals (refine ⟨fun c => ?_, fun c => ?_⟩ <;> first | rw [if_pos c] at h | rw [if_neg c] at h | skip)
  all_goals first
    | exact h _ _ _ _ frv_0
    | exact h _ _ _ _ frv_2
    | exact h _ _ _ _ frv_3
    | skip
  all_goals
    obtain ⟨rfl, rfl⟩ := a3 rfl
    obtain ⟨rfl, rfl⟩ := b3 rfl
    rw [sh _ (fA_in (fk_1 r)).2]
    exact fr_divF (fA_in (fk_1 q)) (fA_in (fk_1 r)) pa pb (fun L' hL' => h _ _ _ _ hL')
/-- the root of a number, by any two numbers that make it up -/
def rtB (w na : Int32) (a : Nat) (r x : Nat) : Int64 :=
  if fk w a = 3 then rn_no w
  else if fk w a = 0 then rn_sg na w 0
  else if ¬ na = 0 then rn_no w
  else if fk w a = 2 then rn_sg na w (lN (mo w * 2 ^ dg w))
  else rn_sg na w (lN (rnX w (rtX r x) (fp w a / 2 - 31)))
def rtOk (w : Int32) (a r x : Nat) : Prop := rtS (fA w a) (fp w a) * 2 ^ 58 = r * r + x ∧ x ≤ 2 * r
theorem fr_root {w na : Int32} {a r x : Nat} {L : Fr4} {P : Fr4 → Prop} (hL : fr_is w a na L) (hr : rtOk w a r x)
    (h : ∀ L', frv w (rtB w na a r x) L' → P L') : wp_Fr_root L P := by
  obtain ⟨n1, k1, x1, m1⟩ := L
  obtain ⟨a1, a2, a3⟩ := hL
  dsimp only at *
  subst a1
  unfold rtB at h
  have pa := fp_in w a
  unfold wp_Fr_root
  rcases fk_4 w a with q | q | q | q <;> rw [q] at a2 a3 h <;> subst a2 <;> simp (decide := true) at h <;> simp (decide := true)
  · exact h _ _ _ _ frv_0
  · refine ⟨fun c => ?_, fun c => ?_⟩
    · rw [if_pos c] at h
      obtain ⟨rfl, rfl⟩ := a3 rfl
      exact fr_rtF (fA_in (fk_1 q)) pa hr.1 hr.2 (fun L' hL' => h _ _ _ _ hL')
    · rw [if_neg c] at h; exact h _ _ _ _ frv_3
  · refine ⟨fun c => ?_, fun c => ?_⟩
    · rw [if_pos c] at h
      exact h _ _ _ _ frv_2
    · rw [if_neg c] at h; exact h _ _ _ _ frv_3
  · exact h _ _ _ _ frv_3
