/-! ===== and there is such a start: the statement's own word for a refutation ===== -/
theorem rf_refuted : RefutedClaimed_1_2 := by
  have hi : start2.about.IntsAt 0 rf_l := ⟨_, rfl, rfl, ⟨fun k q => (by cases q), _, rfl, _, rfl⟩, by decide⟩
  obtain ⟨n, k1, k2, k3⟩ := rf_at (l := launch0) (by decide +kernel) start2.atStart rfl hi
  exact ⟨launch0, start2.p0, start2.e0, start2.about, ⟨0, 0⟩, start2.args0, Lib.HandBits.below0, rfl, start2.atStart, n, _, k1, k2, k3, rf_not _ _ _ _ _⟩
/-- so the owed statement is false -/
theorem rf_false : ¬ (Claimed_1_1 ∧ Claimed_1_2) := by
  rintro ⟨-, h⟩
  obtain ⟨l, p, e, s, m, args, below, hfl, hA, n, o, w1, w2, w3, w4⟩ := rf_refuted
  obtain ⟨a1, a2, a3, -, a5, a6, a7, a8, a9, a10, a11, a12, a13⟩ := hA
  obtain ⟨n', o', v1, v2, v3, v4⟩ := h l hfl a1 a2 p e a3 a5 a6 s m args below a7 a8 a9 a10 ⟨a11, a12, a13⟩
  have en : n = n' := by
    rcases Nat.lt_trichotomy n n' with q | q | q
    · exact absurd (v1 n q) w3.not_within
    · exact q
    · exact absurd (w1 n' q) v3.not_within
  subst en
  have eo : o = o' := w3.outcome_unique v3
  subst eo
  exact w4 v4
