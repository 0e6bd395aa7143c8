/-! ===== and there is such a start: the statement's own word for a refutation ===== -/
theorem rf_refuted : RefutedClaimed_1_2 := by
  have hi : start2.about.IntsAt 0 rf_l := ⟨_, rfl, rfl, ⟨fun k q => (by cases q), _, rfl, _, rfl⟩, by decide⟩
  obtain ⟨n, k1, k2, k3⟩ := rf_at (l := launch0) (by decide +kernel) start2.atStart rfl hi
  exact ⟨launch0, start2.p0, start2.e0, start2.about, ⟨0, 0⟩, start2.args0, Lib.HandBits.below0, rfl, start2.atStart, n, _, k1, k2, k3, rf_not _ _ _ _ _⟩
