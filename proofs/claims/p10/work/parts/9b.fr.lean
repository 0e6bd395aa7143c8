/-! ===== how instructions come out; fields; registers ===== -/
section OCS
variable {ms : Int32} {mn S : Nat} {g rg hq mf : Nat → Int32} {cd : Int32} {fg : Nat → Int32} {L O : Fr4} {dd bm rr kt : Nat → Int32} {l1 l2 : Int64} {w : Int32}
theorem oc_end {r : Int32} (hr : q_e r) (h : q_rel mn g rg hq mf cd fg dd bm rr kt) (hn : g 2 = 0 → g 1 = g 0 + 4) {dd' : Nat → Int32} (h5 : dd' 5 = r) (hd : ∀ j, j < 9 → j ≠ 5 → dd' j = dd j) : oc mn r (g, rg, hq, mf, cd, fg, L, O) (dd', l1, l2, bm, rr, kt) := by
  obtain ⟨r1, r2, r3, r4, r5, r6, r7, r8, r9⟩ := h
  refine Or.inl ⟨hr, h5, ⟨r1, r2, ?_, ?_, r5, r6, ?_, r8, r9⟩, hn⟩
  · show zz_bz (hq 2) ∧ dd' 1 = hq 2 ∧ _
    rw [hd 1 (by decide) (by decide)]; exact r3
  · show zz_bz (hq 3) ∧ dd' 2 = hq 3 ∧ _
    rw [hd 2 (by decide) (by decide)]; exact r4
  · show dd' 3 = g 0 ∧ dd' 4 = g 1 ∧ dd' 5 = r ∧ dd' 6 = g 2 ∧ zz_bz (g 2) ∧ dd' 7 = g 3 ∧ zz_bz (g 3) ∧ (¬ g 3 = 0 → dd' 8 = g 4)
    rw [hd 3 (by decide) (by decide), hd 4 (by decide) (by decide), hd 6 (by decide) (by decide), hd 7 (by decide) (by decide), hd 8 (by decide) (by decide)]
    exact ⟨r7.1, r7.2.1, h5, r7.2.2.2⟩
theorem oc_endc {r c : Int32} (hr : q_e r) (h : q_rel mn g rg hq mf cd fg dd bm rr kt) (hn : g 2 = 0 → g 1 = g 0 + 4) : oc mn r (upd g 6 c, rg, hq, mf, cd, fg, L, O) (upd dd 5 r, l1, l2, bm, rr, kt) := by
  obtain ⟨r1, r2, r3, r4, r5, r6, r7, r8, r9⟩ := h
  exact Or.inl ⟨hr, rfl, ⟨r1, r2, r3, r4, r5, r6, ⟨r7.1, r7.2.1, rfl, r7.2.2.2⟩, r8, r9⟩, hn⟩
/-- done: PC moves on -/
theorem oc_0 (h : q_rel mn g rg hq mf cd fg dd bm rr kt) (h5 : dd 5 = 0) (h11 : dd 11 = 0) (h12 : dd 12 = 0) (h13 : dd 13 = 0) : oc mn 0 (g, rg, hq, mf, cd, fg, L, O) (dd, l1, l2, bm, rr, kt) := by
  obtain ⟨r1, r2, r3, r4, r5, r6, r7, r8, r9⟩ := h
  refine Or.inr (Or.inl ⟨rfl, h5, Or.inl h12, ⟨r1, r2, ?_, ?_, r5, r6, ?_, ?_, r9⟩, fun _ => rfl⟩)
  · unfold mvd; rw [if_pos h13]; exact r3
  · unfold mvd; rw [if_pos h13]; exact r4
  · unfold mvd; rw [if_pos h13, if_pos h11]
    refine ⟨r7.2.1, ?_, r7.2.2.1, h12, Or.inl rfl, r7.2.2.2.2.2⟩
    show dd 4 + 4 = g 1 + 4
    rw [r7.2.1]
  · unfold mvk; dsimp only; rw [if_pos h13, if_pos h11]
    refine ⟨?_, r8.2.1, r8.2.2.1, ?_, r8.2.2.2.2⟩
    · show kt 0 + 1 = g 7 + 1
      rw [r8.1]
    · show kt 3 + 0 = g 10
      rw [Int32.add_zero, r8.2.2.2.1]
theorem oc_go {t : Int32} (h : q_rel mn g rg hq mf cd fg dd bm rr kt) (h5 : dd 5 = 0) : oc mn (-1) (upd (upd (upd (upd g 10 (g 10 + 1)) 0 (g 1)) 1 t) 2 1, rg, hq, mf, cd, fg, L, O) (upd (upd (upd (upd dd 12 1) 11 1) 10 t) 13 0, l1, l2, bm, rr, kt) := by
  obtain ⟨r1, r2, r3, r4, r5, r6, r7, r8, r9⟩ := h
  have e1 : mvd (upd (upd (upd (upd dd 12 1) 11 1) 10 t) 13 0) = upd (upd (upd (upd (upd (upd (upd dd 12 1) 11 1) 10 t) 13 0) 4 t) 3 (dd 4)) 6 1 := by
    unfold mvd; rw [if_pos (show (upd (upd (upd (upd dd 12 1) 11 1) 10 t) 13 0) 13 = 0 from rfl), if_neg (show ¬ (upd (upd (upd (upd dd 12 1) 11 1) 10 t) 13 0) 11 = 0 from (by decide : ¬ (1 : Int32) = 0))]; rfl
  have e2 : mvk (upd (upd (upd (upd dd 12 1) 11 1) 10 t) 13 0) kt = upd (upd kt 0 (kt 0 + 1)) 3 (kt 3 + 1) := by
    unfold mvk; rw [if_pos (show (upd (upd (upd (upd dd 12 1) 11 1) 10 t) 13 0) 13 = 0 from rfl), if_neg (show ¬ (upd (upd (upd (upd dd 12 1) 11 1) 10 t) 13 0) 11 = 0 from (by decide : ¬ (1 : Int32) = 0))]
  refine Or.inr (Or.inr ⟨rfl, h5, Or.inr rfl, ?_⟩)
  dsimp only
  rw [e1, e2]
  refine ⟨⟨r1, r2, r3, r4, r5, r6, ⟨r7.2.1, rfl, r7.2.2.1, rfl, Or.inr rfl, r7.2.2.2.2.2⟩, ⟨?_, r8.2.1, r8.2.2.1, ?_, r8.2.2.2.2⟩, r9⟩, fun q => absurd (show (1 : Int32) = 0 from q) (by decide)⟩
  · show kt 0 + 1 = g 7 + 1
    rw [r8.1]
  · show kt 3 + 1 = g 10 + 1
    rw [r8.2.2.2.1]
theorem oc_nt {t : Int32} (h : q_rel mn g rg hq mf cd fg dd bm rr kt) (h5 : dd 5 = 0) : oc mn (-1) (upd (upd (upd g 0 (g 1)) 1 (g 1 + 4)) 2 1, rg, hq, mf, cd, fg, L, O) (upd (upd (upd (upd dd 12 1) 11 0) 10 t) 13 0, l1, l2, bm, rr, kt) := by
  obtain ⟨r1, r2, r3, r4, r5, r6, r7, r8, r9⟩ := h
  have e1 : mvd (upd (upd (upd (upd dd 12 1) 11 0) 10 t) 13 0) = upd (upd (upd (upd (upd (upd (upd dd 12 1) 11 0) 10 t) 13 0) 4 (dd 4 + 4)) 3 (dd 4)) 6 1 := by
    unfold mvd; rw [if_pos (show (upd (upd (upd (upd dd 12 1) 11 0) 10 t) 13 0) 13 = 0 from rfl), if_pos (show (upd (upd (upd (upd dd 12 1) 11 0) 10 t) 13 0) 11 = 0 from rfl)]; rfl
  have e2 : mvk (upd (upd (upd (upd dd 12 1) 11 0) 10 t) 13 0) kt = upd (upd kt 0 (kt 0 + 1)) 3 (kt 3 + 0) := by
    unfold mvk; rw [if_pos (show (upd (upd (upd (upd dd 12 1) 11 0) 10 t) 13 0) 13 = 0 from rfl), if_pos (show (upd (upd (upd (upd dd 12 1) 11 0) 10 t) 13 0) 11 = 0 from rfl)]
  refine Or.inr (Or.inr ⟨rfl, h5, Or.inr rfl, ?_⟩)
  dsimp only
  rw [e1, e2]
  refine ⟨⟨r1, r2, r3, r4, r5, r6, ⟨r7.2.1, ?_, r7.2.2.1, rfl, Or.inr rfl, r7.2.2.2.2.2⟩, ⟨?_, r8.2.1, r8.2.2.1, ?_, r8.2.2.2.2⟩, r9⟩, fun q => absurd (show (1 : Int32) = 0 from q) (by decide)⟩
  · show dd 4 + 4 = g 1 + 4
    rw [r7.2.1]
  · show kt 0 + 1 = g 7 + 1
    rw [r8.1]
  · show kt 3 + 0 = g 10
    rw [Int32.add_zero, r8.2.2.2.1]
theorem oc_lk {t : Int32} (h : q_rel mn g rg hq mf cd fg dd bm rr kt) (h5 : dd 5 = 0) : oc mn (-1) (upd (upd (upd (upd g 11 (g 11 + 1)) 0 (g 1 + 4)) 1 (g 1 + 8)) 2 0, rg, hq, mf, cd, fg, L, O) (upd (upd (upd (upd dd 12 1) 11 0) 10 t) 13 1, l1, l2, bm, rr, kt) := by
  obtain ⟨r1, r2, r3, r4, r5, r6, r7, r8, r9⟩ := h
  have e1 : mvd (upd (upd (upd (upd dd 12 1) 11 0) 10 t) 13 1) = upd (upd (upd (upd (upd (upd (upd dd 12 1) 11 0) 10 t) 13 1) 3 (dd 4 + 4)) 4 (dd 4 + 8)) 6 0 := by
    unfold mvd; rw [if_neg (show ¬ (upd (upd (upd (upd dd 12 1) 11 0) 10 t) 13 1) 13 = 0 from (by decide : ¬ (1 : Int32) = 0))]; rfl
  have e2 : mvk (upd (upd (upd (upd dd 12 1) 11 0) 10 t) 13 1) kt = upd (upd kt 0 (kt 0 + 1)) 4 (kt 4 + 1) := by
    unfold mvk; rw [if_neg (show ¬ (upd (upd (upd (upd dd 12 1) 11 0) 10 t) 13 1) 13 = 0 from (by decide : ¬ (1 : Int32) = 0))]
  refine Or.inr (Or.inr ⟨rfl, h5, Or.inr rfl, ?_⟩)
  dsimp only
  rw [e1, e2]
  refine ⟨⟨r1, r2, r3, r4, r5, r6, ⟨?_, ?_, r7.2.2.1, rfl, Or.inl rfl, r7.2.2.2.2.2⟩, ⟨?_, r8.2.1, r8.2.2.1, r8.2.2.2.1, ?_⟩, r9⟩, fun _ => ?_⟩
  · show dd 4 + 4 = g 1 + 4
    rw [r7.2.1]
  · show dd 4 + 8 = g 1 + 8
    rw [r7.2.1]
  · show kt 0 + 1 = g 7 + 1
    rw [r8.1]
  · show kt 4 + 1 = g 11 + 1
    rw [r8.2.2.2.2]
  · show g 1 + 8 = g 1 + 4 + 4
    rw [Int32.add_assoc]; rfl
/-! fields -/
def fI (w k : Int32) : Int32 := zz_ushr w k &&& 31
theorem fI_n (w k : Int32) : ∃ j : Nat, j < 32 ∧ fI w k = nI j := pk_andE _ 5 (by decide)
theorem fI_in (w k : Int32) : vp_in (fI w k) 32 := by
  obtain ⟨j, hj, e⟩ := fI_n w k
  rw [e]; exact vp_in_nI hj (by decide)
theorem fI_in67 (w k : Int32) : vp_in (fI w k) 67 := by
  obtain ⟨j, hj, e⟩ := fI_n w k
  rw [e]; exact vp_in_nI (by omega) (by decide)
theorem fI_lt (w k : Int32) : (fI w k).toNatClampNeg < 32 := by
  obtain ⟨j, hj, e⟩ := fI_n w k
  rw [e, nI_clamp (by omega)]; exact hj
theorem fI_31 (w k : Int32) : fI w k &&& 31 = fI w k := by
  obtain ⟨j, hj, e⟩ := fI_n w k
  rw [e, and31 (by omega), Nat.mod_eq_of_lt hj]
theorem fI_le0 (w k : Int32) : fI w k ≤ 0 ↔ fI w k = 0 := by
  obtain ⟨j, hj, e⟩ := fI_n w k
  rw [e, show (0 : Int32) = nI 0 from rfl, nI_leI (by omega) (by decide), nI_eq (by omega) (by decide)]; omega
theorem fI_c0 (w k : Int32) : (fI w k).toNatClampNeg = 0 ↔ fI w k = 0 := by
  obtain ⟨j, hj, e⟩ := fI_n w k
  rw [e, nI_clamp (by omega), show (0 : Int32) = nI 0 from rfl, nI_eq (by omega) (by decide)]
/-- a register's new value: register 0 stays -/
def wr (f : Nat → Int32) (r v : Int32) : Nat → Int32 := if r = 0 then f else upd f r.toNatClampNeg v
theorem pr_write {k v : Int32} {P : CoT → Prop} (h : P (g, wr rg (fI w k) v, hq, mf, cd, fg, L, O)) : wp_Pr_write ms mn g rg hq mf cd fg L O (fI w k) v P := by
  unfold wp_Pr_write
  unfold wr at h
  refine ⟨fun c => by rw [if_pos c] at h; exact h, fun c => ?_⟩
  rw [if_neg c] at h
  rw [fI_31]
  exact ⟨fI_in w k, h⟩
theorem pr_result {k v : Int32} {P : Int32 → CoT → Prop} (h : P 0 (g, wr rg (fI w k) v, hq, mf, cd, fg, L, O)) : wp_Pr_result ms mn g rg hq mf cd fg L O (fI w k) v P := pr_write h
theorem md_into {k v : Int32} {P : MdT → Prop} (h5 : dd 5 = 0) (h : P (dd, l1, l2, bm, wr rr (fI w k) v, kt)) : wp_Md_into ms dd l1 l2 bm rr kt (fI w k) v P := by
  unfold wp_Md_into
  unfold wr at h
  rw [fI_le0]
  refine ⟨fun c => by rw [if_pos c] at h; exact h, fun c => ⟨fun _ => ?_, fun q => absurd h5 q⟩⟩
  rw [if_neg c] at h
  exact ⟨fI_in67 w k, h⟩
theorem md_into_n {k v : Int32} {P : MdT → Prop} (h5 : ¬ dd 5 = 0) (h : P (dd, l1, l2, bm, rr, kt)) : wp_Md_into ms dd l1 l2 bm rr kt k v P := by
  unfold wp_Md_into
  exact ⟨fun _ => h, fun _ => ⟨fun q => absurd q h5, fun _ => h⟩⟩
theorem md_ends {r : Int32} {P : MdT → Prop} (h5 : dd 5 = 0) (h : P (upd dd 5 r, l1, l2, bm, rr, kt)) : wp_Md_ends ms dd l1 l2 bm rr kt r P := ⟨fun _ => h, fun q => absurd h5 q⟩
theorem md_ends_n {r : Int32} {P : MdT → Prop} (h5 : ¬ dd 5 = 0) (h : P (dd, l1, l2, bm, rr, kt)) : wp_Md_ends ms dd l1 l2 bm rr kt r P := ⟨fun q => absurd q h5, fun _ => h⟩
theorem wr_at {f : Nat → Int32} {r v : Int32} {j : Nat} (h : j ≠ r.toNatClampNeg) : wr f r v j = f j := by
  unfold wr
  split
  · rfl
  · exact pk_un h
theorem q_wr {k v : Int32} (h : q_rel mn g rg hq mf cd fg dd bm rr kt) : q_rel mn g (wr rg (fI w k) v) hq mf cd fg dd bm (wr rr (fI w k) v) kt := by
  obtain ⟨r1, r2, r3, r4, r5, r6, r7, r8, r9⟩ := h
  have hl := fI_lt w k
  refine ⟨fun j hj => ?_, ?_, ?_, ?_, fun j hj => ?_, ?_, r7, r8, r9⟩
  · unfold wr
    split
    · exact r1 j hj
    · by_cases c : j = (fI w k).toNatClampNeg
      · rw [c, pk_us, pk_us]
      · rw [pk_un c, pk_un c]; exact r1 j hj
  · unfold wr
    split
    · exact r2
    · rename_i c
      rw [pk_un (fun q => c ((fI_c0 w k).mp q.symm))]; exact r2
  · rw [wr_at (by omega)]; exact r3
  · rw [wr_at (by omega)]; exact r4
  · rw [wr_at (by omega)]; exact r5 j hj
  · rw [wr_at (by omega)]; exact r6
/-- reading: the class's and the reference's register are one -/
theorem pr_rs {P : Int32 → Prop} (h : P (fI w 21)) : wp_Pr_rs w P := fun _ e => e ▸ h
theorem pr_rt {P : Int32 → Prop} (h : P (fI w 16)) : wp_Pr_rt w P := fun _ e => e ▸ h
theorem pr_rd {P : Int32 → Prop} (h : P (fI w 11)) : wp_Pr_rd w P := fun _ e => e ▸ h
theorem pr_fun {P : Int32 → Prop} (h : P (w &&& 63)) : wp_Pr_function w P := h
theorem pr_op {P : Int32 → Prop} (h : P (zz_ushr w 26)) : wp_Pr_opcode w P := h
theorem md_field {k : Int32} {P : Int32 → Prop} (e9 : dd 9 = w) (h : P (fI w k)) : wp_Md_field ms dd l1 l2 bm rr kt k P := by
  unfold wp_Md_field
  rw [e9]
  exact fun _ e => e ▸ h
/-- a register by a field -/
def rv (f : Nat → Int32) (w k : Int32) : Int32 := f (fI w k).toNatClampNeg
theorem md_rs {P : Int32 → Prop} (e9 : dd 9 = w) (hr : q_rel mn g rg hq mf cd fg dd bm rr kt) (h : P (rv rg w 21)) : wp_Md_rs ms dd l1 l2 bm rr kt P := by
  unfold wp_Md_rs
  refine md_field e9 ⟨fI_in67 w 21, fun x ex => ?_⟩
  rw [ex, hr.1 _ (fI_lt w 21)]; exact h
theorem md_rt {P : Int32 → Prop} (e9 : dd 9 = w) (hr : q_rel mn g rg hq mf cd fg dd bm rr kt) (h : P (rv rg w 16)) : wp_Md_rt ms dd l1 l2 bm rr kt P := by
  unfold wp_Md_rt
  refine md_field e9 ⟨fI_in67 w 16, fun x ex => ?_⟩
  rw [ex, hr.1 _ (fI_lt w 16)]; exact h
theorem bm_lo {n : Int} {m : Nat} (h1 : 0 ≤ n) (h2 : n < (m + 1) / 2) : n.bmod m = n := Int.bmod_eq_of_le (by omega) (by omega)
theorem bm_key (m : Nat) (hm : m < 65536) : ((m : Int) * 65536).bmod 4294967296 / 65536 = (m : Int).bmod 65536 := by
  rcases Nat.lt_or_ge m 32768 with c | c
  · rw [Int.bmod_eq_of_le (by omega) (by omega), Int.bmod_eq_of_le (by omega) (by omega), Int.mul_ediv_cancel _ (by decide)]
  · have e1 : ((m : Int) * 65536).bmod 4294967296 = (((m : Int) - 65536) * 65536).bmod 4294967296 := by
      rw [Int.bmod_eq_bmod_iff_bmod_sub_eq_zero, show (m : Int) * 65536 - ((m : Int) - 65536) * 65536 = 4294967296 by omega]; decide
    have e2 : (m : Int).bmod 65536 = ((m : Int) - 65536).bmod 65536 := by
      rw [Int.bmod_eq_bmod_iff_bmod_sub_eq_zero, show (m : Int) - ((m : Int) - 65536) = 65536 by omega]; decide
    rw [e1, e2, Int.bmod_eq_of_le (by omega) (by omega), Int.bmod_eq_of_le (by omega) (by omega), Int.mul_ediv_cancel _ (by decide)]
theorem off_e (w : Int32) : zz_shr (zz_shl w 16) 16 = w.toInt16.toInt32 := by
  apply Int32.toInt_inj.mp
  unfold zz_shr zz_shl
  rw [pk_shr _ (16 &&& 31) 16 (by decide), Int.shiftRight_eq_div_pow]
  have h1 := pk_shl w (16 &&& 31) 16 (by decide)
  have e1 : (w <<< (16 &&& 31 : Int32)).toInt = ((w <<< (16 &&& 31 : Int32)).toBitVec.toNat : Int).bmod 4294967296 := BitVec.toInt_eq_toNat_bmod _
  have e2 : w.toInt16.toInt32.toInt = (w.toBitVec.toNat : Int).bmod 65536 := by
    show (w.toInt16.toInt32).toInt = _
    rw [Int16.toInt_toInt32]
    show (BitVec.signExtend 16 w.toBitVec).toInt = _
    rw [BitVec.toInt_signExtend, BitVec.toInt_eq_toNat_bmod]
    simp [Int.bmod_bmod_of_dvd]
  rw [e1, e2, h1]
  generalize w.toBitVec.toNat = n
  have hn : n % 65536 < 65536 := Nat.mod_lt _ (by decide)
  have e3 : (n : Int).bmod 65536 = ((n % 65536 : Nat) : Int).bmod 65536 := by
    rw [Int.natCast_emod]
    exact (Int.emod_bmod (n : Int) 65536).symm
  have e4 : ((n * 2 ^ 16 % 2 ^ 32 : Nat) : Int) = ((n % 65536 : Nat) : Int) * 65536 := by
    have : n * 2 ^ 16 % 2 ^ 32 = n % 65536 * 65536 := by omega
    rw [this]; rfl
  rw [e3, e4]
  exact bm_key _ hn
theorem md_offset {P : Int32 → Prop} (e9 : dd 9 = w) (h : P w.toInt16.toInt32) : wp_Md_offset ms dd l1 l2 bm rr kt P := by
  unfold wp_Md_offset
  rw [e9, off_e]
  exact fun _ e => e ▸ h
end OCS
