/-! THE START, second: the memory behind the constructor -/
section StartB
def μ0 : Mm := (fun _ _ => 0, fun _ _ => none, fun _ _ => 0)
def μ6 : Mm := nwM (nwM (nwM (nwM (nwM (nwM (i_X7_init 1 (nwM μ0 0) 0) 139) 140) 141) 142) 143) 144
def μS : Mm := sI (sI (sI (sI (sI (sI (sI (sI μ6 139 (ix 0) 12) 139 (ix 1) 8) 139 (ix 2) 60) 139 (ix 3) 100) 139 (ix 4) 20) 139 (ix 5) 1) 139 (ix 6) 2) 139 (ix 7) 5
theorem b_RS : ∀ i, i < 5 → RSt μS (9 + 26 * i) := by unfold RSt HdR; decide +kernel
theorem b_RF : RF μS := by
  refine ⟨fun b hb => ?_, ?_, ?_, ?_⟩
  · rcases hb with rfl | rfl | rfl | rfl | rfl
    · exact b_RS 0 (by decide)
    · exact b_RS 1 (by decide)
    · exact b_RS 2 (by decide)
    · exact b_RS 3 (by decide)
    · exact b_RS 4 (by decide)
  · unfold HdR; decide +kernel
  · decide +kernel
  · decide +kernel
theorem b_s : (RW μS 0 = nI 12 ∧ RW μS 8 = nI 0 ∧ RW μS 9 = nI 0) ∧ (RW μS 1 = nI 8 ∧ RW μS 2 = nI 60 ∧ RW μS 3 = nI 100 ∧ RW μS 4 = nI 20 ∧ RW μS 5 = nI 1 ∧ RW μS 6 = nI 2 ∧ RW μS 7 = nI 5) ∧ (RW μS 10 = 0 ∧ RW μS 11 = 0 ∧ RW μS 12 = 0 ∧ RW μS 13 = 0) := by decide +kernel
theorem b_d : ∀ d, d < 12 → RW μS (14 + 3 * d) = nI 0 ∧ RW μS (14 + 3 * d + 1) = nI 0 ∧ RW μS (14 + 3 * d + 2) = nI 0 ∧ μS.1 11 d = nI 0 ∧ μS.1 12 d = nI 0 ∧ μS.1 13 d = nI 0 := by decide +kernel
theorem b_c : (μS.1 10 0 = RW μS 0 ∧ μS.1 10 1 = RW μS 10) ∧ (∀ j, j < 7 → μS.1 14 j = RW μS (1 + j)) ∧ (μS.1 9 4 = RW μS 8 ∧ μS.1 9 6 = RW μS 9 ∧ μS.1 9 7 = RW μS 13) := by decide +kernel
theorem b_l : ∀ l, l < 6 → (μS.1 (17 + 2 * l) 2 = 0 ∧ μS.1 (17 + 2 * l) 3 = 0) ∧ ∀ r, r < 6 → μS.1 (18 + 2 * l) r = 0 := by decide +kernel
theorem b_k : ∀ k, k < 6 → μS.1 (29 + k) 0 = -1 ∧ μS.1 (29 + k) 1 = -1 ∧ ∀ j, j < 6 → 2 ≤ j → μS.1 (29 + k) j = 0 := by decide +kernel
theorem b_o : μS.1 0 2 = nI 0 ∧ μS.1 1 1 = 0 ∧ ∀ j, j < 4 → μS.2.1 4 j = some (35 + 26 * j) := by decide +kernel
theorem b_z : ∀ d, d < 24 → μS.1 141 d = 0 := by decide +kernel
theorem b_IV : IV μS := by
  obtain ⟨⟨s0, s8, s9⟩, ⟨s1, s2, s3, s4, s5, s6, s7⟩, s10, s11, s12, s13⟩ := b_s
  obtain ⟨c1, c2, c3⟩ := b_c
  obtain ⟨o1, o2, o4⟩ := b_o
  refine ⟨12, 0, 0, ⟨b_RF, ⟨c1, fun d hd => ?_, c2, c3, fun l hl => absurd hl (by omega), fun l _ hl => b_l l hl, fun k hk => absurd hk (by omega), fun k _ hk => ⟨(b_k k hk).1, (b_k k hk).2.1, fun j h2 h6 => (b_k k hk).2.2 j h6 h2⟩⟩, ⟨⟨s0, by omega, by omega⟩, ⟨s8, by omega⟩, ⟨s9, by omega⟩, ⟨⟨8, by omega, by omega, s1⟩, ⟨60, by omega, by omega, s2⟩, ⟨100, by omega, by omega, s3⟩, ⟨20, by omega, by omega, s4⟩, ⟨1, by omega, by omega, s5⟩, ⟨2, by omega, by omega, s6⟩, ⟨5, by omega, by omega, s7⟩⟩, fun d hd => ⟨⟨0, by omega, by omega, (b_d d hd).1⟩, ⟨0, by omega, by omega, (b_d d hd).2.1⟩⟩, fun l hl => absurd hl (by omega), fun k hk => absurd hk (by omega), fun j k d hj => absurd hj (by omega), s11.symm, s12.symm⟩⟩, ⟨0, fun j => 35 + 26 * j, by omega, o1, fun j hj => ⟨o4 j hj, ?_, by show 35 + 26 * j ≠ 9; omega⟩, fun i j hi hj e => by have e : 35 + 26 * i = 35 + 26 * j := e; omega⟩, o2, s11.symm, fun d _ hd => b_z d hd⟩
  · obtain ⟨x1, x2, x3, x4, x5, x6⟩ := b_d d hd
    exact ⟨x4.trans x1.symm, x5.trans x2.symm, x6.trans x3.symm⟩
  · rcases (show j = 0 ∨ j = 1 ∨ j = 2 ∨ j = 3 by omega) with rfl | rfl | rfl | rfl
    · exact Or.inr (Or.inl rfl)
    · exact Or.inr (Or.inr (Or.inl rfl))
    · exact Or.inr (Or.inr (Or.inr (Or.inl rfl)))
    · exact Or.inr (Or.inr (Or.inr (Or.inr rfl)))
end StartB
