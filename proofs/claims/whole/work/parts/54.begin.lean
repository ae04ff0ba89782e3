/-! THE START, second: the memory behind the constructors -/
section StartB
def μ0 : Mm := (fun _ _ => 0, fun _ _ => none, fun _ _ => 0)
def μ7 : Mm := i_X7_init 1 (nwM μ0 0) 0
def μ8 : Mm := i_X8_init 140 (nwM μ7 139) 139
def μS : Mm := nwM μ8 145
theorem b_RS : ∀ i, i < 5 → RSt μS (9 + 26 * i) := by unfold RSt HdR; decide +kernel
theorem b_RF : RF μS := by
  refine ⟨fun b hb => ?_, ?_, ?_, ?_, ?_⟩
  · rcases hb with rfl | rfl | rfl | rfl | rfl
    · exact b_RS 0 (by decide)
    · exact b_RS 1 (by decide)
    · exact b_RS 2 (by decide)
    · exact b_RS 3 (by decide)
    · exact b_RS 4 (by decide)
  · unfold HdR; decide +kernel
  · decide +kernel
  · decide +kernel
  · decide +kernel
theorem b_s : (μS.1 140 0 = nI 12 ∧ μS.1 140 8 = nI 0 ∧ μS.1 140 9 = nI 0) ∧ (μS.1 140 1 = nI 8 ∧ μS.1 140 2 = nI 60 ∧ μS.1 140 3 = nI 100 ∧ μS.1 140 4 = nI 20 ∧ μS.1 140 5 = nI 1 ∧ μS.1 140 6 = nI 2 ∧ μS.1 140 7 = nI 5) ∧ (μS.1 140 10 = 0 ∧ μS.1 140 11 = 0 ∧ μS.1 140 12 = 0 ∧ μS.1 140 13 = 0) := by decide +kernel
theorem b_d : ∀ d, d < 12 → μS.1 140 (14 + 3 * d) = nI 0 ∧ μS.1 140 (14 + 3 * d + 1) = nI 0 ∧ μS.1 140 (14 + 3 * d + 2) = nI 0 ∧ μS.1 11 d = nI 0 ∧ μS.1 12 d = nI 0 ∧ μS.1 13 d = nI 0 := by decide +kernel
theorem b_c : (μS.1 10 0 = μS.1 140 0 ∧ μS.1 10 1 = μS.1 140 10) ∧ (∀ j, j < 7 → μS.1 14 j = μS.1 140 (1 + j)) ∧ (μS.1 9 4 = μS.1 140 8 ∧ μS.1 9 6 = μS.1 140 9 ∧ μS.1 9 7 = μS.1 140 13) := by decide +kernel
theorem b_l : ∀ l, l < 6 → (μS.1 (17 + 2 * l) 2 = 0 ∧ μS.1 (17 + 2 * l) 3 = 0) ∧ ∀ r, r < 6 → μS.1 (18 + 2 * l) r = 0 := by decide +kernel
theorem b_k : ∀ k, k < 6 → μS.1 (29 + k) 0 = -1 ∧ μS.1 (29 + k) 1 = -1 ∧ ∀ j, j < 6 → 2 ≤ j → μS.1 (29 + k) j = 0 := by decide +kernel
theorem b_o : (μS.1 0 2 = nI 0 ∧ μS.1 139 3 = nI 0) ∧ (μS.1 1 1 = nI 0 ∧ μS.1 139 6 = nI 0) ∧ μS.1 139 4 = 0 ∧ ∀ j, j < 4 → μS.2.1 4 j = some (35 + 26 * j) := by decide +kernel
theorem b_IV : IV μS μS := by
  obtain ⟨⟨s0, s8, s9⟩, ⟨s1, s2, s3, s4, s5, s6, s7⟩, s10, s11, s12, s13⟩ := b_s
  obtain ⟨c1, c2, c3⟩ := b_c
  obtain ⟨o1, o2, o3, o4⟩ := b_o
  refine ⟨12, 0, 0, 0, 0, ⟨b_RF, b_RF, ⟨c1, fun d hd => ?_, c2, c3, fun l hl => absurd hl (by omega), fun l _ hl => b_l l hl, fun k hk => absurd hk (by omega), fun k _ hk => ⟨(b_k k hk).1, (b_k k hk).2.1, fun j h2 h6 => (b_k k hk).2.2 j h6 h2⟩⟩, ⟨⟨s0, by omega, by omega⟩, ⟨s8, by omega⟩, ⟨s9, by omega⟩, ⟨⟨8, by omega, by omega, s1⟩, ⟨60, by omega, by omega, s2⟩, ⟨100, by omega, by omega, s3⟩, ⟨20, by omega, by omega, s4⟩, ⟨1, by omega, by omega, s5⟩, ⟨2, by omega, by omega, s6⟩, ⟨5, by omega, by omega, s7⟩⟩, fun d hd => ⟨⟨0, by omega, by omega, (b_d d hd).1⟩, ⟨0, by omega, by omega, (b_d d hd).2.1⟩⟩, fun l hl => absurd hl (by omega), fun k hk => absurd hk (by omega), fun j k d hj => absurd hj (by omega), s11.symm, s12.symm⟩⟩, ⟨⟨o1.1, o1.2, by omega⟩, fun j => 35 + 26 * j, ⟨fun j hj => ⟨o4 j hj, ?_, by show 35 + 26 * j ≠ 9; omega⟩, fun i j hi hj e => by have e : 35 + 26 * i = 35 + 26 * j := e; omega⟩, fun i hi => absurd hi (by omega)⟩, ⟨⟨o2.1, o2.2, by omega⟩, fun j hj => absurd hj (by omega)⟩, o3⟩
  · obtain ⟨x1, x2, x3, x4, x5, x6⟩ := b_d d hd
    exact ⟨x4.trans x1.symm, x5.trans x2.symm, x6.trans x3.symm⟩
  · rcases (show j = 0 ∨ j = 1 ∨ j = 2 ∨ j = 3 by omega) with rfl | rfl | rfl | rfl
    · exact Or.inr (Or.inl rfl)
    · exact Or.inr (Or.inr (Or.inl rfl))
    · exact Or.inr (Or.inr (Or.inr (Or.inl rfl)))
    · exact Or.inr (Or.inr (Or.inr (Or.inr rfl)))
end StartB
