/-! PURE: saving and undoing -/
section PureK
theorem sR_at {μ : Mm} {k j : Nat} {v : Option Nat} : (sR μ k j v).2.1 k j = v := by simp [sR, up2]
theorem sR_of {μ : Mm} {k j b : Nat} {v : Option Nat} (h : b ≠ j) : (sR μ k j v).2.1 k b = μ.2.1 k b := by simp [sR, up2, h]
theorem sR_rw {μ : Mm} {k j a : Nat} {v : Option Nat} (h : a ≠ k) : (sR μ k j v).2.1 a = μ.2.1 a := by funext b; simp [sR, up2, h]
theorem rf_row {K : Nat → Nat × Nat} {μ μ' : Mm} {k j c : Nat} (h : μ'.2.1 k = μ.2.1 k) : rf K μ' k j c = rf K μ k j c := by
  unfold rf
  rw [h]
theorem PM.r {μ : Mm} {p : Nat → Nat} (h : PM μ p) {j : Nat} (hj : j < 4) : rf KF μ 4 j 4 = some (p j) := rf_of (h.1 j hj).1 (by rw [(sb_k (h.1 j hj).2.1).1])
/-- saved once more on the class's side: q says where the states lie now -/
theorem c_save {μ : Mm} (hR : RF μ) {n : Nat} (hn : n ≤ 4) (h2 : μ.1 0 2 = nI n) {p : Nat → Nat} (hp : PM μ p) : ∃ μ' q, f_X7_save KF μ 0 = some μ' ∧ FS μ μ' ∧ PM μ' q ∧
    ((n < 4 ∧ μ'.1 0 2 = nI (n + 1) ∧ (∀ i, i < n → ∀ a, q i ≤ a → a ≤ q i + 25 → q i = p i ∧ μ'.1 a = μ.1 a) ∧ Cop μ' (q n) μ 9) ∨
     (n = 4 ∧ μ'.1 0 2 = nI 4 ∧ (∀ i, i < 3 → ∀ a, q i ≤ a → a ≤ q i + 25 → q i = p (i + 1) ∧ μ'.1 a = μ.1 a) ∧ Cop μ' (q 3) μ 9)) := by
  by_cases e4 : n = 4
  · subst e4
    obtain ⟨μ1, e1, f1, f2, f3, f4, f5⟩ := lp (fun m i ν => f_X7_save_l17 KF 0 (p 0) m ν (nI i)) 4
      (fun i ν => 1 ≤ i ∧ ν.1 = μ.1 ∧ ν.2.2 = μ.2.2 ∧ (∀ a, a ≠ 4 → ν.2.1 a = μ.2.1 a) ∧ (∀ j, j + 1 < i → ν.2.1 4 j = some (p (j + 1))) ∧ ∀ j, i ≤ j + 1 → j < 4 → ν.2.1 4 j = some (p j))
      (fun ν => ν.1 = μ.1 ∧ ν.2.2 = μ.2.2 ∧ (∀ a, a ≠ 4 → ν.2.1 a = μ.2.1 a) ∧ (∀ j, j + 1 < 4 → ν.2.1 4 j = some (p (j + 1))) ∧ ∀ j, 4 ≤ j + 1 → j < 4 → ν.2.1 4 j = some (p j))
      (by
        rintro m i ν hi ⟨p0, p1, p2, p3, p4, p5⟩
        have r0 : rf KF ν 0 1 11 = some 4 := (rf_row (p3 0 (by omega))).trans (r_01 hR)
        have r4 : rf KF ν 4 i 4 = some (p i) := rf_of (p5 i (by omega) hi) (by rw [(sb_k (hp.1 i hi).2.1).1])
        refine Or.inr ⟨sR ν 4 (i - 1) (some (p i)), ?_, by omega, p1, p2, fun a ha => ?_, fun j hj => ?_, fun j hj hj' => ?_⟩
        · simp (disch := omega) only [f_X7_save_l17, L4, L1, leN, if_neg (Nat.not_le.mpr hi), r0, bd_s, l1_s, K4, gd_n, ix_n, r4, pk_sub, nI_add]
        · rw [sR_rw ha]
          exact p3 a ha
        · by_cases e : j = i - 1
          · rw [e, sR_at, show i - 1 + 1 = i by omega]
          · rw [sR_of e]
            exact p4 j (by omega)
        · rw [sR_of (by omega)]
          exact p5 j (by omega) hj')
      (by
        rintro m ν ⟨p0, p1⟩
        refine ⟨ν, ?_, p1⟩
        simp (disch := omega) only [f_X7_save_l17, L4, leN, if_pos (Nat.le_refl 4)]) 3 1 μ FU (by omega) (by unfold FU; omega) ⟨by omega, rfl, rfl, fun _ _ => rfl, fun j hj => absurd hj (by omega), fun j _ hj => (hp.1 j hj).1⟩
    let μ2 := sI (sR μ1 4 3 (some (p 0))) 0 2 (nI 3)
    have g1 : ∀ a, a ≠ 0 → μ2.1 a = μ.1 a := fun a ha => by
      show (sI (sR μ1 4 3 (some (p 0))) 0 2 (nI 3)).1 a = μ.1 a
      rw [sI_rw ha]
      exact congrFun f1 a
    have g2 : ∀ a, a ≠ 4 → μ2.2.1 a = μ.2.1 a := fun a ha => (sR_rw ha).trans (f3 a ha)
    have hR2 : RF μ2 := hR.cg (fun k j hk _ => by rw [g2 k hk])
    let q : Nat → Nat := fun j => if j < 3 then p (j + 1) else p 0
    have hq : PM μ2 q := by
      refine ⟨fun j hj => ?_, fun i j hi hj e => ?_⟩
      · by_cases h3 : j < 3
        · rw [show q j = p (j + 1) from if_pos h3]
          refine ⟨?_, (hp.1 (j + 1) (by omega)).2⟩
          rw [show μ2.2.1 4 j = μ1.2.1 4 j from sR_of (by omega)]
          exact f4 j (by omega)
        · rw [show q j = p 0 from if_neg h3]
          refine ⟨?_, (hp.1 0 (by omega)).2⟩
          rw [show j = 3 by omega]
          exact sR_at
      · by_cases hi3 : i < 3 <;> by_cases hj3 : j < 3
        · rw [show q i = p (i + 1) from if_pos hi3, show q j = p (j + 1) from if_pos hj3] at e
          have := hp.2 _ _ (by omega) (by omega) e
          omega
        · rw [show q i = p (i + 1) from if_pos hi3, show q j = p 0 from if_neg hj3] at e
          have := hp.2 _ _ (by omega) (by omega) e
          omega
        · rw [show q i = p 0 from if_neg hi3, show q j = p (j + 1) from if_pos hj3] at e
          have := hp.2 _ _ (by omega) (by omega) e
          omega
        · omega
    have q3 : q 3 = p 0 := if_neg (by omega)
    obtain ⟨s1, s2, s3⟩ := hp.1 0 (by omega)
    obtain ⟨μ3, e3, k3, c3⟩ := c_takeOver hR2 s2 sb9 s3
    have d9 : p 0 ≥ 35 := by rcases s2 with h | h | h | h | h <;> omega
    have d139 : p 0 ≤ 113 := by rcases s2 with h | h | h | h | h <;> omega
    have k3' : ∀ a, ¬ (p 0 ≤ a ∧ a ≤ p 0 + 25) → μ3.1 a = μ2.1 a := fun a ha => k3.2 a ha
    have z0 : μ3.1 0 2 = nI 3 := by rw [k3' 0 (by omega)]; exact sI_at
    refine ⟨sI μ3 0 2 (nI 4), q, ?_, ⟨fun a ha => ?_, fun a ha => ?_, ?_⟩, ⟨fun j hj => ?_, hq.2⟩, Or.inr ⟨rfl, sI_at, fun i hi a ha ha' => ⟨if_pos hi, ?_⟩, ?_⟩⟩
    · unfold f_X7_save
      have r0 := r_01 hR
      have e1' : f_X7_save_l17 KF 0 (p 0) FU μ (nI 1) = some μ1 := e1
      have r1 : rf KF μ1 0 1 11 = some 4 := (rf_row (f3 0 (by omega))).trans r0
      have r4 : rf KF μ 4 0 4 = some (p 0) := hp.r (by omega)
      have x0 : (sR μ1 4 3 (some (p 0))).1 0 2 - 1 = nI 3 := by
        show μ1.1 0 2 - 1 = nI 3
        rw [f1, h2]
        rfl
      have r2 : rf KF μ2 0 1 11 = some 4 := r_01 hR2
      have r24 : rf KF μ2 4 3 4 = some (p 0) := by rw [← q3]; exact hq.r (by omega)
      have y0 : μ2.1 0 2 = nI 3 := sI_at
      have x3 : μ3.1 0 2 + 1 = nI 4 := by rw [z0]; rfl
      rw [h2, if_pos (show nI 4 = 4 from rfl)]
      simp (disch := omega) only [r0, bd_s, l1_s, K4, L0, gd_n, ix_n, r4]
      rw [show f_X7_save_l17 KF 0 (p 0) FU μ 1 = some μ1 from e1']
      simp (disch := omega) only [r1, bd_s, l1_s, K4, L3, gd_n, ix_n, x0]
      rw [show sI (sR μ1 4 3 (some (p 0))) 0 2 (nI 3) = μ2 from rfl]
      simp (disch := omega) only [r2, bd_s, l1_s, K4, y0, gd_n, ix_n, r24, r_03 hR2, e3, x3]
    · rw [sI_rw (by omega), k3' a (by omega)]
      exact g1 a (by omega)
    · show μ3.2.1 a = μ.2.1 a
      rw [k3.1]
      exact g2 a ha
    · show μ3.2.2 = μ.2.2
      rw [k3.1]
      exact f2
    · show μ3.2.1 4 j = _ ∧ _
      rw [k3.1]
      exact hq.1 j hj
    · have hne : q i ≠ p 0 := fun e => by
        have := hq.2 i 3 (by omega) (by omega) (e.trans q3.symm)
        omega
      have hd := sb_ne (hq.1 i (by omega)).2.1 s2 hne
      have l0 : 35 ≤ q i := by
        have h9 := (hq.1 i (by omega)).2.2
        rcases (hq.1 i (by omega)).2.1 with h | h | h | h | h <;> omega
      rw [sI_rw (by omega), k3' a (by omega)]
      exact g1 a (by omega)
    · rw [q3]
      obtain ⟨⟨c1, c2⟩, c4, c5, ⟨c6, c7, c8⟩, c9, c10⟩ := c3
      have t : ∀ a, a ≠ 0 → (sI μ3 0 2 (nI 4)).1 a = μ3.1 a := fun a ha => sI_rw ha
      refine ⟨⟨?_, ?_⟩, fun j hj => ?_, fun j hj => ?_, ⟨?_, ?_, ?_⟩, fun l hl => ⟨fun j hj => ?_, fun j hj => ?_⟩, fun k hk j hj => ?_⟩
      · rw [t _ (by omega), c1, g1 _ (by omega)]
      · rw [t _ (by omega), c2, g1 _ (by omega)]
      · rw [t _ (by omega), t _ (by omega), t _ (by omega), ← g1 (9 + 2) (by omega), ← g1 (9 + 3) (by omega), ← g1 (9 + 4) (by omega)]
        exact c4 j hj
      · rw [t _ (by omega), c5 j hj, g1 _ (by omega)]
      · rw [t _ (by omega), c6, g1 _ (by omega)]
      · rw [t _ (by omega), c7, g1 _ (by omega)]
      · rw [t _ (by omega), c8, g1 _ (by omega)]
      · rw [t _ (by omega), (c9 l hl).1 j hj, g1 _ (by omega)]
      · rw [t _ (by omega), (c9 l hl).2 j hj, g1 _ (by omega)]
      · rw [t _ (by omega), c10 k hk j hj, g1 _ (by omega)]
  · obtain ⟨s1, s2, s3⟩ := hp.1 n (by omega)
    obtain ⟨μ3, e3, k3, c3⟩ := c_takeOver hR s2 sb9 s3
    have d9 : p n ≥ 35 := by rcases s2 with h | h | h | h | h <;> omega
    have d139 : p n ≤ 113 := by rcases s2 with h | h | h | h | h <;> omega
    have k3' : ∀ a, ¬ (p n ≤ a ∧ a ≤ p n + 25) → μ3.1 a = μ.1 a := fun a ha => k3.2 a ha
    have x3 : μ3.1 0 2 + 1 = nI (n + 1) := by rw [k3' 0 (by omega), h2, nI_1]
    refine ⟨sI μ3 0 2 (nI (n + 1)), p, ?_, ⟨fun a ha => ?_, fun a ha => ?_, ?_⟩, ⟨fun j hj => ?_, hp.2⟩, Or.inl ⟨by omega, sI_at, fun i hi a ha ha' => ⟨rfl, ?_⟩, ?_⟩⟩
    · unfold f_X7_save
      have r4 : rf KF μ 4 n 4 = some (p n) := hp.r (by omega)
      rw [h2, if_neg (show ¬ nI n = 4 by rw [L4, eqN (by omega) (by omega)]; exact e4)]
      simp (disch := omega) only [r_01 hR, bd_s, l1_s, K4, gd_n, ix_n, r4, r_03 hR, e3, x3]
    · rw [sI_rw (by omega), k3' a (by omega)]
    · show μ3.2.1 a = μ.2.1 a
      rw [k3.1]
    · show μ3.2.2 = μ.2.2
      rw [k3.1]
    · show μ3.2.1 4 j = _ ∧ _
      rw [k3.1]
      exact hp.1 j hj
    · have hne : p i ≠ p n := fun e => by
        have := hp.2 i n (by omega) (by omega) e
        omega
      have hd := sb_ne (hp.1 i (by omega)).2.1 s2 hne
      have l0 : 35 ≤ p i := by
        have h9 := (hp.1 i (by omega)).2.2
        rcases (hp.1 i (by omega)).2.1 with h | h | h | h | h <;> omega
      rw [sI_rw (by omega), k3' a (by omega)]
    · obtain ⟨⟨c1, c2⟩, c4, c5, ⟨c6, c7, c8⟩, c9, c10⟩ := c3
      have t : ∀ a, a ≠ 0 → (sI μ3 0 2 (nI (n + 1))).1 a = μ3.1 a := fun a ha => sI_rw ha
      refine ⟨⟨?_, ?_⟩, fun j hj => ?_, fun j hj => ?_, ⟨?_, ?_, ?_⟩, fun l hl => ⟨fun j hj => ?_, fun j hj => ?_⟩, fun k hk j hj => ?_⟩
      · rw [t _ (by omega), c1]
      · rw [t _ (by omega), c2]
      · rw [t _ (by omega), t _ (by omega), t _ (by omega)]
        exact c4 j hj
      · rw [t _ (by omega), c5 j hj]
      · rw [t _ (by omega), c6]
      · rw [t _ (by omega), c7]
      · rw [t _ (by omega), c8]
      · rw [t _ (by omega), (c9 l hl).1 j hj]
      · rw [t _ (by omega), (c9 l hl).2 j hj]
      · rw [t _ (by omega), c10 k hk j hj]
end PureK
