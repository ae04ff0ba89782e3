/-! PURE: the whole of both, before and after a wish -/
section PureW
def IV (μ η : Mm) : Prop := ∃ D L C n m, CR D L C μ η ∧ SV n μ η ∧ TX m μ η ∧ η.1 139 4 = 0
/-- the class's side leaves the reference's objects, the reference's side the class's -/
def CF (μ μ' : Mm) : Prop := (∀ a, 139 ≤ a → μ'.1 a = μ.1 a) ∧ (∀ a, a ≠ 4 → a ≠ 1 → μ'.2.1 a = μ.2.1 a) ∧ μ'.2.2 = μ.2.2
def MF (η η' : Mm) : Prop := (∀ a, a < 139 → η'.1 a = η.1 a) ∧ η'.2 = η.2
theorem f7 {η : Mm} {v : Int32} : FrI (fun a => a = 139) η (sI η 139 7 v) := FrI.rfl.sI rfl
theorem CR.s7 {D L C : Nat} {μ η : Mm} (h : CR D L C μ η) (v : Int32) : CR D L C μ (sI η 139 7 v) := h.cg h.1 (RF.sI h.2.1) (fun _ _ _ => rfl) (fun j _ => sI_no (by omega))
theorem SV.s7 {n : Nat} {μ η : Mm} (h : SV n μ η) (v : Int32) : SV n μ (sI η 139 7 v) := h.cg rfl rfl (fun _ _ _ => rfl) (sI_of (by omega)) (sI_rw (by omega))
theorem TX.s7 {m : Nat} {μ η : Mm} (h : TX m μ η) (v : Int32) : TX m μ (sI η 139 7 v) := h.cg rfl rfl (sI_of (by omega)) (sI_rw (by omega))
theorem IV.s7 {μ η : Mm} (h : IV μ η) (v : Int32) : IV μ (sI η 139 7 v) := by
  obtain ⟨D, L, C, n, m, h1, h2, h3, h4⟩ := h
  exact ⟨D, L, C, n, m, h1.s7 v, h2.s7 v, h3.s7 v, by rw [sI_of (by omega)]; exact h4⟩
/-- a wish that is granted: saved, then done -/
theorem grant {D L C n m : Nat} {μ η : Mm} (h : CR D L C μ η) (hs : SV n μ η) (ht : TX m μ η) (h4 : η.1 139 4 = 0) {act : Mm → Option (Int32 × Mm)} {ref : Option (Int32 × Mm)}
    (g : ∀ μ1 η1, CR D L C μ1 η1 → f_X8_saves KF (sI η 139 7 0) 139 = some η1 → η1.1 140 = η.1 140 → ∃ v μ2 η2 D' L' C', act μ1 = some (v, μ2) ∧ ref = some (v, η2) ∧ CR D' L' C' μ2 η2 ∧ FN μ1 μ2 ∧ FR η1 η2 ∧ ¬ v < 0) :
    ∃ v μ1 μ2 η2, f_X7_save KF μ 0 = some μ1 ∧ RF μ1 ∧ act μ1 = some (v, μ2) ∧ ref = some (v, η2) ∧ IV μ2 η2 ∧ η2.1 139 7 = 0 ∧ CF μ μ2 ∧ MF η η2 := by
  obtain ⟨n', μ1, η1, e1, e2, k1, k2, k3, k4⟩ := b_save (h.s7 0) (hs.s7 0) (by rw [sI_of (by omega)]; exact h4)
  have e140 : η1.1 140 = η.1 140 := by
    rw [k4.1.2 140 (by intro h; have h : 140 = 139 ∨ 140 = 142 := h; omega)]
    exact sI_rw (by omega)
  obtain ⟨v, μ2, η2, D', L', C', y1, y2, y3, y4, y5, y6⟩ := g μ1 η1 k1 e2 e140
  have m1 : ∀ a, ¬ (5 ≤ a ∧ a ≤ 34) → μ2.1 a = μ1.1 a := fun a ha => y4.2 a ha
  have m2 : ∀ a, ¬ (a = 140 ∨ a = 141) → η2.1 a = η1.1 a := fun a ha => y5.2 a ha
  have m3 : ∀ a, ¬ (a = 139 ∨ a = 142) → η1.1 a = (sI η 139 7 0).1 a := fun a ha => k4.1.2 a ha
  have m139 : ∀ j, j ≠ 3 → η2.1 139 j = (sI η 139 7 0).1 139 j := fun j hj => by
    rw [m2 139 (by omega)]
    exact k4.2 j hj
  refine ⟨v, μ1, μ2, η2, e1, k1.1, y1, y2, ⟨D', L', C', n', m, y3, k2.cg (by rw [m1 0 (by omega)]) (by rw [y4.1]) (fun a ha ha' => m1 a (by omega)) (by rw [m2 139 (by omega)]) (m2 142 (by omega)), ht.cg ?_ ?_ ?_ ?_, ?_⟩, ?_, ⟨fun a ha => ?_, fun a ha _ => ?_, ?_⟩, ⟨fun a ha => ?_, ?_⟩⟩
  · rw [m1 1 (by omega), k3.1 1 (by omega)]
  · rw [m1 2 (by omega), k3.1 2 (by omega)]
  · rw [m139 6 (by omega), sI_of (by omega)]
  · rw [m2 143 (by omega), m3 143 (by omega), sI_rw (by omega)]
  · rw [m139 4 (by omega), sI_of (by omega)]
    exact h4
  · rw [m139 7 (by omega), sI_at]
  · rw [m1 a (by omega), k3.1 a (by omega)]
  · rw [y4.1, k3.2.1 a ha]
  · rw [y4.1, k3.2.2]
  · rw [m2 a (by omega), m3 a (by omega), sI_rw (by omega)]
  · rw [y5.1, k4.1.1]
    rfl
end PureW
