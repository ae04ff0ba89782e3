/-! PURE: the text grows and is emptied -/
section PureZ4
theorem q_clear {m : Nat} {μ η : Mm} (hR : RF μ) (h : TX m μ η) : f_X7_clearCommands KF μ 0 = some (nI m, sI μ 1 1 0) ∧ f_X8_clearCommands KF η 139 = some (nI m, sI (sI η 139 7 0) 139 6 0) ∧ TX 0 (sI μ 1 1 0) (sI (sI η 139 7 0) 139 6 0) := by
  refine ⟨?_, ?_, ⟨sI_at, sI_at, by omega⟩, fun j hj => absurd hj (by omega)⟩
  · unfold f_X7_clearCommands f_X1_empty
    rw [r_00 hR, bd_s, h.1.1]
    rfl
  · unfold f_X8_clearCommands
    rw [l1_s, sI_of (by omega), h.1.2.1]
    rfl
theorem nar : ∀ n, n < 128 → vp_nar .char ((Int32.toUInt32 (nI n) % 65536).toInt32) = nI n := by decide +kernel
end PureZ4
