/-! PURE: who rents a dot -/
section PureB
def over (f : Nat → Int32) (k : Nat) (a b : Int32) : Prop := f (146 + 6 * k) ≠ -1 ∧ f (146 + 6 * k) ≤ b ∧ a ≤ f (146 + 6 * k + 1)
theorem cpl_cus {μ : Mm} {f : Nat → Int32} {D L C k j : Nat} (h : Cpl μ 9 f D L C) (hk : k < C) (hj : j < 6) : μ.1 (29 + k) j = f (146 + 6 * k + j) := h.2.2.2.2.2.2.1 k hk j hj
theorem c_over {D L C : Nat} {μ : Mm} {f : Nat → Int32} (h : CR D L C μ f) {k : Nat} (hk : k < C) {a b : Int32} (o : over f k a b) : f_X2_rentsOneOf KF μ (29 + k) a b = some 1 := by
  obtain ⟨hR, hc, hw⟩ := h
  unfold f_X2_rentsOneOf
  have e0 : μ.1 (29 + k) 0 = f (146 + 6 * k) := cpl_cus hc hk (by omega)
  have e1 : μ.1 (29 + k) 1 = f (146 + 6 * k + 1) := cpl_cus hc hk (by omega)
  rw [e0, e1, if_neg o.1, if_neg (Int32.not_lt.mpr o.2.1), l1_s, if_neg (Int32.not_lt.mpr o.2.2)]
  exact gd_t (Or.inr (by first | trivial | rfl))
theorem c_nover {D L C : Nat} {μ : Mm} {f : Nat → Int32} (h : CR D L C μ f) {k : Nat} (hk : k < C) {a b : Int32} (o : ¬ over f k a b) : f_X2_rentsOneOf KF μ (29 + k) a b = some 0 := by
  obtain ⟨hR, hc, hw⟩ := h
  unfold f_X2_rentsOneOf
  have e0 : μ.1 (29 + k) 0 = f (146 + 6 * k) := cpl_cus hc hk (by omega)
  have e1 : μ.1 (29 + k) 1 = f (146 + 6 * k + 1) := cpl_cus hc hk (by omega)
  rw [e0, e1]
  by_cases q : f (146 + 6 * k) = -1
  · rw [if_pos q]
  · rw [if_neg q]
    by_cases q' : b < f (146 + 6 * k)
    · rw [if_pos q']
    · rw [if_neg q', l1_s, if_pos (Int32.not_le.mp (fun q'' => o ⟨q, Int32.not_lt.mp q', q''⟩))]
      exact gd_t (Or.inl (by first | trivial | rfl))
def RNT (f : Nat → Int32) (C d : Nat) (v : Int32) : Prop := (v = -1 ∧ ∀ k, k < C → ¬ rents f k d) ∨ ∃ k, k < C ∧ v = nI k ∧ rents f k d
theorem RNT.one {f : Nat → Int32} {D L C d : Nat} {v w : Int32} (hw : WF f D L C) (hd : d < D) (h : RNT f C d v) (h' : RNT f C d w) : v = w := by
  rcases h with ⟨e, n⟩ | ⟨k, hk, e, r⟩
  · rcases h' with ⟨e', n'⟩ | ⟨k', hk', e', r'⟩
    · rw [e, e']
    · exact absurd r' (n k' hk')
  · rcases h' with ⟨e', n'⟩ | ⟨k', hk', e', r'⟩
    · exact absurd r (n' k hk)
    · rw [e, e', hw.2.2.2.2.2.2.2.1 k k' d hk hk' hd r r']
theorem c_renterOf {D L C : Nat} {μ : Mm} {f : Nat → Int32} (h : CR D L C μ f) {d : Nat} (hd : d < D) : ∃ v, f_X5_renterOf KF μ 9 (nI d) = some v ∧ RNT f C d v := by
  have h0 := h
  obtain ⟨hR, hc, hw⟩ := h
  have hC := hw.2.2.1
  have e6 : μ.1 9 6 = nI C := hc.2.2.2.1.2.1.trans hw.2.2.1.1
  obtain ⟨v, e, q⟩ := lp0 (fun n k (_ : Unit) => f_X5_renterOf_l2 KF μ 9 (nI d) n (nI k)) C (by unfold FU; omega) (fun k _ => ∀ j, j < k → ¬ rents f j d)
    (fun r => RNT f C d (match r with | .inl r => r | .inr _ => -1))
    (by
      intro n k v hk hP
      simp (disch := omega) only [f_X5_renterOf_l2, e6, r_95 hR, bd_s, l1_s, K16, gd_n, ix_n, leN, if_neg (Nat.not_le.mpr hk), r_cus hR (show k < 6 by omega)]
      by_cases o : rents f k d
      · refine Or.inl ⟨.inl (nI k), ?_, Or.inr ⟨k, hk, rfl, o⟩⟩
        rw [c_over h0 hk o]
        rfl
      · refine Or.inr ⟨(), ?_, fun j hj => ?_⟩
        · rw [c_nover h0 hk o, nI_succ]
          rfl
        · rcases Nat.lt_or_ge j k with h | h
          · exact hP j h
          · have : j = k := by omega
            subst this
            exact o)
    (by
      intro n v hP
      refine ⟨.inr (), ?_, Or.inl ⟨rfl, hP⟩⟩
      simp (disch := omega) only [f_X5_renterOf_l2, e6, leN, if_pos (Nat.le_refl C)]) () (fun j hj => absurd hj (by omega))
  refine ⟨_, ?_, q⟩
  unfold f_X5_renterOf
  rw [show f_X5_renterOf_l2 KF μ 9 (nI d) FU 0 = some v from e]
  cases v <;> rfl
end PureB
/-! PURE: the ones of a row -/
section PureB1
def onesV (v : Int32) : Int32 := (f_J6_bitCount_0f7a4 v).getD 0
/-- the bits of a row one by one -/
def bitI (v : Int32) (c : Nat) : Int32 := (v >>> (nI c &&& 31)) &&& 1
def bitS (v : Int32) : Nat → Int32 | 0 => 0 | c + 1 => bitS v c + bitI v c
theorem ones_all : ∀ a, a < 64 → ∀ b, b < 64 → f_J6_bitCount_0f7a4 (nI (64 * a + b)) = some (onesV (nI (64 * a + b))) ∧ onesV (nI (64 * a + b)) = bitS (nI (64 * a + b)) 12 ∧ (0 ≤ onesV (nI (64 * a + b)) ∧ onesV (nI (64 * a + b)) ≤ 12) := by decide +kernel
theorem ones_n {n : Nat} (h : n < 4096) : f_J6_bitCount_0f7a4 (nI n) = some (onesV (nI n)) ∧ onesV (nI n) = bitS (nI n) 12 ∧ (0 ≤ onesV (nI n) ∧ onesV (nI n) ≤ 12) := by
  have := ones_all (n / 64) (by omega) (n % 64) (by omega)
  rwa [show 64 * (n / 64) + n % 64 = n by omega] at this
theorem pow12 : ∀ w, w ≤ 12 → 2 ^ w - 1 < 4096 := by decide
end PureB1
