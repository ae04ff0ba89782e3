/-! PURE: rents -/
section PureP
theorem c_rentedT {D L C k : Nat} {μ η : Mm} (h : CR D L C μ η) (hk : k < C) : f_X2_rented KF μ (29 + k) = some (rentT (η.1 140) k) := by
  have h0 : μ.1 (29 + k) 0 = η.1 140 (146 + 6 * k) := cpl_cus h.2.2.1 hk (j := 0) (by omega)
  have h1 := cpl_cus h.2.2.1 hk (j := 1) (by omega)
  unfold f_X2_rented rentT
  rw [h0, h1]
  split <;> rfl
theorem rentT_0 {f : Nat → Int32} {D L C k : Nat} (hw : WF f D L C) (hk : k < C) : (rentT f k = 0 ↔ f (146 + 6 * k) = -1) ∧ ¬ rentT f k < 0 := by
  have hD := hw.1
  unfold rentT
  rcases hw.2.2.2.2.2.2.1 k hk with ⟨e, e'⟩ | ⟨a, b, hab, hb, e, e'⟩
  · rw [if_pos e]
    exact ⟨⟨fun _ => e, fun _ => rfl⟩, by decide⟩
  · rw [if_neg (by rw [e]; exact m1_ne (by omega)), e, e', pk_sub hab, nI_1]
    exact ⟨⟨fun h => absurd h (nI_ne0 (by omega) (by omega)), fun h => absurd h (m1_ne (by omega))⟩, nI_pos (by omega)⟩
/-- a customer's part set -/
theorem CR.part {D L C c : Nat} {μ1 η1 : Mm} (h1 : CR D L C μ1 η1) (hc : c < C) {x y : Int32} (hp : (x = -1 ∧ y = -1) ∨ ∃ a b, a ≤ b ∧ b < D ∧ x = nI a ∧ y = nI b)
    (hf : ∀ k d, k < C → k ≠ c → d < D → x ≠ -1 → x ≤ nI d → nI d ≤ y → ¬ rents (η1.1 140) k d) : CR D L C (sI (sI μ1 (29 + c) 0 x) (29 + c) 1 y) (sI (sI η1 140 (146 + 6 * c) x) 140 (146 + 6 * c + 1) y) := by
  obtain ⟨hR, hR2, hcp, hwf⟩ := h1
  have hD := hwf.1
  have hL := hwf.2.1
  have hC := hwf.2.2.1
  have gg : ∀ i, i ≠ 146 + 6 * c → i ≠ 146 + 6 * c + 1 → (sI (sI η1 140 (146 + 6 * c) x) 140 (146 + 6 * c + 1) y).1 140 i = η1.1 140 i := fun i hi hi' => by rw [sI_of hi', sI_of hi]
  have g0 : (sI (sI η1 140 (146 + 6 * c) x) 140 (146 + 6 * c + 1) y).1 140 (146 + 6 * c) = x := by rw [sI_of (by omega), sI_at]
  have g1 : (sI (sI η1 140 (146 + 6 * c) x) 140 (146 + 6 * c + 1) y).1 140 (146 + 6 * c + 1) = y := sI_at
  refine ⟨hR, hR2, hcp.cus ⟨hD.2.2, hL.2⟩ (fun a ha ha' => by rw [sI_rw (by omega), sI_rw (by omega)]) ⟨by rw [sI_no (by omega), sI_no (by omega)], by rw [sI_no (by omega), sI_no (by omega)]⟩ (fun j hj _ => gg j (by omega) (by omega)) ?_ (fun k hk j hj => ?_) (fun k hk hk' => ?_), hwf.cus (fun j hj _ => gg j (by omega) (by omega)) (by rw [gg 9 (by omega) (by omega)]; exact hC.1) hC.2 (fun k hk => ?_) (fun j k d hj hk hd r r' => ?_)⟩
  · rw [sI_no (by omega), sI_no (by omega), gg _ (by omega) (by omega)]
    exact hcp.2.2.2.1.2.1
  · by_cases e : k = c
    · subst e
      by_cases e0 : j = 0
      · subst e0
        rw [sI_of (by omega), sI_at]
        exact g0.symm
      · by_cases e1 : j = 1
        · subst e1
          rw [sI_at, g1]
        · rw [sI_of e1, sI_of e0, gg _ (by omega) (by omega)]
          exact cpl_cus hcp hk hj
    · rw [sI_no (by omega), sI_no (by omega), gg _ (by omega) (by omega)]
      exact cpl_cus hcp hk hj
  · rw [sI_rw (by omega), sI_rw (by omega)]
    exact hcp.2.2.2.2.2.2.2 k hk hk'
  · by_cases e : k = c
    · subst e
      rw [g0, g1]
      exact hp
    · rw [gg _ (by omega) (by omega), gg _ (by omega) (by omega)]
      exact hwf.2.2.2.2.2.2.1 k hk
  · have cv : ∀ k, k < C → k ≠ c → rents ((sI (sI η1 140 (146 + 6 * c) x) 140 (146 + 6 * c + 1) y).1 140) k d → rents (η1.1 140) k d := fun k hk n r => by
      unfold rents at *
      rwa [gg _ (by omega) (by omega), gg _ (by omega) (by omega)] at r
    have cc : ∀ k, k < C → k ≠ c → rents ((sI (sI η1 140 (146 + 6 * c) x) 140 (146 + 6 * c + 1) y).1 140) k d → ¬ rents ((sI (sI η1 140 (146 + 6 * c) x) 140 (146 + 6 * c + 1) y).1 140) c d := fun k hk n r r' => by
      have r2 := cv k hk n r
      unfold rents at r'
      rw [g0, g1] at r'
      exact hf k d hk n hd r'.1 r'.2.1 r'.2.2 r2
    by_cases ej : j = c
    · by_cases ek : k = c
      · rw [ej, ek]
      · rw [ej] at r
        exact absurd r (cc k hk ek r')
    · by_cases ek : k = c
      · rw [ek] at r'
        exact absurd r' (cc j hj ej r)
      · exact hwf.2.2.2.2.2.2.2.1 j k d hj hk hd (cv j hj ej r) (cv k hk ek r')
theorem o_endRent {D L C : Nat} {μ η : Mm} (h : CR D L C μ η) (a : Int32) : OP D L C η [(1, 1), (3, 2)] (f_X5_whyNotEndLet KF μ 9 a) (fun ν => f_X5_endLet KF ν 9 a) (f_X8_endRent KF η 139 a) := by
  have hC := h.2.2.2.2.2.1
  have hh := c_hasCustomer h a
  have hm := m_isCustomer h.2.1 h.2.2.2 a
  by_cases q : has a C = 0
  · refine Or.inl ⟨(1, 1), m2m.1, ?_, ?_⟩
    · unfold f_X5_whyNotEndLet
      rw [hh, bd_s, if_pos q]
      rfl
    · unfold f_X8_endRent
      rw [hm, bd_s, if_pos q, th1, bd_s, l1_s, l1_s, i10]
  · obtain ⟨c, hc, rfl, q1⟩ := has_yes q (by omega)
    have hm0 := m_customerOf h.2.1 (l := c) (j := 0) (by omega) (by omega)
    have hm0' : f_X8_customerOf KF η 139 (nI c) 0 = some (η.1 140 (146 + 6 * c)) := hm0
    have ew : f_X5_whyNotEndLet KF μ 9 (nI c) = some (if rentT (η.1 140) c = 0 then 3 else 0) := by
      unfold f_X5_whyNotEndLet
      rw [hh, bd_s, q1, i10]
      simp (disch := omega) only [r_95 h.1, bd_s, K16, gd_n, ix_n, r_cus h.1 (show c < 6 by omega), c_rentedT h hc, l1_s]
    obtain ⟨z1, -⟩ := rentT_0 h.2.2.2 hc
    by_cases t : η.1 140 (146 + 6 * c) = -1
    · refine Or.inl ⟨(3, 2), m2m.2, by rw [ew, if_pos (z1.mpr t)]; rfl, ?_⟩
      unfold f_X8_endRent
      rw [hm, bd_s, q1, i10, hm0', bd_s, if_pos t, l1_s, th2, bd_s, l1_s, l1_s, i10]
    · refine Or.inr ⟨by rw [ew, if_neg (fun e => t (z1.mp e))], fun μ1 η1 h1 hs e140 => ?_⟩
      have hR := h1.1
      have hR2 := h1.2.1
      have hcr := h1.part hc (x := -1) (y := -1) (Or.inl ⟨rfl, rfl⟩) (fun k d _ _ _ hx _ _ => absurd rfl hx)
      have m0 : f_X8_customerOf KF η1 139 (nI c) 0 = some (η1.1 140 (146 + 6 * c)) := m_customerOf hR2 (l := c) (j := 0) (by omega) (by omega)
      have m1 : f_X8_customerOf KF η1 139 (nI c) 1 = some (η1.1 140 (146 + 6 * c + 1)) := m_customerOf hR2 (l := c) (j := 1) (by omega) (by omega)
      have et : η1.1 140 (146 + 6 * c + 1) - η1.1 140 (146 + 6 * c) + 1 = rentT (η1.1 140) c := by
        unfold rentT
        rw [if_neg (by rw [e140]; exact t)]
      refine ⟨rentT (η1.1 140) c, _, _, D, L, C, ?_, ?_, hcr, (FrI.rfl.sI (by constructor <;> omega)).sI (by constructor <;> omega), (FrI.rfl.sI (Or.inl rfl)).sI (Or.inl rfl), (rentT_0 h1.2.2.2 hc).2⟩
      · show f_X5_endLet KF μ1 9 (nI c) = _
        unfold f_X5_endLet f_X2_rentNothing
        simp (disch := omega) only [r_95 hR, bd_s, K16, gd_n, ix_n, r_cus hR (show c < 6 by omega), c_rentedT h1 hc, l1_s]
      · unfold f_X8_endRent f_X8_frees
        rw [hm, bd_s, q1, i10, hm0', bd_s, if_neg t, l1_s, th0, bd_s, l1_s, l1_s, i00, hs, bd_s, m1, bd_s, m0, bd_s, l1_s, et]
        simp (disch := omega) only [r_m0 hR2, rf_sI, bd_s, l1_s, L146, L6, nI_add, pk_mul, L0, Nat.add_zero, K140, gd_n, ix_n, nI_1]
theorem m3m {a b c : Nat × Nat} : a ∈ [a, b, c] ∧ b ∈ [a, b, c] ∧ c ∈ [a, b, c] := ⟨List.mem_cons_self, List.mem_cons_of_mem _ List.mem_cons_self, List.mem_cons_of_mem _ (List.mem_cons_of_mem _ List.mem_cons_self)⟩
theorem o_rent {D L C : Nat} {μ η : Mm} (h : CR D L C μ η) (a b e : Int32) : OP D L C η [(1, 1), (2, 2), (3, 3)] (f_X5_whyNotLet KF μ 9 a b e) (fun ν => f_X5_let KF ν 9 a b e) (f_X8_rent KF η 139 a b e) := by
  have hC := h.2.2.2.2.2.1
  have hD := h.2.2.2.1
  have hh := c_hasCustomer h a
  have hm := m_isCustomer h.2.1 h.2.2.2 a
  have hh2 := c_hasDot h b
  have hm2 := m_isDot h.2.1 h.2.2.2 b
  have hh3 := c_hasDot h e
  have hm3 := m_isDot h.2.1 h.2.2.2 e
  by_cases q : has a C = 0
  · refine Or.inl ⟨(1, 1), m3m.1, ?_, ?_⟩
    · unfold f_X5_whyNotLet
      rw [hh, bd_s, if_pos q]
      rfl
    · unfold f_X8_rent
      rw [hm, bd_s, if_pos q, th1, bd_s, l1_s, l1_s, i10]
  obtain ⟨c, hc, rfl, q1⟩ := has_yes q (by omega)
  by_cases r : has b D = 0
  · refine Or.inl ⟨(1, 1), m3m.1, ?_, ?_⟩
    · unfold f_X5_whyNotLet
      rw [hh, bd_s, q1, i10, hh2, bd_s, if_pos r]
      rfl
    · unfold f_X8_rent
      rw [hm, bd_s, q1, i10, hm2, bd_s, if_pos r, th1, bd_s, l1_s, l1_s, i10]
  obtain ⟨x, hx, rfl, r1⟩ := has_yes r (by omega)
  by_cases s : has e D = 0
  · refine Or.inl ⟨(1, 1), m3m.1, ?_, ?_⟩
    · unfold f_X5_whyNotLet
      rw [hh, bd_s, q1, i10, hh2, bd_s, r1, i10, hh3, bd_s, if_pos s]
      rfl
    · unfold f_X8_rent
      rw [hm, bd_s, q1, i10, hm2, bd_s, r1, i10, hm3, bd_s, if_pos s, th1, bd_s, l1_s, l1_s, i10]
  obtain ⟨y, hy, rfl, s1⟩ := has_yes s (by omega)
  by_cases t : nI x ≤ nI y
  · have hxy : x ≤ y := by
      rw [leN (by omega) (by omega)] at t
      exact t
    obtain ⟨v, e1, e2, e3, e4⟩ := b_taken h hc hxy hy
    rcases e3 with rfl | rfl
    · refine Or.inr ⟨?_, fun μ1 η1 h1 hs e140 => ?_⟩
      · unfold f_X5_whyNotLet
        rw [hh, bd_s, q1, i10, hh2, bd_s, r1, i10, hh3, bd_s, s1, i10, if_pos t, e1, bd_s, i00]
        rfl
      · have hR := h1.1
        have hR2 := h1.2.1
        have hcr := h1.part hc (x := nI x) (y := nI y) (Or.inr ⟨x, y, hxy, hy, rfl, rfl⟩) (fun k d hk hkc hd _ p1 p2 pr => by
          rw [leN (by omega) (by omega)] at p1 p2
          rw [e140] at pr
          exact e4 rfl k hk hkc ((over_rents h.2.2.2 hk hxy hy).mpr ⟨d, p1, p2, pr⟩))
        have n1 := c_allRented hcr
        have n2 := m_rented hcr.2.1 hcr.2.2.2
        have n3 := cn_le (anyR ((sI (sI η1 140 (146 + 6 * c) (nI x)) 140 (146 + 6 * c + 1) (nI y)).1 140) C) D
        refine ⟨_, _, _, D, L, C, ?_, ?_, hcr, (FrI.rfl.sI (by constructor <;> omega)).sI (by constructor <;> omega), (FrI.rfl.sI (Or.inl rfl)).sI (Or.inl rfl), nI_pos (n := cn (anyR ((sI (sI η1 140 (146 + 6 * c) (nI x)) 140 (146 + 6 * c + 1) (nI y)).1 140) C) D) (by omega)⟩
        · show f_X5_let KF μ1 9 (nI c) (nI x) (nI y) = _
          unfold f_X5_let
          simp (disch := omega) only [r_95 hR, rf_sI, bd_s, K16, gd_n, ix_n, r_cus hR (show c < 6 by omega), n1, l1_s]
        · unfold f_X8_rent
          rw [hm, bd_s, q1, i10, hm2, bd_s, r1, i10, hm3, bd_s, s1, i10, if_pos t, e2, bd_s, i00, l1_s, th0, bd_s, l1_s, l1_s, i00, hs, bd_s]
          simp (disch := omega) only [r_m0 hR2, rf_sI, bd_s, l1_s, L146, L6, nI_add, pk_mul, L0, Nat.add_zero, K140, gd_n, ix_n, nI_1, n2]
    · refine Or.inl ⟨(3, 3), m3m.2.2, ?_, ?_⟩
      · unfold f_X5_whyNotLet
        rw [hh, bd_s, q1, i10, hh2, bd_s, r1, i10, hh3, bd_s, s1, i10, if_pos t, e1, bd_s, i10]
        rfl
      · unfold f_X8_rent
        rw [hm, bd_s, q1, i10, hm2, bd_s, r1, i10, hm3, bd_s, s1, i10, if_pos t, e2, bd_s, i10, l1_s, th3, bd_s, l1_s, l1_s, i10]
  · refine Or.inl ⟨(2, 2), m3m.2.1, ?_, ?_⟩
    · unfold f_X5_whyNotLet
      rw [hh, bd_s, q1, i10, hh2, bd_s, r1, i10, hh3, bd_s, s1, i10, if_neg t]
      rfl
    · unfold f_X8_rent
      rw [hm, bd_s, q1, i10, hm2, bd_s, r1, i10, hm3, bd_s, s1, i10, if_neg t, th2, bd_s, l1_s, l1_s, i10]
end PureP
