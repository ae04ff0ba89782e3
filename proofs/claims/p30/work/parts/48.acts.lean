/-! PURE: a new head; every act -/
section PureActs
variable {ν : Mm} {v w : Nat} {z : Int32}
theorem Sm_zero {t : Nat → Int32} {D : Nat} : ∀ n, D ≤ n → (∀ d, D ≤ d → d < n → t d = 0) → Sm t n = Sm t D := by
  intro n
  induction n with
  | zero => intro h _; rw [show D = 0 by omega]
  | succ n ih =>
    intro h hz
    by_cases e : D = n + 1
    · rw [e]
    · show Sm t n + t n = _
      rw [ih (by omega) (fun d h1 h2 => hz d h1 (by omega)), hz n (by omega) (by omega), Int32.add_zero]
theorem act_begins (h : IV ν) (hv : v < 10000000) (e1 : f_L_low (z >>> (5 &&& 31)) 10000000 = some (nI v)) (e2 : f_L_low z 26 = some (nI w)) (h1 : w = 0) : ACT ν z := by
  obtain ⟨D, L, C, hcr, hsv, htx, hso, hz⟩ := h
  have hr := LR_RW ν
  have hw := hcr.2.2
  have hD := hw.1
  have hC := hw.2.2.1
  have g9 : ν.1 139 9 = nI C := (hr.1 9 (by omega)).trans hC.1
  have m21 : nI v - nI v / 21 * 21 = nI (v % 21) := pk_rem (a := v) (d := 21) (by omega) (by omega) (by omega)
  have hn : v % 21 < 21 := Nat.mod_lt _ (by omega)
  generalize en : v % 21 = n at hn m21
  have a4 : (4 : Int32) + nI n = nI (4 + n) := nI_add 4 n
  obtain ⟨⟨s, μ⟩, q0, q1, q2, q3, q4, q5⟩ := lp0 (fun k d (t : Int32 × Mm) => f_L_acts_l31 KF 0 139 140 141 142 144 (nI v) k t.2 t.1 (nI d)) 24 (by decide)
    (fun d t => FrI (fun a => a = 140 ∨ a = 141 ∨ a = 142 ∨ a = 144) ν t.2 ∧ (∀ x, x < d → t.2.1 140 x = 0 ∧ t.2.1 141 x = 0 ∧ t.2.1 142 x = 0) ∧ (∀ x, d ≤ x → t.2.1 141 x = ν.1 141 x) ∧ t.1 = Sm (fun x => ν.1 141 x) d ∧
      ∀ c, c < 6 → (4 * c < d → t.2.1 144 (6 * c) = (if C ≤ c then 0 else -1) ∧ t.2.1 144 (6 * c + 1) = (if C ≤ c then 0 else -1)) ∧ ∀ j, 2 ≤ j → j < 6 → t.2.1 144 (6 * c + j) = ν.1 144 (6 * c + j))
    (fun t => FrI (fun a => a = 140 ∨ a = 141 ∨ a = 142 ∨ a = 144) ν t.2 ∧ (∀ x, x < 24 → t.2.1 140 x = 0 ∧ t.2.1 141 x = 0 ∧ t.2.1 142 x = 0) ∧ (∀ x, 24 ≤ x → t.2.1 141 x = ν.1 141 x) ∧ t.1 = Sm (fun x => ν.1 141 x) 24 ∧
      ∀ c, c < 6 → (4 * c < 24 → t.2.1 144 (6 * c) = (if C ≤ c then 0 else -1) ∧ t.2.1 144 (6 * c + 1) = (if C ≤ c then 0 else -1)) ∧ ∀ j, 2 ≤ j → j < 6 → t.2.1 144 (6 * c + j) = ν.1 144 (6 * c + j))
    (by
      rintro k d ⟨s, μ⟩ hd ⟨p1, p2, p3, p4, p5⟩
      have p1 : FrI (fun a => a = 140 ∨ a = 141 ∨ a = 142 ∨ a = 144) ν μ := p1
      have p2 : ∀ x, x < d → μ.1 140 x = 0 ∧ μ.1 141 x = 0 ∧ μ.1 142 x = 0 := p2
      have p3 : ∀ x, d ≤ x → μ.1 141 x = ν.1 141 x := p3
      have p4 : s = Sm (fun x => ν.1 141 x) d := p4
      have p5 : ∀ c, c < 6 → (4 * c < d → μ.1 144 (6 * c) = (if C ≤ c then 0 else -1) ∧ μ.1 144 (6 * c + 1) = (if C ≤ c then 0 else -1)) ∧ ∀ j, 2 ≤ j → j < 6 → μ.1 144 (6 * c + j) = ν.1 144 (6 * c + j) := p5
      have e9 : μ.1 139 9 = nI C := by rw [p1.2 139 (by intro h; have h : 139 = 140 ∨ 139 = 141 ∨ 139 = 142 ∨ 139 = 144 := h; omega)]; exact g9
      have d4 : nI d / 4 = nI (d / 4) := pk_div (a := d) (d := 4) (by omega) (by omega) (by omega)
      have m6 : nI (d / 4) * 6 = nI (d / 4 * 6) := pk_mul (d / 4) 6
      have hq : d / 4 < 6 := by omega
      have ey : μ.1 141 d = ν.1 141 d := p3 d (Nat.le_refl d)
      have t9 : (nI C ≤ nI (d / 4)) = (C ≤ d / 4) := leN (by omega) (by omega)
      generalize ev : (if C ≤ d / 4 then (0 : Int32) else -1) = y at t9
      refine Or.inr ⟨(s + ν.1 141 d, sI (sI (sI (sI (sI μ 140 d 0) 141 d 0) 142 d 0) 144 (d / 4 * 6) y) 144 (d / 4 * 6 + 1) y), ?_, ((((p1.sI (Or.inl rfl)).sI (Or.inr (Or.inl rfl))).sI (Or.inr (Or.inr (Or.inl rfl)))).sI (Or.inr (Or.inr (Or.inr rfl)))).sI (Or.inr (Or.inr (Or.inr rfl))), fun x hx => ?_, fun x hx => ?_, ?_, fun c hc => ⟨fun hcd => ?_, fun j hj hj' => ?_⟩⟩
      · have nle : ¬ (24 : Int32) ≤ nI d := nI_ge (b := 24) hd (by omega)
        simp (disch := omega) only [f_L_acts_l31, if_neg nle, i41 (show d < 24 by omega), i40 (show d < 24 by omega), i42 (show d < 24 by omega), ix_n (show d < 2147483648 by omega), d4, m6, nI_1, i44 (show d / 4 * 6 < 36 by omega), i44 (show d / 4 * 6 + 1 < 36 by omega), ix_n (show d / 4 * 6 < 2147483648 by omega), ix_n (show d / 4 * 6 + 1 < 2147483648 by omega), i9_9, ix9, sI_no, e9, t9, ev, ey, l1_s]
      · show (sI (sI (sI (sI (sI μ 140 d 0) 141 d 0) 142 d 0) 144 (d / 4 * 6) y) 144 (d / 4 * 6 + 1) y).1 140 x = 0 ∧ (sI (sI (sI (sI (sI μ 140 d 0) 141 d 0) 142 d 0) 144 (d / 4 * 6) y) 144 (d / 4 * 6 + 1) y).1 141 x = 0 ∧ (sI (sI (sI (sI (sI μ 140 d 0) 141 d 0) 142 d 0) 144 (d / 4 * 6) y) 144 (d / 4 * 6 + 1) y).1 142 x = 0
        by_cases e : x = d
        · subst e
          simp (disch := omega) only [sI_no, sI_at]
          exact ⟨trivial, trivial, trivial⟩
        · simp (disch := omega) only [sI_no, sI_of]
          exact p2 x (by omega)
      · show (sI (sI (sI (sI (sI μ 140 d 0) 141 d 0) 142 d 0) 144 (d / 4 * 6) y) 144 (d / 4 * 6 + 1) y).1 141 x = _
        simp (disch := omega) only [sI_no, sI_of]
        exact p3 x (by omega)
      · show s + _ = Sm _ d + _
        rw [p4]
      · show (sI (sI (sI (sI (sI μ 140 d 0) 141 d 0) 142 d 0) 144 (d / 4 * 6) y) 144 (d / 4 * 6 + 1) y).1 144 (6 * c) = _ ∧ (sI (sI (sI (sI (sI μ 140 d 0) 141 d 0) 142 d 0) 144 (d / 4 * 6) y) 144 (d / 4 * 6 + 1) y).1 144 (6 * c + 1) = _
        by_cases e : c = d / 4
        · rw [e, ev, Nat.mul_comm 6 (d / 4), sI_at, sI_of (by omega), sI_at]
          exact ⟨rfl, rfl⟩
        · simp (disch := omega) only [sI_no, sI_of]
          exact (p5 c hc).1 (by omega)
      · show (sI (sI (sI (sI (sI μ 140 d 0) 141 d 0) 142 d 0) 144 (d / 4 * 6) y) 144 (d / 4 * 6 + 1) y).1 144 (6 * c + j) = _
        simp (disch := omega) only [sI_no, sI_of]
        exact (p5 c hc).2 j hj hj')
    (by
      rintro k ⟨s, μ⟩ ⟨p1, p2⟩
      refine ⟨(s, μ), ?_, p1, p2⟩
      simp only [f_L_acts_l31, if_pos (show (24 : Int32) ≤ nI 24 by decide)]) (0, ν) ⟨FrI.rfl, fun x hx => absurd hx (by omega), fun _ _ => rfl, rfl, fun c hc => ⟨fun h => absurd h (by omega), fun _ _ _ => rfl⟩⟩
  have q1 : FrI (fun a => a = 140 ∨ a = 141 ∨ a = 142 ∨ a = 144) ν μ := q1
  have q2 : ∀ x, x < 24 → μ.1 140 x = 0 ∧ μ.1 141 x = 0 ∧ μ.1 142 x = 0 := q2
  have q4 : s = Sm (fun x => ν.1 141 x) 24 := q4
  have q5 : ∀ c, c < 6 → (4 * c < 24 → μ.1 144 (6 * c) = (if C ≤ c then 0 else -1) ∧ μ.1 144 (6 * c + 1) = (if C ≤ c then 0 else -1)) ∧ ∀ j, 2 ≤ j → j < 6 → μ.1 144 (6 * c + j) = ν.1 144 (6 * c + j) := q5
  have q0 : f_L_acts_l31 KF 0 139 140 141 142 144 (nI v) FU ν 0 0 = some (s, μ) := q0
  have q1o : ∀ a, ¬ (a = 140 ∨ a = 141 ∨ a = 142 ∨ a = 144) → μ.1 a = ν.1 a := fun a ha => q1.2 a ha
  have q1l : FLw ν μ := q1.mono (fun a ha => by have ha : a = 140 ∨ a = 141 ∨ a = 142 ∨ a = 144 := ha; show 139 ≤ a; omega)
  have fl : FLw ν (sI μ 139 0 (nI (4 + n))) := q1l.s (by omega)
  have es : s = Sm (fun d => RW ν (14 + 3 * d + 1)) D := by
    rw [q4, Sm_zero 24 (D := D) (by omega) (fun d h1 h2 => hz d h1 h2)]
    exact Sm_cong (fun d hd => hr.y (by omega))
  have kk : ∀ j, j < 146 → j ≠ 0 → (j < 14 ∨ 86 ≤ j) → RW (sI μ 139 0 (nI (4 + n))) j = RW ν j := fun j hj h0 hjc => by
    refine RW_eq (fun h => ?_) (fun x h e => ?_) (fun x h e => ?_) (fun x h e => ?_) (fun i h e => ?_) (fun i e => ?_)
    · rw [sI_of (by omega), q1o 139 (by omega)]
    · exact absurd e (by omega)
    · exact absurd e (by omega)
    · exact absurd e (by omega)
    · rw [sI_rw (by omega), q1o 143 (by omega)]
    · exact absurd e (by omega)
  have kd : ∀ d, 14 ≤ d → d < 86 → RW (sI μ 139 0 (nI (4 + n))) d = 0 := fun d h1 h2 => by
    rcases (show d = 14 + 3 * ((d - 14) / 3) ∨ d = 14 + 3 * ((d - 14) / 3) + 1 ∨ d = 14 + 3 * ((d - 14) / 3) + 2 by omega) with e | e | e
    · rw [e, RW_e (by omega), sI_rw (by omega)]
      exact (q2 _ (by omega)).1
    · rw [e, RW_y (by omega), sI_rw (by omega)]
      exact (q2 _ (by omega)).2.1
    · rw [e, RW_u (by omega), sI_rw (by omega)]
      exact (q2 _ (by omega)).2.2
  have kj : ∀ c j, c < C → 2 ≤ j → j < 6 → RW (sI μ 139 0 (nI (4 + n))) (146 + 6 * c + j) = RW ν (146 + 6 * c + j) := fun c j hc hj hj' => by
    rw [Nat.add_assoc, RW_c, RW_c, sI_rw (by omega)]
    exact (q5 c (by omega)).2 j hj hj'
  obtain ⟨ν2, r1, r2, r3⟩ := o_begins (n := 4 + n) (g := RW (sI μ 139 0 (nI (4 + n)))) (hcr.law fl) (hsv.law fl) (by omega) (by omega) kk (by rw [RW_g (by omega), sI_at]) kd (fun c hc => by
    obtain ⟨y1, y2⟩ := (q5 c (by omega)).1 (by omega)
    rw [if_neg (by omega)] at y1 y2
    refine ⟨?_, ?_⟩
    · rw [RW_c, sI_rw (by omega)]
      exact y1
    · rw [Nat.add_assoc, RW_c, sI_rw (by omega)]
      exact y2) kj
  rw [← es] at r1
  have s2 : Sm (soldT (RW (sI μ 139 0 (nI (4 + n))))) C = RW (sI μ 139 0 (nI (4 + n))) 11 := by
    rw [kk 11 (by omega) (by omega) (by omega), ← hso]
    exact Sm_cong (fun d hd => kj d 4 hd (by omega) (by omega))
  refine ⟨ν2, ?_, IV.fin r2 r3 (txt_law htx fl) s2 (fun d d1 d2 => by rw [sI_rw (by omega)]; exact (q2 d d2).2.1)⟩
  have t0 : nI w = 0 := by rw [h1]; rfl
  unfold f_L_acts
  simp only [e1, e2, bd_s, l1_s, if_pos t0, q0, m21, a4, i9_0, ix0, sI_at, r1, gdT]
/-- every act is as the document has it -/
theorem l_acts (h : IV ν) (z : Int32) : ACT ν z := by
  obtain ⟨v, hv, e1⟩ := l_low (z >>> (5 &&& 31)) (n := 10000000) (by omega) (by omega)
  obtain ⟨w, hw, e2⟩ := l_low z (n := 26) (by omega) (by omega)
  have e1 : f_L_low (z >>> (5 &&& 31)) 10000000 = some (nI v) := e1
  have e2 : f_L_low z 26 = some (nI w) := e2
  by_cases c0 : w = 0
  · exact act_begins h hv e1 e2 c0
  by_cases c3 : w < 3
  · exact act_sets h hv e1 e2 (by omega) c3
  by_cases c6 : w < 6
  · exact act_labels h hv e1 e2 (by omega) c6
  by_cases c10 : w < 10
  · exact act_rows h hv e1 e2 (by omega) c10
  by_cases c11 : w = 10
  · exact act_renews h hv e1 e2 c11
  by_cases c12 : w = 11
  · exact act_cools h hv e1 e2 c12
  by_cases c14 : w < 14
  · exact act_customers h hv e1 e2 (by omega) c14
  by_cases c17 : w < 17
  · exact act_lets h hv e1 e2 hw (by omega) c17
  · exact act_sells h hv e1 e2 hw (by omega)
theorem IV.isSo (h : IV ν) : f_L_isSo KF ν 0 139 140 141 142 143 144 = some 1 := by
  obtain ⟨D, L, C, hcr, -, htx, hso, -⟩ := h
  exact l_isSo hcr (LR_RW ν) htx hso
theorem IV.ask (h : IV ν) : fx_X7_whole KF ν 0 18 = some 2 ∧ fx_X7_whole KF ν 0 (-1) = some 2 ∧ fx_X7_dot KF ν 0 0 5 = some 2 := by
  obtain ⟨D, L, C, hcr, -, htx, hso, -⟩ := h
  exact ⟨q_wholeX.1, q_wholeX.2, (q_dotX hcr).2⟩
end PureActs
