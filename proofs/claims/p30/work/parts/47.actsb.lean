/-! PURE: the acts that go round -/
section PureActsB
variable {ν : Mm} {v w : Nat} {z : Int32}
theorem act_customers (h : IV ν) (hv : v < 10000000) (e1 : f_L_low (z >>> (5 &&& 31)) 10000000 = some (nI v)) (e2 : f_L_low z 26 = some (nI w)) (h1 : 12 ≤ w) (h2 : w < 14) : ACT ν z := by
  obtain ⟨⟨t0, t10, t11, t16⟩, t3, t6, t10', t14, t17⟩ := WY_of (show w < 26 by omega)
  have hIV := h
  obtain ⟨D, L, C, hcr, hsv, htx, hso, hz⟩ := h
  have hr := LR_RW ν
  have hw := hcr.2.2
  have hC := hw.2.2.1
  have g9 : ν.1 139 9 = nI C := (hr.1 9 (by omega)).trans hC.1
  by_cases c6 : C = 6
  · have q := x_customers hcr c6
    refine ⟨ν, ?_, hIV⟩
    unfold f_L_acts
    simp only [e1, e2, bd_s, l1_s, t0, t10, t11, t3, t6, t10', t14, if_neg (show ¬ w = 0 by omega), if_neg (show ¬ w = 10 by omega), if_neg (show ¬ w = 11 by omega), if_pos (show 3 ≤ w by omega), if_pos (show 6 ≤ w by omega), if_pos (show 10 ≤ w by omega), if_neg (show ¬ 14 ≤ w by omega), i9_9, ix9, g9, if_pos (show nI C = 6 by rw [c6]; rfl), q, gdT]
  have n6 : ¬ nI C = 6 := by rw [L6, eqN (by omega) (by omega)]; exact c6
  have m6 : (6 : Int32) * nI C = nI (6 * C) := pk_mul 6 C
  obtain ⟨μ, q0, q1, q2, q3⟩ := lp0 (fun n j μ => f_L_acts_l830 KF 0 139 144 n μ (nI j)) 6 (by decide)
    (fun d μ => FrI (fun a => a = 144) ν μ ∧ (∀ j, j < d → μ.1 144 (6 * C + j) = if 2 ≤ j then 0 else -1) ∧ ∀ i, (i < 6 * C ∨ 6 * C + 6 ≤ i) → μ.1 144 i = ν.1 144 i)
    (fun μ => FrI (fun a => a = 144) ν μ ∧ (∀ j, j < 6 → μ.1 144 (6 * C + j) = if 2 ≤ j then 0 else -1) ∧ ∀ i, (i < 6 * C ∨ 6 * C + 6 ≤ i) → μ.1 144 i = ν.1 144 i)
    (by
      rintro n d μ hd ⟨p1, p2, p3⟩
      have e9 : μ.1 139 9 = nI C := by rw [p1.2 139 (by intro h; have h : 139 = 144 := h; omega)]; exact g9
      have t2 : ((2 : Int32) ≤ nI d) = (2 ≤ d) := leN (a := 2) (by omega) (by omega)
      refine Or.inr ⟨sI μ 144 (6 * C + d) (if 2 ≤ d then 0 else -1), ?_, p1.sI rfl, fun j hj => ?_, fun i hi => ?_⟩
      · simp only [f_L_acts_l830, if_neg (show ¬ (6 : Int32) ≤ nI d from nI_ge (b := 6) hd (by omega)), i9_9, ix9, e9, m6, nI_add, i44 (show 6 * C + d < 36 by omega), ix_n (show 6 * C + d < 2147483648 by omega), l1_s, t2, nI_succ d]
      · by_cases e : j = d
        · rw [e, sI_at]
        · rw [sI_of (by omega)]
          exact p2 j (by omega)
      · rw [sI_of (by omega)]
        exact p3 i hi)
    (by
      rintro n μ pq
      refine ⟨μ, ?_, pq⟩
      simp only [f_L_acts_l830, if_pos (show (6 : Int32) ≤ nI 6 by decide)]) ν ⟨FrI.rfl, fun j hj => absurd hj (by omega), fun _ _ => rfl⟩
  have q1o : ∀ a, a ≠ 144 → μ.1 a = ν.1 a := fun a ha => q1.2 a ha
  have q1l : FLw ν μ := q1.mono (fun a ha => by have ha : a = 144 := ha; show 139 ≤ a; omega)
  have fl : FLw ν (sI μ 139 9 (nI (C + 1))) := q1l.s (by omega)
  have e9 : μ.1 139 9 = nI C := by rw [q1o 139 (by omega)]; exact g9
  have kk : ∀ j, j < 182 → j ≠ 9 → (j < 146 + 6 * C ∨ 146 + 6 * C + 6 ≤ j) → RW (sI μ 139 9 (nI (C + 1))) j = RW ν j := fun j hj h9 hjc => by
    refine RW_eq (fun h => ?_) (fun x h e => ?_) (fun x h e => ?_) (fun x h e => ?_) (fun i h e => ?_) (fun i e => ?_)
    · rw [sI_of (by omega), q1o 139 (by omega)]
    · rw [sI_rw (by omega), q1o 140 (by omega)]
    · rw [sI_rw (by omega), q1o 141 (by omega)]
    · rw [sI_rw (by omega), q1o 142 (by omega)]
    · rw [sI_rw (by omega), q1o 143 (by omega)]
    · rw [sI_rw (by omega)]
      exact q3 i (by omega)
  have kc : ∀ j, j < 6 → RW (sI μ 139 9 (nI (C + 1))) (146 + 6 * C + j) = if 2 ≤ j then 0 else -1 := fun j hj => by
    rw [Nat.add_assoc, RW_c, sI_rw (by omega)]
    exact q2 j hj
  obtain ⟨ν2, r1, r2, r3⟩ := o_customers (g := RW (sI μ 139 9 (nI (C + 1)))) (hcr.law fl) (hsv.law fl) (by omega) kk (by rw [RW_g (by omega), sI_at]) ((kc 0 (by omega)).trans (if_neg (by omega))) ((kc 1 (by omega)).trans (if_neg (by omega))) (fun j hj hj' => (kc j hj').trans (if_pos hj))
  have s2 : Sm (soldT (RW (sI μ 139 9 (nI (C + 1))))) (C + 1) = RW (sI μ 139 9 (nI (C + 1))) 11 := by
    show Sm (soldT (RW (sI μ 139 9 (nI (C + 1))))) C + RW (sI μ 139 9 (nI (C + 1))) (146 + 6 * C + 4) = _
    rw [kc 4 (by omega), if_pos (by omega), Int32.add_zero, kk 11 (by omega) (by omega) (by omega), ← hso]
    exact Sm_cong (fun d hd => kk _ (by omega) (by omega) (by omega))
  have e92 : ν2.1 139 9 = nI (C + 1) := by rw [r3.2.1 139 (by omega), sI_at]
  refine ⟨ν2, ?_, IV.fin r2 r3 (txt_law htx fl) s2 (fun d d1 d2 => by rw [sI_rw (by omega), q1o 141 (by omega)]; exact hz d d1 d2)⟩
  have q0 : f_L_acts_l830 KF 0 139 144 FU ν 0 = some μ := q0
  unfold f_L_acts
  simp only [e1, e2, bd_s, l1_s, t0, t10, t11, t3, t6, t10', t14, if_neg (show ¬ w = 0 by omega), if_neg (show ¬ w = 10 by omega), if_neg (show ¬ w = 11 by omega), if_pos (show 3 ≤ w by omega), if_pos (show 6 ≤ w by omega), if_pos (show 10 ≤ w by omega), if_neg (show ¬ 14 ≤ w by omega), i9_9, ix9, g9, if_neg n6, q0, e9, nI_1, r1, e92, nI_pred, gdT]
theorem act_labels (h : IV ν) (hv : v < 10000000) (e1 : f_L_low (z >>> (5 &&& 31)) 10000000 = some (nI v)) (e2 : f_L_low z 26 = some (nI w)) (h1 : 3 ≤ w) (h2 : w < 6) : ACT ν z := by
  obtain ⟨⟨t0, t10, t11, t16⟩, t3, t6, t10', t14, t17⟩ := WY_of (show w < 26 by omega)
  have hIV := h
  obtain ⟨D, L, C, hcr, hsv, htx, hso, hz⟩ := h
  have hr := LR_RW ν
  have hw := hcr.2.2
  have hL := hw.2.1
  have hC := hw.2.2.1
  have g8 : ν.1 139 8 = nI L := (hr.1 8 (by omega)).trans hL.1
  by_cases c6 : L = 6
  · have q := x_labels3 hcr c6
    have q' := x_labels2 hcr
    refine ⟨ν, ?_, hIV⟩
    unfold f_L_acts
    simp only [e1, e2, bd_s, l1_s, t0, t3, t6, if_neg (show ¬ w = 0 by omega), if_pos h1, if_neg (show ¬ 6 ≤ w by omega), i9_8, ix8, g8, if_pos (show nI L = 6 by rw [c6]; rfl), q, q', gdT]
  have n6 : ¬ nI L = 6 := by rw [L6, eqN (by omega) (by omega)]; exact c6
  have m10 : (10 : Int32) * nI L = nI (10 * L) := pk_mul 10 L
  have d12 : nI v / 12 = nI (v / 12) := pk_div (a := v) (d := 12) (by omega) (by omega) (by omega)
  have m12 : nI v - nI v / 12 * 12 = nI (v % 12) := pk_rem (a := v) (d := 12) (by omega) (by omega) (by omega)
  have m9 : nI (v / 12) - nI (v / 12) / 9 * 9 = nI (v / 12 % 9) := pk_rem (a := v / 12) (d := 9) (by omega) (by omega) (by omega)
  have hw12 : v % 12 < 12 := Nat.mod_lt _ (by omega)
  have hb9 : v / 12 % 9 < 9 := Nat.mod_lt _ (by omega)
  rw [d12] at m12
  generalize ea : v % 12 = a at hw12 m12
  generalize eb : v / 12 % 9 = b at hb9 m9
  have a1 : (1 : Int32) + nI a = nI (1 + a) := nI_add 1 a
  have b1 : (1 : Int32) + nI b = nI (1 + b) := nI_add 1 b
  obtain ⟨μ, q0, q1, q2, q3⟩ := lp0 (fun n j μ => f_L_acts_l376 KF 0 139 143 (nI v) (nI (10 * L)) n μ (nI j)) 10 (by decide)
    (fun d μ => FrI (fun a => a = 143) ν μ ∧ (∀ j, j < d → μ.1 143 (10 * L + j) = if j = 0 then nI (1 + a) else if j = 1 then nI (1 + b) else 0) ∧ ∀ i, (i < 10 * L ∨ 10 * L + 10 ≤ i) → μ.1 143 i = ν.1 143 i)
    (fun μ => FrI (fun a => a = 143) ν μ ∧ (∀ j, j < 10 → μ.1 143 (10 * L + j) = if j = 0 then nI (1 + a) else if j = 1 then nI (1 + b) else 0) ∧ ∀ i, (i < 10 * L ∨ 10 * L + 10 ≤ i) → μ.1 143 i = ν.1 143 i)
    (by
      rintro n d μ hd ⟨p1, p2, p3⟩
      have y0 : (nI d = 0) = (d = 0) := eqN (b := 0) (by omega) (by omega)
      have y1 : (nI d = 1) = (d = 1) := eqN (b := 1) (by omega) (by omega)
      refine Or.inr ⟨sI μ 143 (10 * L + d) (if d = 0 then nI (1 + a) else if d = 1 then nI (1 + b) else 0), ?_, p1.sI rfl, fun j hj => ?_, fun i hi => ?_⟩
      · simp only [f_L_acts_l376, if_neg (show ¬ (10 : Int32) ≤ nI d from nI_ge (b := 10) hd (by omega)), d12, m12, m9, a1, b1, y0, y1, nI_add, i43 (show 10 * L + d < 60 by omega), ix_n (show 10 * L + d < 2147483648 by omega), l1_s, nI_succ d]
      · by_cases e : j = d
        · rw [e, sI_at]
        · rw [sI_of (by omega)]
          exact p2 j (by omega)
      · rw [sI_of (by omega)]
        exact p3 i hi)
    (by
      rintro n μ pq
      refine ⟨μ, ?_, pq⟩
      simp only [f_L_acts_l376, if_pos (show (10 : Int32) ≤ nI 10 by decide)]) ν ⟨FrI.rfl, fun j hj => absurd hj (by omega), fun _ _ => rfl⟩
  have q1o : ∀ a, a ≠ 143 → μ.1 a = ν.1 a := fun a ha => q1.2 a ha
  have q1l : FLw ν μ := q1.mono (fun a ha => by have ha : a = 143 := ha; show 139 ≤ a; omega)
  have fl : FLw ν (sI μ 139 8 (nI (L + 1))) := q1l.s (by omega)
  have e8 : μ.1 139 8 = nI L := by rw [q1o 139 (by omega)]; exact g8
  have kk : ∀ j, j < 182 → j ≠ 8 → (j < 86 + 10 * L ∨ 86 + 10 * L + 10 ≤ j) → RW (sI μ 139 8 (nI (L + 1))) j = RW ν j := fun j hj h9 hjc => by
    refine RW_eq (fun h => ?_) (fun x h e => ?_) (fun x h e => ?_) (fun x h e => ?_) (fun i h e => ?_) (fun i e => ?_)
    · rw [sI_of (by omega), q1o 139 (by omega)]
    · rw [sI_rw (by omega), q1o 140 (by omega)]
    · rw [sI_rw (by omega), q1o 141 (by omega)]
    · rw [sI_rw (by omega), q1o 142 (by omega)]
    · rw [sI_rw (by omega)]
      exact q3 i (by omega)
    · rw [sI_rw (by omega), q1o 144 (by omega)]
  have kc : ∀ j, j < 10 → RW (sI μ 139 8 (nI (L + 1))) (86 + 10 * L + j) = if j = 0 then nI (1 + a) else if j = 1 then nI (1 + b) else 0 := fun j hj => by
    rw [Nat.add_assoc, RW_l (by omega), sI_rw (by omega)]
    exact q2 j hj
  obtain ⟨ν2, r1, r2, r3⟩ := o_labels (w := 1 + a) (bk := 1 + b) (g := RW (sI μ 139 8 (nI (L + 1)))) (hcr.law fl) (hsv.law fl) (by omega) (by omega) (by omega) (by omega) (by omega) kk (by rw [RW_g (by omega), sI_at]) (kc 0 (by omega)) (kc 1 (by omega)) (fun j hj hj' => by rw [kc j hj', if_neg (by omega), if_neg (by omega)])
  have e82 : ν2.1 139 8 = nI (L + 1) := by rw [r3.2.1 139 (by omega), sI_at]
  have v0 : (sI μ 139 8 (nI (L + 1))).1 143 (10 * L) = nI (1 + a) := by rw [sI_rw (by omega)]; exact q2 0 (by omega)
  have v1 : (sI μ 139 8 (nI (L + 1))).1 143 (10 * L + 1) = nI (1 + b) := by rw [sI_rw (by omega)]; exact q2 1 (by omega)
  refine ⟨ν2, ?_, IV.fin r2 r3 (txt_law htx fl) (sold_k (by omega) (fun i hi hi' => kk i hi (by omega) (by omega)) hso) (fun d d1 d2 => by rw [sI_rw (by omega), q1o 141 (by omega)]; exact hz d d1 d2)⟩
  have q0 : f_L_acts_l376 KF 0 139 143 (nI v) (nI (10 * L)) FU ν 0 = some μ := q0
  unfold f_L_acts
  simp only [e1, e2, bd_s, l1_s, t0, t3, t6, if_neg (show ¬ w = 0 by omega), if_pos h1, if_neg (show ¬ 6 ≤ w by omega), i9_8, ix8, g8, if_neg n6, m10, q0, e8, nI_1, i43 (show 10 * L < 60 by omega), i43 (show 10 * L + 1 < 60 by omega), ix_n (show 10 * L < 2147483648 by omega), ix_n (show 10 * L + 1 < 2147483648 by omega), v0, v1, r1, e82, nI_pred, gdT]
theorem act_cools (h : IV ν) (hv : v < 10000000) (e1 : f_L_low (z >>> (5 &&& 31)) 10000000 = some (nI v)) (e2 : f_L_low z 26 = some (nI w)) (h1 : w = 11) : ACT ν z := by
  obtain ⟨⟨t0, t10, t11, t16⟩, t3, t6, t10', t14, t17⟩ := WY_of (show w < 26 by omega)
  obtain ⟨D, L, C, hcr, hsv, htx, hso, hz⟩ := h
  have hr := LR_RW ν
  have hw := hcr.2.2
  have hD := hw.1
  have hC := hw.2.2.1
  obtain ⟨q, -, hq, eq⟩ := hw.2.2.2.1.1
  have g0 : ν.1 139 0 = nI D := (hr.1 0 (by omega)).trans hD.1
  have g1 : ν.1 139 1 = nI q := (hr.1 1 (by omega)).trans eq
  have m20 : nI v - nI v / 20 * 20 = nI (v % 20) := pk_rem (a := v) (d := 20) (by omega) (by omega) (by omega)
  have hn : v % 20 < 20 := Nat.mod_lt _ (by omega)
  generalize en : v % 20 = n at hn m20
  have a1 : (1 : Int32) + nI n = nI (1 + n) := nI_add 1 n
  have mq : nI (1 + n) * nI q = nI ((1 + n) * q) := pk_mul _ _
  have hnq : (1 + n) * q ≤ 600 := Nat.mul_le_mul (show 1 + n ≤ 20 by omega) hq
  obtain ⟨⟨s, μ⟩, q0, q1, q2, q3, q4⟩ := lp0 (fun k d (t : Int32 × Mm) => f_L_acts_l715 KF 0 139 140 (nI (1 + n)) k t.2 t.1 (nI d)) D (by unfold FU; omega)
    (fun d t => FrI (fun a => a = 140) ν t.2 ∧ (∀ x, x < d → t.2.1 140 x = nI (qh (stQ (RW ν)) x - (1 + n) * q)) ∧ (∀ x, d ≤ x → t.2.1 140 x = ν.1 140 x) ∧ t.1 = Sm (fun x => nI (qh (stQ (RW ν)) x - (1 + n) * q)) d)
    (fun t => FrI (fun a => a = 140) ν t.2 ∧ (∀ x, x < D → t.2.1 140 x = nI (qh (stQ (RW ν)) x - (1 + n) * q)) ∧ (∀ x, D ≤ x → t.2.1 140 x = ν.1 140 x) ∧ t.1 = Sm (fun x => nI (qh (stQ (RW ν)) x - (1 + n) * q)) D)
    (by
      rintro k d ⟨s, μ⟩ hd ⟨p1, p2, p3, p4⟩
      have p1 : FrI (fun a => a = 140) ν μ := p1
      have p3 : ∀ x, d ≤ x → μ.1 140 x = ν.1 140 x := p3
      have p2 : ∀ x, x < d → μ.1 140 x = nI (qh (stQ (RW ν)) x - (1 + n) * q) := p2
      have p4 : s = Sm (fun x => nI (qh (stQ (RW ν)) x - (1 + n) * q)) d := p4
      have e0 : μ.1 139 0 = nI D := by rw [p1.2 139 (by intro h; have h : 139 = 140 := h; omega)]; exact g0
      have e1' : μ.1 139 1 = nI q := by rw [p1.2 139 (by intro h; have h : 139 = 140 := h; omega)]; exact g1
      have eh : μ.1 140 d = nI (qh (stQ (RW ν)) d) := by
        rw [p3 d (Nat.le_refl d), hr.e (by omega)]
        exact (wf_heat hw hd).1
      have hb := (wf_QB hw d hd).1
      have hite : (if nI (qh (stQ (RW ν)) d) ≤ nI ((1 + n) * q) then (some 0 : Option Int32) else some (nI (qh (stQ (RW ν)) d) - nI ((1 + n) * q))) = some (nI (qh (stQ (RW ν)) d - (1 + n) * q)) := by
        rw [some_ite]
        exact congrArg some (coolN hb (by omega)).1
      refine Or.inr ⟨(s + nI (qh (stQ (RW ν)) d - (1 + n) * q), sI μ 140 d (nI (qh (stQ (RW ν)) d - (1 + n) * q))), ?_, p1.sI rfl, fun x hx => ?_, fun x hx => ?_, ?_⟩
      · have nle : ¬ nI D ≤ nI d := by rw [leN (by omega) (by omega)]; omega
        simp only [f_L_acts_l715, i9_0, i9_1, ix0, ix1, e0, e1', if_neg nle, i40 (show d < 24 by omega), ix_n (show d < 2147483648 by omega), eh, mq, hite, bd_s, l1_s, sI_at, nI_succ d]
      · show (sI μ 140 d _).1 140 x = _
        by_cases e : x = d
        · rw [e, sI_at]
        · rw [sI_of e]
          exact p2 x (by omega)
      · show (sI μ 140 d _).1 140 x = _
        rw [sI_of (by omega)]
        exact p3 x (by omega)
      · show s + _ = Sm _ d + _
        rw [p4])
    (by
      rintro k ⟨s, μ⟩ ⟨p1, p2⟩
      have p1 : FrI (fun a => a = 140) ν μ := p1
      have e0 : μ.1 139 0 = nI D := by rw [p1.2 139 (by intro h; have h : 139 = 140 := h; omega)]; exact g0
      refine ⟨(s, μ), ?_, p1, p2⟩
      simp only [f_L_acts_l715, i9_0, ix0, e0, if_pos (Int32.le_refl (nI D))]) (0, ν) ⟨FrI.rfl, fun x hx => absurd hx (by omega), fun _ _ => rfl, rfl⟩
  have q1 : FrI (fun a => a = 140) ν μ := q1
  have q2 : ∀ x, x < D → μ.1 140 x = nI (qh (stQ (RW ν)) x - (1 + n) * q) := q2
  have q3 : ∀ x, D ≤ x → μ.1 140 x = ν.1 140 x := q3
  have q4 : s = Sm (fun x => nI (qh (stQ (RW ν)) x - (1 + n) * q)) D := q4
  have q0 : f_L_acts_l715 KF 0 139 140 (nI (1 + n)) FU ν 0 0 = some (s, μ) := q0
  have q1o : ∀ a, a ≠ 140 → μ.1 a = ν.1 a := fun a ha => q1.2 a ha
  have q1l : FLw ν μ := q1.mono (fun a ha => by have ha : a = 140 := ha; show 139 ≤ a; omega)
  have fl : FLw ν (sI μ 139 13 (ν.1 139 13 + nI (1 + n))) := q1l.s (by omega)
  have kk : ∀ j, j < 182 → j ≠ 13 → (∀ x, x < D → j ≠ 14 + 3 * x) → RW (sI μ 139 13 (ν.1 139 13 + nI (1 + n))) j = RW ν j := fun j hj h9 hjc => by
    refine RW_eq (fun h => ?_) (fun x h e => ?_) (fun x h e => ?_) (fun x h e => ?_) (fun i h e => ?_) (fun i e => ?_)
    · rw [sI_of (by omega), q1o 139 (by omega)]
    · rw [sI_rw (by omega)]
      refine q3 x ?_
      by_cases t : D ≤ x
      · exact t
      · exact absurd e (hjc x (by omega))
    · rw [sI_rw (by omega), q1o 141 (by omega)]
    · rw [sI_rw (by omega), q1o 142 (by omega)]
    · rw [sI_rw (by omega), q1o 143 (by omega)]
    · rw [sI_rw (by omega), q1o 144 (by omega)]
  have ge : ∀ x, x < D → RW (sI μ 139 13 (ν.1 139 13 + nI (1 + n))) (14 + 3 * x) = nI (qh (stQ (RW ν)) x - (1 + n) * q) := fun x hx => by
    rw [RW_e (by omega), sI_rw (by omega)]
    exact q2 x hx
  obtain ⟨ν2, r1, r2, r3⟩ := o_cools (n := 1 + n) (g := RW (sI μ 139 13 (ν.1 139 13 + nI (1 + n)))) (hcr.law fl) (hsv.law fl) (by omega) (by omega) eq hq kk (by rw [RW_g (by omega), sI_at, hr.1 13 (by omega)]) (fun x hx m hm em => by
    have e := (wf_heat hw hx).1
    rw [em, eqN (by omega) (by have := (wf_QB hw x hx).1; omega)] at e
    rw [ge x hx, e])
  have es : Sm (fun d => RW (sI μ 139 13 (ν.1 139 13 + nI (1 + n))) (14 + 3 * d)) D = s := by
    rw [q4]
    exact Sm_cong (fun d hd => ge d hd)
  rw [es] at r1
  refine ⟨ν2, ?_, IV.fin r2 r3 (txt_law htx fl) (sold_k (by omega) (fun i hi hi' => kk i hi (by omega) (fun x hx => by omega)) hso) (fun d d1 d2 => by rw [sI_rw (by omega), q1o 141 (by omega)]; exact hz d d1 d2)⟩
  have e13 : μ.1 139 13 = ν.1 139 13 := by rw [q1o 139 (by omega)]
  unfold f_L_acts
  simp only [e1, e2, bd_s, l1_s, t0, t10, t11, t3, t6, t10', if_neg (show ¬ w = 0 by omega), if_neg (show ¬ w = 10 by omega), if_pos h1, if_pos (show 3 ≤ w by omega), if_pos (show 6 ≤ w by omega), if_pos (show 10 ≤ w by omega), m20, a1, q0, i9_13, ix13, e13, r1, gdT]
end PureActsB
