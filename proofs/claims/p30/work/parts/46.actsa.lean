/-! PURE: the acts, one after the other -/
section PureActsA
theorem low_n (z : Int32) : ∃ m, m < 2147483648 ∧ z &&& 2147483647 = nI m := by
  refine ⟨(z &&& 2147483647).toBitVec.toNat, ?_, ?_⟩
  · have h : (z &&& 2147483647).toBitVec.toNat = z.toBitVec.toNat &&& 2147483647 := by
      rw [Int32.toBitVec_and, BitVec.toNat_and]
      rfl
    rw [h]
    exact Nat.lt_of_le_of_lt Nat.and_le_right (by decide)
  · show _ = Int32.ofNat _
    apply Int32.toBitVec_inj.mp
    show _ = BitVec.ofNat 32 _
    rw [BitVec.ofNat_toNat, BitVec.setWidth_eq]
theorem l_low (z : Int32) {n : Nat} (h1 : 1 ≤ n) (hn : n < 2147483648) : ∃ m, m < n ∧ f_L_low z (nI n) = some (nI m) := by
  obtain ⟨m, hm, e⟩ := low_n z
  refine ⟨m % n, Nat.mod_lt _ (by omega), ?_⟩
  unfold f_L_low
  rw [gd_t (show ¬ nI n = 0 from nI_ne0 (by omega) (by omega)), e, pk_rem hm (by omega) hn]
/-- what is asked of which way to go -/
def WY (w : Nat) : Prop := ((nI w = 0) = (w = 0) ∧ (nI w = 10) = (w = 10) ∧ (nI w = 11) = (w = 11) ∧ (nI w = 16) = (w = 16)) ∧ ((3 ≤ nI w) = (3 ≤ w) ∧ (6 ≤ nI w) = (6 ≤ w) ∧ (10 ≤ nI w) = (10 ≤ w) ∧ (14 ≤ nI w) = (14 ≤ w) ∧ (17 ≤ nI w) = (17 ≤ w))
theorem WY_of {w : Nat} (h : w < 26) : WY w := ⟨⟨eqN (b := 0) (by omega) (by omega), eqN (b := 10) (by omega) (by omega), eqN (b := 11) (by omega) (by omega), eqN (b := 16) (by omega) (by omega)⟩, ⟨leN (a := 3) (by omega) (by omega), leN (a := 6) (by omega) (by omega), leN (a := 10) (by omega) (by omega), leN (a := 14) (by omega) (by omega), leN (a := 17) (by omega) (by omega)⟩⟩
variable {ν : Mm} {v w : Nat} {z : Int32}
def ACT (ν : Mm) (z : Int32) : Prop := ∃ ν', f_L_acts KF ν 0 139 140 141 142 143 144 z = some (1, ν') ∧ IV ν'
theorem act_sells (h : IV ν) (hv : v < 10000000) (e1 : f_L_low (z >>> (5 &&& 31)) 10000000 = some (nI v)) (e2 : f_L_low z 26 = some (nI w)) (hw : w < 26) (h1 : 17 ≤ w) : ACT ν z := by
  obtain ⟨⟨t0, t10, t11, t16⟩, t3, t6, t10', t14, t17⟩ := WY_of hw
  obtain ⟨ν', q, hi⟩ := l_sells h hv (if nI w ≤ 22 then 0 else 1)
  refine ⟨ν', ?_, hi⟩
  unfold f_L_acts
  simp only [e1, e2, bd_s, l1_s, t0, t10, t11, t3, t6, t10', t14, t17, if_neg (show ¬ w = 0 by omega), if_neg (show ¬ w = 10 by omega), if_neg (show ¬ w = 11 by omega), if_pos (show 3 ≤ w by omega), if_pos (show 6 ≤ w by omega), if_pos (show 10 ≤ w by omega), if_pos (show 14 ≤ w by omega), if_pos h1, q]
  rfl
theorem act_lets (h : IV ν) (hv : v < 10000000) (e1 : f_L_low (z >>> (5 &&& 31)) 10000000 = some (nI v)) (e2 : f_L_low z 26 = some (nI w)) (hw : w < 26) (h1 : 14 ≤ w) (h2 : w < 17) : ACT ν z := by
  obtain ⟨⟨t0, t10, t11, t16⟩, t3, t6, t10', t14, t17⟩ := WY_of hw
  obtain ⟨ν', q, hi⟩ := l_lets h hv (if w = 16 then 1 else 0)
  refine ⟨ν', ?_, hi⟩
  unfold f_L_acts
  simp only [e1, e2, bd_s, l1_s, t0, t10, t11, t16, t3, t6, t10', t14, t17, if_neg (show ¬ w = 0 by omega), if_neg (show ¬ w = 10 by omega), if_neg (show ¬ w = 11 by omega), if_pos (show 3 ≤ w by omega), if_pos (show 6 ≤ w by omega), if_pos (show 10 ≤ w by omega), if_pos h1, if_neg (show ¬ 17 ≤ w by omega), q]
  rfl
theorem i41 {α : Type} {k : Option α} {n : Nat} (h : n < 24) : gd (inb (nI n) (KF 141).2) k = k := by rw [K141]; exact gd_n h (by omega)
theorem i40 {α : Type} {k : Option α} {n : Nat} (h : n < 24) : gd (inb (nI n) (KF 140).2) k = k := by rw [K140]; exact gd_n h (by omega)
theorem i42 {α : Type} {k : Option α} {n : Nat} (h : n < 24) : gd (inb (nI n) (KF 142).2) k = k := by rw [K142]; exact gd_n h (by omega)
theorem i43 {α : Type} {k : Option α} {n : Nat} (h : n < 60) : gd (inb (nI n) (KF 143).2) k = k := by rw [K143]; exact gd_n h (by omega)
theorem i44 {α : Type} {k : Option α} {n : Nat} (h : n < 36) : gd (inb (nI n) (KF 144).2) k = k := by rw [K144]; exact gd_n h (by omega)
theorem i39 {α : Type} {k : Option α} {n : Nat} (h : n < 14) : gd (inb (nI n) (KF 139).2) k = k := by rw [K139]; exact gd_n h (by omega)
/-- the sums of what was sold don't hang on the dots, the settings, the labels -/
theorem sold_k {f g : Nat → Int32} {C : Nat} (hC : C ≤ 6) (k : ∀ j, j < 182 → (j = 11 ∨ 146 ≤ j) → g j = f j) (h : Sm (soldT f) C = f 11) : Sm (soldT g) C = g 11 := by
  rw [k 11 (by omega) (Or.inl rfl), ← h]
  exact Sm_cong (fun d hd => k _ (by omega) (by omega))
theorem act_renews (h : IV ν) (hv : v < 10000000) (e1 : f_L_low (z >>> (5 &&& 31)) 10000000 = some (nI v)) (e2 : f_L_low z 26 = some (nI w)) (h1 : w = 10) : ACT ν z := by
  obtain ⟨⟨t0, t10, t11, t16⟩, t3, t6, t10', t14, t17⟩ := WY_of (show w < 26 by omega)
  have hIV := h
  obtain ⟨D, L, C, hcr, hsv, htx, hso, hz⟩ := h
  have hr := LR_RW ν
  have hw := hcr.2.2
  have hD := hw.1
  have hC := hw.2.2.1
  have g0 : ν.1 139 0 = nI D := (hr.1 0 (by omega)).trans hD.1
  have m24 : nI v - nI v / 24 * 24 = nI (v % 24) := pk_rem (a := v) (d := 24) (by omega) (by omega) (by omega)
  have hd : v % 24 < 24 := Nat.mod_lt _ (by omega)
  generalize ed : v % 24 = d at hd m24
  by_cases t : d < D
  · have tl : nI d < nI D := by rw [ltN (by omega) (by omega)]; exact t
    have fl : FLw ν (sI (sI (sI ν 140 d 0) 141 d 0) 142 d 0) := ((FLw.refl.s (by omega)).s (by omega)).s (by omega)
    have kk : ∀ j, j < 182 → (j < 14 + 3 * d ∨ 14 + 3 * d + 3 ≤ j) → RW (sI (sI (sI ν 140 d 0) 141 d 0) 142 d 0) j = RW ν j := fun j hj hjd => by
      refine RW_eq (fun h => ?_) (fun x h e => ?_) (fun x h e => ?_) (fun x h e => ?_) (fun i h e => ?_) (fun i e => ?_)
      · rw [sI_rw (by omega), sI_rw (by omega), sI_rw (by omega)]
      · rw [sI_rw (by omega), sI_rw (by omega), sI_of (by omega)]
      · rw [sI_rw (by omega), sI_of (by omega), sI_rw (by omega)]
      · rw [sI_of (by omega), sI_rw (by omega), sI_rw (by omega)]
      · rw [sI_rw (by omega), sI_rw (by omega), sI_rw (by omega)]
      · rw [sI_rw (by omega), sI_rw (by omega), sI_rw (by omega)]
    obtain ⟨ν2, r1, r2, r3⟩ := o_renews (g := RW (sI (sI (sI ν 140 d 0) 141 d 0) 142 d 0)) (hcr.law fl) (hsv.law fl) t kk (by rw [RW_e hd, sI_rw (by omega), sI_rw (by omega), sI_at]) (by rw [RW_y hd, sI_rw (by omega), sI_at]) (by rw [RW_u hd, sI_at])
    refine ⟨ν2, ?_, IV.fin r2 r3 (txt_law htx fl) (sold_k (by omega) (fun j hj hj' => kk j hj (by omega)) hso) (fun x x1 x2 => ?_)⟩
    · unfold f_L_acts
      simp only [e1, e2, bd_s, l1_s, t0, t10, t3, t6, t10', if_neg (show ¬ w = 0 by omega), if_pos h1, if_pos (show 3 ≤ w by omega), if_pos (show 6 ≤ w by omega), if_pos (show 10 ≤ w by omega), m24, i9_0, ix0, g0, if_pos tl, i40 hd, i41 hd, i42 hd, ix_n (show d < 2147483648 by omega), r1]
      rw [gd_t (hr.y hd).symm]
    · rw [sI_rw (by omega), sI_of (by omega), sI_rw (by omega)]
      exact hz x x1 x2
  · have tl : ¬ nI d < nI D := by rw [ltN (by omega) (by omega)]; exact t
    have q := x_renews hcr (d := d) (by omega) (by omega)
    refine ⟨ν, ?_, hIV⟩
    unfold f_L_acts
    simp only [e1, e2, bd_s, l1_s, t0, t10, t3, t6, t10', if_neg (show ¬ w = 0 by omega), if_pos h1, if_pos (show 3 ≤ w by omega), if_pos (show 6 ≤ w by omega), if_pos (show 10 ≤ w by omega), m24, i9_0, ix0, g0, if_neg tl, q, gdT]
def moN (j q : Nat) : Nat := ([30, 90, if q = 0 then 9999 else 30, 100, 8, 20, 100] : List Nat).getD j 0
theorem lo_tab : ∀ j, j < 7 → ((if nI j = 1 then (10 : Int32) else (if nI j = 3 then 1 else (if nI j = 6 then 1 else 0))) = nI (loN j)) := by decide +kernel
theorem mo_tab : ∀ j, j < 7 → ∀ q, q < 2 → ((if nI j = 0 then (30 : Int32) else (if nI j = 1 then 90 else (if nI j = 2 then (if nI q = 0 then 9999 else 30) else (if nI j = 4 then 8 else (if nI j = 5 then 20 else 100))))) = nI (moN j q)) ∧ loN j ≤ moN j q ∧ moN j q ≤ hiN j ∧ moN j q < 10000 := by decide +kernel
theorem act_sets (h : IV ν) (hv : v < 10000000) (e1 : f_L_low (z >>> (5 &&& 31)) 10000000 = some (nI v)) (e2 : f_L_low z 26 = some (nI w)) (h1 : 1 ≤ w) (h2 : w < 3) : ACT ν z := by
  obtain ⟨⟨t0, t10, t11, t16⟩, t3, t6, t10', t14, t17⟩ := WY_of (show w < 26 by omega)
  obtain ⟨D, L, C, hcr, hsv, htx, hso, hz⟩ := h
  have hr := LR_RW ν
  have hw := hcr.2.2
  have hC := hw.2.2.1
  have m7 : nI v - nI v / 7 * 7 = nI (v % 7) := pk_rem (a := v) (d := 7) (by omega) (by omega) (by omega)
  have m2 : nI v - nI v / 2 * 2 = nI (v % 2) := pk_rem (a := v) (d := 2) (by omega) (by omega) (by omega)
  have d7 : nI v / 7 = nI (v / 7) := pk_div (a := v) (d := 7) (by omega) (by omega) (by omega)
  rw [d7] at m7
  have hj : v % 7 < 7 := Nat.mod_lt _ (by omega)
  have hq : v % 2 < 2 := Nat.mod_lt _ (by omega)
  generalize ej : v % 7 = j at hj m7
  generalize eq : v % 2 = q at hq m2
  have hlo := lo_tab j hj
  obtain ⟨hmo, b1, b2, b3⟩ := mo_tab j hj q hq
  have m1 : nI (moN j q) - nI (loN j) = nI (moN j q - loN j) := pk_sub b1
  have mM : nI (v / 7) - nI (v / 7) / nI (moN j q - loN j + 1) * nI (moN j q - loN j + 1) = nI (v / 7 % (moN j q - loN j + 1)) := pk_rem (by omega) (by omega) (by omega)
  have nM : ¬ nI (moN j q - loN j + 1) = 0 := nI_ne0 (by omega) (by omega)
  have hx : v / 7 % (moN j q - loN j + 1) < moN j q - loN j + 1 := Nat.mod_lt _ (by omega)
  generalize ex : v / 7 % (moN j q - loN j + 1) = x at hx mM
  have a1 : (1 : Int32) + nI j = nI (1 + j) := nI_add 1 j
  have fl : FLw ν (sI ν 139 (1 + j) (nI (loN j + x))) := FLw.refl.s (by omega)
  have kk : ∀ i, i < 182 → i ≠ 1 + j → RW (sI ν 139 (1 + j) (nI (loN j + x))) i = RW ν i := fun i hi hij => by
    refine RW_eq (fun h => ?_) (fun x h e => ?_) (fun x h e => ?_) (fun x h e => ?_) (fun i h e => ?_) (fun i e => ?_)
    · rw [sI_of (by omega)]
    all_goals rw [sI_rw (by omega)]
  obtain ⟨ν2, r1, r2, r3⟩ := o_sets (g := RW (sI ν 139 (1 + j) (nI (loN j + x)))) (hcr.law fl) (hsv.law fl) hj (b := loN j + x) (by omega) (by omega) kk (by rw [RW_g (by omega), sI_at])
  refine ⟨ν2, ?_, IV.fin r2 r3 (txt_law htx fl) (sold_k (by omega) (fun i hi hi' => kk i hi (by omega)) hso) (fun d d1 d2 => by rw [sI_rw (by omega)]; exact hz d d1 d2)⟩
  unfold f_L_acts
  simp only [e1, e2, bd_s, l1_s, t0, t3, if_neg (show ¬ w = 0 by omega), if_neg (show ¬ 3 ≤ w by omega), m7, m2, d7, hlo, hmo, m1, nI_1, gd_t nM, mM, a1, nI_add, i39 (show 1 + j < 14 by omega), ix_n (show 1 + j < 2147483648 by omega), sI_at, r1]
  rw [gd_t (hr.1 (1 + j) (by omega)).symm]
theorem act_rows (h : IV ν) (hv : v < 10000000) (e1 : f_L_low (z >>> (5 &&& 31)) 10000000 = some (nI v)) (e2 : f_L_low z 26 = some (nI w)) (h1 : 6 ≤ w) (h2 : w < 10) : ACT ν z := by
  obtain ⟨⟨t0, t10, t11, t16⟩, t3, t6, t10', t14, t17⟩ := WY_of (show w < 26 by omega)
  have hIV := h
  obtain ⟨D, L, C, hcr, hsv, htx, hso, hz⟩ := h
  have hr := LR_RW ν
  have hw := hcr.2.2
  have hL := hw.2.1
  have hC := hw.2.2.1
  have g8 : ν.1 139 8 = nI L := (hr.1 8 (by omega)).trans hL.1
  by_cases cL : L = 0
  · have q := x_rows1 hcr cL
    refine ⟨ν, ?_, hIV⟩
    unfold f_L_acts
    simp only [e1, e2, bd_s, l1_s, t0, t3, t6, t10', if_neg (show ¬ w = 0 by omega), if_pos (show 3 ≤ w by omega), if_pos h1, if_neg (show ¬ 10 ≤ w by omega), i9_8, ix8, g8, if_pos (show nI L = 0 by rw [cL]; rfl), q, gdT]
  have nL := ne0 cL (show L < 1000 by omega)
  have hl : v % L < L := Nat.mod_lt _ (by omega)
  have hr6 : v / 6 % 6 < 6 := Nat.mod_lt _ (by omega)
  have ml : nI v - nI v / nI L * nI L = nI (v % L) := pk_rem (by omega) (by omega) (by omega)
  have d6 : nI v / 6 = nI (v / 6) := pk_div (a := v) (d := 6) (by omega) (by omega) (by omega)
  have d36 : nI v / 36 = nI (v / 36) := pk_div (a := v) (d := 36) (by omega) (by omega) (by omega)
  have mr : nI (v / 6) - nI (v / 6) / 6 * 6 = nI (v / 6 % 6) := pk_rem (a := v / 6) (d := 6) (by omega) (by omega) (by omega)
  generalize el : v % L = l at hl ml
  generalize er : v / 6 % 6 = r at hr6 mr
  obtain ⟨wd, w1, w2, ew⟩ := wf_lab hw hl
  obtain ⟨p1, p2, p3⟩ := pows wd w2
  have mc : nI (v / 36) - nI (v / 36) / nI (2 ^ wd) * nI (2 ^ wd) = nI (v / 36 % 2 ^ wd) := pk_rem (by omega) (by omega) (by omega)
  have nP : ¬ nI (2 ^ wd) = 0 := nI_ne0 (by omega) (by omega)
  have hc : v / 36 % 2 ^ wd < 2 ^ wd := Nat.mod_lt _ (by omega)
  generalize ec : v / 36 % 2 ^ wd = c at hc mc
  have c10 : (10 : Int32) * nI l = nI (10 * l) := pk_mul 10 l
  have c2 : nI (10 * l) + 2 = nI (10 * l + 2) := nI_add (10 * l) 2
  have c3 : nI (10 * l + 2) + nI r = nI (10 * l + 2 + r) := nI_add _ _
  have l0 : ν.1 143 (10 * l) = nI wd := (hr.l0 (show l < 6 by omega)).trans ew
  have l2 : ν.1 143 (10 * l + 2 + r) = RW ν (86 + 10 * l + (2 + r)) := by rw [Nat.add_assoc]; exact hr.l (show l < 6 by omega) (by omega)
  have fl : FLw ν (sI ν 143 (10 * l + 2 + r) (nI c)) := FLw.refl.s (by omega)
  have kk : ∀ i, i < 182 → i ≠ 86 + 10 * l + (2 + r) → RW (sI ν 143 (10 * l + 2 + r) (nI c)) i = RW ν i := fun i hi hij => by
    refine RW_eq (fun h => ?_) (fun x h e => ?_) (fun x h e => ?_) (fun x h e => ?_) (fun i h e => ?_) (fun i e => ?_)
    · rw [sI_rw (by omega)]
    · rw [sI_rw (by omega)]
    · rw [sI_rw (by omega)]
    · rw [sI_rw (by omega)]
    · rw [sI_of (by omega)]
    · rw [sI_rw (by omega)]
  obtain ⟨ν2, r1, r2, r3⟩ := o_rows (g := RW (sI ν 143 (10 * l + 2 + r) (nI c))) (hcr.law fl) (hsv.law fl) hl hr6 ew w2 hc kk (by rw [show 86 + 10 * l + (2 + r) = 86 + (10 * l + 2 + r) by omega, RW_l (by omega), sI_at])
  have ew2 : RW (sI ν 143 (10 * l + 2 + r) (nI c)) (86 + 10 * l) = nI wd := by rw [kk _ (by omega) (by omega)]; exact ew
  have q2 := x_rows2 r2 hl hr6 ew2 w2
  have l02 : ν2.1 143 (10 * l) = nI wd := by
    rw [r3.2.1 143 (by omega), sI_of (by omega)]
    exact l0
  refine ⟨ν2, ?_, IV.fin r2 r3 (txt_law htx fl) (sold_k (by omega) (fun i hi hi' => kk i hi (by omega)) hso) (fun d d1 d2 => by rw [sI_rw (by omega)]; exact hz d d1 d2)⟩
  unfold f_L_acts
  simp only [e1, e2, bd_s, l1_s, t0, t3, t6, t10', if_neg (show ¬ w = 0 by omega), if_pos (show 3 ≤ w by omega), if_pos h1, if_neg (show ¬ 10 ≤ w by omega), i9_8, ix8, g8, if_neg nL, gd_t nL, ml, d6, mr, d36, c10, c2, c3, i43 (show 10 * l < 60 by omega), i43 (show 10 * l + 2 + r < 60 by omega), ix_n (show 10 * l < 2147483648 by omega), ix_n (show 10 * l + 2 + r < 2147483648 by omega), l0, p1, gd_t nP, mc, l2, r1, gdT, l02, q2]
end PureActsA
