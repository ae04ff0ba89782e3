/-! PURE: the digest -/
section PureP8
def hs (t : Nat → Int32) : Nat → Int64 → Int64 | 0, h => h | n + 1, h => 31 * hs t n h + Int32.toInt64 (t n)
theorem hs_add (t : Nat → Int32) (a : Nat) (h : Int64) : ∀ b, hs t (a + b) h = hs (fun w => t (a + w)) b (hs t a h)
  | 0 => rfl
  | b + 1 => by
    show 31 * hs t (a + b) h + Int32.toInt64 (t (a + b)) = 31 * hs (fun w => t (a + w)) b (hs t a h) + Int32.toInt64 (t (a + b))
    rw [hs_add t a h b]
theorem hsF (F : Nat → Nat → Int64 → Option Int64) (t : Nat → Int32) (D : Nat) (hD : D < FU) (step : ∀ n d v, d < D → F (n + 1) d v = F n (d + 1) (31 * v + Int32.toInt64 (t d))) (fin : ∀ n v, F (n + 1) D v = some v) (v : Int64) : F FU 0 v = some (hs t D v) := by
  obtain ⟨r, e, q⟩ := lp0 F D hD (fun d s => s = hs t d v) (fun r => r = hs t D v) (fun n d s hd hs => Or.inr ⟨_, step n d s hd, by rw [hs]; rfl⟩) (fun n s hs => ⟨s, fin n s, hs⟩) v rfl
  rw [e, q]
theorem mix_s (a b : Int64) : f_X7_mix a b = some (31 * a + b) := rfl
theorem ifn {α : Sort _} {c : Prop} [Decidable c] {a b : α} (h : ¬ c) : (if c then a else b) = b := if_neg h
theorem b_w {D L C m : Nat} {μ η : Mm} (h : CR D L C μ η) (ht : TX m μ η) {k : Nat} (hk : k < 18) : ∃ v, f_X7_whole KF μ 0 (nI k) = some v ∧ f_X8_wholeOf KF η 139 (nI k) = some v := by
  have eF : f_X7_whole KF μ 0 (nI k) = if nI k = 17 then some (μ.1 1 1) else f_X5_wholeValue KF μ 9 (nI k) := by
    unfold f_X7_whole
    rw [if_neg (nI_pos (by omega)), if_pos (show nI k < 18 from nI_lt (b := 18) hk (by omega)), l1_s, ref0, bd_s, r_00 h.1, bd_s, r_03 h.1, bd_s]
    by_cases c : nI k = 17
    · rw [if_pos c, if_pos c]
    · rw [if_neg c, if_neg c]
      cases f_X5_wholeValue KF μ 9 (nI k) <;> rfl
  by_cases c : k = 17
  · subst c
    refine ⟨μ.1 1 1, by rw [eF, if_pos (show nI 17 = 17 from rfl)], ?_⟩
    unfold f_X8_wholeOf
    rw [if_neg (by decide +kernel), if_neg (by decide +kernel), if_neg (by decide +kernel), if_neg (by decide +kernel), if_neg (by decide +kernel), if_neg (by decide +kernel), if_neg (by decide +kernel), if_pos (by decide +kernel), ht.1.1, ht.1.2.1]
  · obtain ⟨v, y1, y2⟩ := b_whole h (j := k) (by omega)
    refine ⟨v, ?_, y2⟩
    rw [eF, if_neg (by rw [show (17 : Int32) = nI 17 from rfl, eqN (by omega) (by omega)]; exact c)]
    exact y1
theorem dm {k d : Nat} {x : Int32} (hx : x = nI d) (hk : k < 1000) (h0 : 0 < d) (hd : d < 1000) : nI k / x = nI (k / d) ∧ nI k - nI (k / d) * x = nI (k % d) := by
  subst hx
  have e := pk_div (a := k) (d := d) (by omega) h0 (by omega)
  exact ⟨e, by rw [← e]; exact pk_rem (by omega) h0 (by omega)⟩
def tDot (η : Mm) (k : Nat) : Int32 := (f_X8_valueOf KF η 139 (nI (k / 5)) (nI (k % 5))).getD 0
theorem b_dots {D L C : Nat} {μ η : Mm} (h : CR D L C μ η) (v : Int64) : f_X7_mixDots KF μ 0 v = some (hs (tDot η) (5 * D) v) ∧ f_X8_digest_l44 KF η 139 FU v 0 = some (hs (tDot η) (5 * D) v) := by
  have hD := h.2.2.2.1
  have e10 : μ.1 10 0 = nI D := h.2.2.1.1.1.trans hD.1
  have val : ∀ d w, d < D → w < 5 → ∃ x, f_X5_dotValue KF μ 9 (nI d) (nI w) = some x ∧ f_X8_valueOf KF η 139 (nI d) (nI w) = some x ∧ tDot η (5 * d + w) = x := fun d w hd hw => by
    obtain ⟨x, y1, y2⟩ := b_dot h hd hw
    refine ⟨x, y1, y2, ?_⟩
    unfold tDot
    rw [show (5 * d + w) / 5 = d by omega, show (5 * d + w) % 5 = w by omega, y2]
    rfl
  refine ⟨?_, ?_⟩
  · have inner : ∀ d v, d < D → f_X7_mixDots_l23 KF μ 0 (nI d) FU v 0 = some (hs (fun w => tDot η (5 * d + w)) 5 v) := fun d v hd => by
      refine hsF (fun n w v => f_X7_mixDots_l23 KF μ 0 (nI d) n v (nI w)) _ 5 (by decide) (fun n w v hw => ?_) (fun n v => ?_) v
      · obtain ⟨x, y1, y2, y3⟩ := val d w hd hw
        show _ = f_X7_mixDots_l23 KF μ 0 (nI d) n (31 * v + Int32.toInt64 (tDot η (5 * d + w))) (nI (w + 1))
        rw [y3]
        simp (disch := omega) only [f_X7_mixDots_l23, L5, leN, if_neg (Nat.not_le.mpr hw), r_03 h.1, bd_s, y1, mix_s, l1_s, nI_1]
      · simp (disch := omega) only [f_X7_mixDots_l23, L5, leN, if_pos (Nat.le_refl 5)]
    obtain ⟨r, e, q⟩ := lp0 (fun n d s => f_X7_mixDots_l5 KF μ 0 n s (nI d)) D (by unfold FU; omega) (fun d s => s = hs (tDot η) (5 * d) v) (fun r => r = hs (tDot η) (5 * D) v)
      (by
        intro n d s hd hs1
        refine Or.inr ⟨hs (fun w => tDot η (5 * d + w)) 5 s, ?_, by rw [hs1, ← hs_add, Nat.mul_succ]⟩
        simp (disch := omega) only [f_X7_mixDots_l5, r_03 h.1, r_90 h.1, bd_s, e10, leN, if_neg (Nat.not_le.mpr hd), inner d s hd, l1_s, nI_1])
      (by
        intro n s hs1
        refine ⟨s, ?_, hs1⟩
        simp (disch := omega) only [f_X7_mixDots_l5, r_03 h.1, r_90 h.1, bd_s, e10, leN, if_pos (Nat.le_refl D)]) v rfl
    subst q
    unfold f_X7_mixDots
    rw [show f_X7_mixDots_l5 KF μ 0 FU v 0 = some _ from e]
    rfl
  · refine hsF (fun n k v => f_X8_digest_l44 KF η 139 n v (nI k)) _ (5 * D) (by unfold FU; omega) (fun n k v hk => ?_) (fun n v => ?_) v
    · obtain ⟨x, y1, y2, y3⟩ := val (k / 5) (k % 5) (by omega) (by omega)
      rw [show 5 * (k / 5) + k % 5 = k by omega] at y3
      have e5 : 5 * η.1 140 0 = nI (5 * D) := by rw [hD.1, L5, pk_mul]
      have d5 := dm (k := k) (d := 5) L5 (by omega) (by omega) (by omega)
      show _ = f_X8_digest_l44 KF η 139 n (31 * v + Int32.toInt64 (tDot η k)) (nI (k + 1))
      rw [y3]
      simp (disch := omega) only [f_X8_digest_l44, r_m0 h.2.1, bd_s, L0, K140, gd_n, ix_n, e5, leN, if_neg (Nat.not_le.mpr hk), d5.1, d5.2, y2, l1_s, nI_1]
    · have e5 : 5 * η.1 140 0 = nI (5 * D) := by rw [hD.1, L5, pk_mul]
      simp (disch := omega) only [f_X8_digest_l44, r_m0 h.2.1, bd_s, L0, K140, gd_n, ix_n, e5, leN, if_pos (Nat.le_refl (5 * D))]
def tLab (η : Mm) (k : Nat) : Int32 := if k % 12 < 6 then (f_X8_ofLabel KF η 139 (nI (k / 12)) (nI (k % 12))).getD 0 else η.1 140 (86 + 10 * (k / 12) + (2 + (k % 12 - 6)))
theorem b_labs {D L C : Nat} {μ η : Mm} (h : CR D L C μ η) (v : Int64) : f_X7_mixLabels KF μ 0 v = some (hs (tLab η) (12 * L) v) ∧ f_X8_digest_l82 KF η 139 FU v 0 = some (hs (tLab η) (12 * L) v) := by
  have hL := h.2.2.2.2.1
  have e4 : μ.1 9 4 = nI L := h.2.2.1.2.2.2.1.1.trans hL.1
  have val : ∀ l w, l < L → w < 6 → ∃ x, f_X4_value KF μ (17 + 2 * l) (nI w) = some x ∧ f_X8_ofLabel KF η 139 (nI l) (nI w) = some x ∧ tLab η (12 * l + w) = x := fun l w hl hw => by
    obtain ⟨x, y1, y2⟩ := b_label h hl hw
    refine ⟨x, y1, y2, ?_⟩
    unfold tLab
    rw [if_pos (by omega), show (12 * l + w) / 12 = l by omega, show (12 * l + w) % 12 = w by omega, y2]
    rfl
  have row : ∀ l w, l < L → w < 6 → tLab η (12 * l + 6 + w) = η.1 140 (86 + 10 * l + (2 + w)) := fun l w hl hw => by
    unfold tLab
    rw [if_neg (by omega), show (12 * l + 6 + w) / 12 = l by omega, show (12 * l + 6 + w) % 12 - 6 = w by omega]
  refine ⟨?_, ?_⟩
  · have in1 : ∀ l v, l < L → f_X7_mixLabels_l32 KF μ 0 (nI l) (17 + 2 * l) FU v 0 = some (hs (fun w => tLab η (12 * l + w)) 6 v) := fun l v hl => by
      refine hsF (fun n w v => f_X7_mixLabels_l32 KF μ 0 (nI l) (17 + 2 * l) n v (nI w)) _ 6 (by decide) (fun n w v hw => ?_) (fun n v => ?_) v
      · obtain ⟨x, y1, y2, y3⟩ := val l w hl hw
        show _ = f_X7_mixLabels_l32 KF μ 0 (nI l) (17 + 2 * l) n (31 * v + Int32.toInt64 (tLab η (12 * l + w))) (nI (w + 1))
        rw [y3]
        simp (disch := omega) only [f_X7_mixLabels_l32, L6, leN, if_neg (Nat.not_le.mpr hw), bd_s, y1, mix_s, l1_s, nI_1]
      · simp (disch := omega) only [f_X7_mixLabels_l32, L6, leN, if_pos (Nat.le_refl 6)]
    have in2 : ∀ l v, l < L → f_X7_mixLabels_l61 KF μ 0 (nI l) (17 + 2 * l) FU v 0 = some (hs (fun w => tLab η (12 * l + 6 + w)) 6 v) := fun l v hl => by
      refine hsF (fun n w v => f_X7_mixLabels_l61 KF μ 0 (nI l) (17 + 2 * l) n v (nI w)) _ 6 (by decide) (fun n w v hw => ?_) (fun n v => ?_) v
      · show _ = f_X7_mixLabels_l61 KF μ 0 (nI l) (17 + 2 * l) n (31 * v + Int32.toInt64 (tLab η (12 * l + 6 + w))) (nI (w + 1))
        rw [row l w hl hw, ← cpl_row h.2.2.1 hl hw]
        simp (disch := omega) only [f_X7_mixLabels_l61, L6, leN, if_neg (Nat.not_le.mpr hw), r_row h.1 (show l < 6 by omega), K_row l (show l < 6 by omega), gd_n, ix_n, bd_s, mix_s, l1_s, nI_1]
      · simp (disch := omega) only [f_X7_mixLabels_l61, L6, leN, if_pos (Nat.le_refl 6)]
    obtain ⟨r, e, q⟩ := lp0 (fun n d s => f_X7_mixLabels_l5 KF μ 0 n s (nI d)) L (by unfold FU; omega) (fun d s => s = hs (tLab η) (12 * d) v) (fun r => r = hs (tLab η) (12 * L) v)
      (by
        intro n d s hd hs1
        refine Or.inr ⟨hs (fun w => tLab η (12 * d + 6 + w)) 6 (hs (fun w => tLab η (12 * d + w)) 6 s), ?_, ?_⟩
        · simp (disch := omega) only [f_X7_mixLabels_l5, r_03 h.1, r_93 h.1, bd_s, e4, leN, if_neg (Nat.not_le.mpr hd), K15, gd_n, ix_n, r_lab h.1 (show d < 6 by omega), in1 d _ hd, in2 d _ hd, l1_s, nI_1]
        · rw [hs1, ← hs_add, ← hs_add, show 12 * d + 6 + 6 = 12 * (d + 1) by omega])
      (by
        intro n s hs1
        refine ⟨s, ?_, hs1⟩
        simp (disch := omega) only [f_X7_mixLabels_l5, r_03 h.1, bd_s, e4, leN, if_pos (Nat.le_refl L)]) v rfl
    subst q
    unfold f_X7_mixLabels
    rw [show f_X7_mixLabels_l5 KF μ 0 FU v 0 = some _ from e]
    rfl
  · have e12 : 12 * η.1 140 8 = nI (12 * L) := by rw [hL.1, L12, pk_mul]
    refine hsF (fun n k v => f_X8_digest_l82 KF η 139 n v (nI k)) _ (12 * L) (by unfold FU; omega) (fun n k v hk => ?_) (fun n v => ?_) v
    · have d12 := dm (k := k) (d := 12) L12 (by omega) (by omega) (by omega)
      show _ = f_X8_digest_l82 KF η 139 n (31 * v + Int32.toInt64 (tLab η k)) (nI (k + 1))
      by_cases c : k % 12 < 6
      · obtain ⟨x, y1, y2, y3⟩ := val (k / 12) (k % 12) (by omega) (by omega)
        rw [show 12 * (k / 12) + k % 12 = k by omega] at y3
        rw [y3]
        have n6 : ¬ (6 : Int32) ≤ nI (k % 12) := by
          rw [L6, leN (by omega) (by omega)]
          omega
        simp (disch := omega) only [f_X8_digest_l82, r_m0 h.2.1, bd_s, L8, K140, gd_n, ix_n, e12, leN, if_neg (Nat.not_le.mpr hk), d12.1, d12.2, if_neg n6, y2, l1_s, nI_1]
      · have et : tLab η k = η.1 140 (86 + 10 * (k / 12) + (2 + (k % 12 - 6))) := if_neg c
        rw [et]
        have p6 : (6 : Int32) ≤ nI (k % 12) := by
          rw [L6, leN (by omega) (by omega)]
          omega
        have e26 : 2 + nI (k % 12) - 6 = nI (2 + (k % 12 - 6)) := by
          rw [L2, L6, nI_add, pk_sub (by omega), show 2 + k % 12 - 6 = 2 + (k % 12 - 6) by omega]
        simp (disch := omega) only [f_X8_digest_l82, r_m0 h.2.1, bd_s, L8, K140, gd_n, ix_n, e12, leN, if_neg (Nat.not_le.mpr hk), d12.1, d12.2, if_pos p6, e26, m_labelOf h.2.1 (l := k / 12) (j := 2 + (k % 12 - 6)) (by omega) (by omega), l1_s, nI_1]
    · simp (disch := omega) only [f_X8_digest_l82, r_m0 h.2.1, bd_s, L8, K140, gd_n, ix_n, e12, leN, if_pos (Nat.le_refl (12 * L))]
theorem b_cus6 {D L C c : Nat} {μ η : Mm} (h : CR D L C μ η) (hc : c < C) (v : Int64) : ∃ u, f_X7_mixCustomers_l20 KF μ 0 (nI c) FU v 0 = some u ∧ f_X8_digest_l167 KF η 139 (nI c) FU v 0 = some u := by
  have hC := h.2.2.2.2.2.1
  refine ⟨hs (fun w => (f_X8_customerOf KF η 139 (nI c) (nI w)).getD 0) 6 v, ?_, ?_⟩
  · refine hsF (fun n w v => f_X7_mixCustomers_l20 KF μ 0 (nI c) n v (nI w)) _ 6 (by decide) (fun n w v hw => ?_) (fun n v => ?_) v
    · obtain ⟨x, y1, y2⟩ := b_customer h hc hw
      show _ = f_X7_mixCustomers_l20 KF μ 0 (nI c) n (31 * v + Int32.toInt64 ((f_X8_customerOf KF η 139 (nI c) (nI w)).getD 0)) (nI (w + 1))
      rw [y2]
      simp (disch := omega) only [f_X7_mixCustomers_l20, L6, leN, if_neg (Nat.not_le.mpr hw), r_03 h.1, r_95 h.1, bd_s, K16, gd_n, ix_n, r_cus h.1 (show c < 6 by omega), y1, mix_s, l1_s, nI_1, Option.getD_some]
    · simp (disch := omega) only [f_X7_mixCustomers_l20, L6, leN, if_pos (Nat.le_refl 6)]
  · refine hsF (fun n w v => f_X8_digest_l167 KF η 139 (nI c) n v (nI w)) _ 6 (by decide) (fun n w v hw => ?_) (fun n v => ?_) v
    · obtain ⟨x, y1, y2⟩ := b_customer h hc hw
      show _ = f_X8_digest_l167 KF η 139 (nI c) n (31 * v + Int32.toInt64 ((f_X8_customerOf KF η 139 (nI c) (nI w)).getD 0)) (nI (w + 1))
      simp (disch := omega) only [f_X8_digest_l167, L6, leN, if_neg (Nat.not_le.mpr hw), bd_s, y2, l1_s, nI_1, Option.getD_some]
    · simp (disch := omega) only [f_X8_digest_l167, L6, leN, if_pos (Nat.le_refl 6)]
theorem FT.trans {μ μ' μ'' : Mm} (h : FT μ μ') (h' : FT μ' μ'') : FT μ μ'' := FrI.trans h h'
theorem FW.trans {μ μ' μ'' : Mm} (h : FW μ μ') (h' : FW μ' μ'') : FW μ μ'' := FrI.trans h h'
theorem b_bests {D L C c : Nat} {μ η : Mm} (h : CR D L C μ η) (hc : c < C) (v : Int64) : ∃ u μ' η', f_X7_mixCustomers_l57 KF 0 (nI c) FU μ v 0 = some (u, μ') ∧ f_X8_digest_l198 KF 139 (nI c) FU η v 0 = some (u, η') ∧ FT μ μ' ∧ FW η η' := by
  obtain ⟨a, b, y1, y2, z1, z2, z3⟩ := lpp (fun n d (t : Int64 × Mm) => f_X7_mixCustomers_l57 KF 0 (nI c) n t.2 t.1 (nI d)) (fun n d (u : Int64 × Mm) => f_X8_digest_l198 KF 139 (nI c) n u.2 u.1 (nI d)) L
    (fun _ t u => t.1 = u.1 ∧ FT μ t.2 ∧ FW η u.2) (fun a b => a.1 = b.1 ∧ FT μ a.2 ∧ FW η b.2)
    (by
      rintro n d ⟨t, ν⟩ ⟨u, ω⟩ hd ⟨p1, p2, p3⟩
      have p1 : t = u := p1
      subst p1
      have hq : CR D L C ν ω := h.q p2 p3
      have hL := hq.2.2.2.2.1
      have e4 : ν.1 9 4 = nI L := hq.2.2.1.2.2.2.1.1.trans hL.1
      obtain ⟨x, ν', ω', x1, x2, x3, x4, -⟩ := b_best hq hc hd
      refine Or.inr ⟨(31 * t + Int32.toInt64 x, ν'), (31 * t + Int32.toInt64 x, ω'), ?_, ?_, rfl, FT.trans p2 x3, FW.trans p3 x4⟩
      · simp (disch := omega) only [f_X7_mixCustomers_l57, r_03 hq.1, bd_s, e4, leN, if_neg (Nat.not_le.mpr hd), x1, l1_s, mix_s, nI_1]
      · simp (disch := omega) only [f_X8_digest_l198, r_m0 hq.2.1, bd_s, L8, K140, gd_n, ix_n, hL.1, leN, if_neg (Nat.not_le.mpr hd), x2, l1_s, nI_1])
    (by
      rintro n ⟨t, ν⟩ ⟨u, ω⟩ ⟨p1, p2, p3⟩
      have hq : CR D L C ν ω := h.q p2 p3
      have hL := hq.2.2.2.2.1
      have e4 : ν.1 9 4 = nI L := hq.2.2.1.2.2.2.1.1.trans hL.1
      refine ⟨(t, ν), (u, ω), ?_, ?_, p1, p2, p3⟩
      · simp (disch := omega) only [f_X7_mixCustomers_l57, r_03 hq.1, bd_s, e4, leN, if_pos (Nat.le_refl L)]
      · simp (disch := omega) only [f_X8_digest_l198, r_m0 hq.2.1, bd_s, L8, K140, gd_n, ix_n, hL.1, leN, if_pos (Nat.le_refl L)]) L 0 (v, μ) (v, η) FU (by omega) (by have := h.2.2.2.2.1; unfold FU; omega) ⟨rfl, FrI.rfl, FrI.rfl⟩
  obtain ⟨a1, μ'⟩ := a
  obtain ⟨b1, η'⟩ := b
  have z1 : a1 = b1 := z1
  subst z1
  exact ⟨a1, μ', η', y1, y2, z2, z3⟩
theorem b_cuss {D L C : Nat} {μ η : Mm} (h : CR D L C μ η) (v : Int64) : ∃ u μ' η', f_X7_mixCustomers KF μ 0 v = some (u, μ') ∧ f_X8_digest_l153 KF 139 FU η v 0 = some (u, η') ∧ FT μ μ' ∧ FW η η' := by
  obtain ⟨a, b, y1, y2, z1, z2, z3⟩ := lpp (fun n d (t : Int64 × Mm) => f_X7_mixCustomers_l5 KF 0 n t.2 t.1 (nI d)) (fun n d (u : Int64 × Mm) => f_X8_digest_l153 KF 139 n u.2 u.1 (nI d)) C
    (fun _ t u => t.1 = u.1 ∧ FT μ t.2 ∧ FW η u.2) (fun a b => a.1 = b.1 ∧ FT μ a.2 ∧ FW η b.2)
    (by
      rintro n d ⟨t, ν⟩ ⟨u, ω⟩ hd ⟨p1, p2, p3⟩
      have p1 : t = u := p1
      subst p1
      have hq : CR D L C ν ω := h.q p2 p3
      have hC := hq.2.2.2.2.2.1
      have e6 : ν.1 9 6 = nI C := hq.2.2.1.2.2.2.1.2.1.trans hC.1
      obtain ⟨w, w1, w2⟩ := b_cus6 hq hd t
      obtain ⟨x, ν', ω', x1, x2, x3, x4⟩ := b_bests hq hd w
      refine Or.inr ⟨(x, ν'), (x, ω'), ?_, ?_, rfl, FT.trans p2 x3, FW.trans p3 x4⟩
      · simp (disch := omega) only [f_X7_mixCustomers_l5, r_03 hq.1, bd_s, e6, leN, if_neg (Nat.not_le.mpr hd), w1, l1_s, x1, nI_1]
      · simp (disch := omega) only [f_X8_digest_l153, r_m0 hq.2.1, bd_s, L9, K140, gd_n, ix_n, hC.1, leN, if_neg (Nat.not_le.mpr hd), w2, l1_s, x2, nI_1])
    (by
      rintro n ⟨t, ν⟩ ⟨u, ω⟩ ⟨p1, p2, p3⟩
      have hq : CR D L C ν ω := h.q p2 p3
      have hC := hq.2.2.2.2.2.1
      have e6 : ν.1 9 6 = nI C := hq.2.2.1.2.2.2.1.2.1.trans hC.1
      refine ⟨(t, ν), (u, ω), ?_, ?_, p1, p2, p3⟩
      · simp (disch := omega) only [f_X7_mixCustomers_l5, r_03 hq.1, bd_s, e6, leN, if_pos (Nat.le_refl C)]
      · simp (disch := omega) only [f_X8_digest_l153, r_m0 hq.2.1, bd_s, L9, K140, gd_n, ix_n, hC.1, leN, if_pos (Nat.le_refl C)]) C 0 (v, μ) (v, η) FU (by omega) (by have := h.2.2.2.2.2.1; unfold FU; omega) ⟨rfl, FrI.rfl, FrI.rfl⟩
  obtain ⟨a1, μ'⟩ := a
  obtain ⟨b1, η'⟩ := b
  have z1 : a1 = b1 := z1
  subst z1
  refine ⟨a1, μ', η', ?_, y2, z2, z3⟩
  unfold f_X7_mixCustomers
  rw [show f_X7_mixCustomers_l5 KF 0 FU μ v 0 = some (a1, μ') from y1]
  rfl
theorem b_digest {D L C n m : Nat} {μ η : Mm} (h0 : CR D L C μ η) (hs0 : SV n μ η) (ht0 : TX m μ η) : ∃ v μ' η', f_X7_digest KF μ 0 = some (v, μ') ∧ f_X8_digest KF η 139 = some (v, η') ∧ FT μ μ' ∧ FW (sI η 139 7 0) η' := by
  have h := h0.s7 0
  have hsv := hs0.s7 0
  have ht := ht0.s7 0
  let η1 := sI η 139 7 0
  let t := fun k => (f_X8_wholeOf KF η1 139 (nI k)).getD 0
  let v1 : Int64 := 31 * 43448 + Int32.toInt64 (nI n)
  have a1 : f_X7_digest_l14 KF μ 0 FU v1 0 = some (hs t 18 v1) := by
    refine hsF (fun n k v => f_X7_digest_l14 KF μ 0 n v (nI k)) t 18 (by decide) (fun n k v hk => ?_) (fun n v => ?_) v1
    · obtain ⟨x, y1, y2⟩ := b_w h ht hk
      show _ = f_X7_digest_l14 KF μ 0 n (31 * v + Int32.toInt64 ((f_X8_wholeOf KF η1 139 (nI k)).getD 0)) (nI (k + 1))
      rw [show f_X8_wholeOf KF η1 139 (nI k) = some x from y2]
      simp (disch := omega) only [f_X7_digest_l14, show (18 : Int32) = nI 18 by decide +kernel, leN, if_neg (Nat.not_le.mpr hk), y1, bd_s, mix_s, l1_s, nI_1, Option.getD_some]
    · simp (disch := omega) only [f_X7_digest_l14, show (18 : Int32) = nI 18 by decide +kernel, leN, if_pos (Nat.le_refl 18)]
  have a2 : f_X8_digest_l17 KF η1 139 FU v1 0 = some (hs t 18 v1) := by
    refine hsF (fun n k v => f_X8_digest_l17 KF η1 139 n v (nI k)) t 18 (by decide) (fun n k v hk => ?_) (fun n v => ?_) v1
    · obtain ⟨x, y1, y2⟩ := b_w h ht hk
      show _ = f_X8_digest_l17 KF η1 139 n (31 * v + Int32.toInt64 ((f_X8_wholeOf KF η1 139 (nI k)).getD 0)) (nI (k + 1))
      have y2 : f_X8_wholeOf KF η1 139 (nI k) = some x := y2
      simp (disch := omega) only [f_X8_digest_l17, show (18 : Int32) = nI 18 by decide +kernel, leN, if_neg (Nat.not_le.mpr hk), y2, bd_s, l1_s, nI_1, Option.getD_some]
    · simp (disch := omega) only [f_X8_digest_l17, show (18 : Int32) = nI 18 by decide +kernel, leN, if_pos (Nat.le_refl 18)]
  obtain ⟨d1, d2⟩ := b_dots h (hs t 18 v1)
  obtain ⟨l1, l2⟩ := b_labs h (hs (tDot η1) (5 * D) (hs t 18 v1))
  obtain ⟨u, μ', η', c1, c2, f1, f2⟩ := b_cuss h (hs (tLab η1) (12 * L) (hs (tDot η1) (5 * D) (hs t 18 v1)))
  have h' : CR D L C μ' η' := h.q f1 f2
  obtain ⟨w, w1, w2⟩ := b_worn h'
  refine ⟨31 * u + Int32.toInt64 w, μ', η', ?_, ?_, f1, f2⟩
  · unfold f_X7_digest
    rw [hsv.1.1, mix_s, bd_s, show f_X7_digest_l14 KF μ 0 FU (31 * 43448 + Int32.toInt64 (nI n)) 0 = some _ from a1, bd_s, l1_s, d1, bd_s, l1, bd_s, c1, bd_s, l1_s, l1_s]
    unfold f_X7_mostWorn
    rw [r_03 h'.1, bd_s, r_90 h'.1, bd_s, w1]
    rfl
  · unfold f_X8_digest
    have e3 : (sI η 139 7 0).1 139 3 = nI n := hsv.1.2.1
    rw [l1_s, l1_s, e3, show (1346888 : Int64) = 31 * 43448 by decide +kernel, show f_X8_digest_l17 KF (sI η 139 7 0) 139 FU (31 * 43448 + Int32.toInt64 (nI n)) 0 = some _ from a2, bd_s, l1_s, show f_X8_digest_l44 KF (sI η 139 7 0) 139 FU _ 0 = some _ from d2, bd_s, l1_s, show f_X8_digest_l82 KF (sI η 139 7 0) 139 FU _ 0 = some _ from l2, bd_s, l1_s, show f_X8_digest_l153 KF 139 FU (sI η 139 7 0) _ 0 = some _ from c2, bd_s, l1_s, l1_s, w2, bd_s]
end PureP8
