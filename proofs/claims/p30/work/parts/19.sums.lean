/-! PURE: sums, values: the class -/
section PureG
def Sm (t : Nat → Int32) : Nat → Int32 | 0 => 0 | n + 1 => Sm t n + t n
theorem lsum (F : Nat → Nat → Int32 → Option Int32) (t : Nat → Int32) (D : Nat) (hD : D < FU) (step : ∀ n d v, d < D → F (n + 1) d v = F n (d + 1) (v + t d)) (fin : ∀ n v, F (n + 1) D v = some v) : F FU 0 0 = some (Sm t D) := by
  obtain ⟨v, e, q⟩ := lp0 F D hD (fun d v => v = Sm t d) (fun v => v = Sm t D) (fun n d v hd hv => Or.inr ⟨v + t d, step n d v hd, by rw [hv]; rfl⟩) (fun n v hv => ⟨v, fin n v, hv⟩) 0 rfl
  rw [e, q]
theorem Sm_bnd {t : Nat → Int32} {M : Nat} : ∀ {D : Nat}, (∀ d, d < D → bnd (t d) 0 M) → D * M < 2147483648 → bnd (Sm t D) 0 (D * M)
  | 0, _, _ => ⟨0, by omega, by omega, rfl⟩
  | D + 1, h, hM => by
    have e : (D + 1) * M = D * M + M := Nat.succ_mul D M
    obtain ⟨n, -, hn, en⟩ := Sm_bnd (D := D) (fun d hd => h d (by omega)) (by omega)
    obtain ⟨m, -, hm, em⟩ := h D (by omega)
    exact ⟨n + m, by omega, by omega, by show Sm t D + t D = _; rw [en, em, nI_add]⟩
theorem Sm_cong {t u : Nat → Int32} : ∀ {D : Nat}, (∀ d, d < D → t d = u d) → Sm t D = Sm u D
  | 0, _ => rfl
  | D + 1, h => by
    show Sm t D + t D = Sm u D + u D
    rw [Sm_cong (D := D) (fun d hd => h d (by omega)), h D (by omega)]
theorem sumW_Sm {f : Nat → Int32} : ∀ n, sumW f 0 n = Sm (fun d => f (14 + 3 * d + 1)) n
  | 0 => rfl
  | n + 1 => by
    show sumW f 0 n + f (14 + 3 * (0 + n) + 1) = Sm (fun d => f (14 + 3 * d + 1)) n + f (14 + 3 * n + 1)
    rw [sumW_Sm n, Nat.zero_add]
theorem sumL_Sm {f : Nat → Int32} {j : Nat} : ∀ n, sumL f j n = Sm (fun i => f (86 + 10 * i + j)) n
  | 0 => rfl
  | n + 1 => by
    show sumL f j n + f (86 + 10 * n + j) = _
    rw [sumL_Sm n]
    rfl
theorem c_heatSum {D L C : Nat} {μ : Mm} {f : Nat → Int32} (h : CR D L C μ f) : f_X3_heatSum KF μ 10 = some (Sm (fun d => f (14 + 3 * d)) D) := by
  obtain ⟨hR, hc, hw⟩ := h
  have hD := hw.1
  have e10 : μ.1 10 0 = nI D := hc.1.1.trans hD.1
  have e := lsum (fun n d v => f_X3_heatSum_l4 KF μ 10 n v (nI d)) (fun d => f (14 + 3 * d)) D (by unfold FU; omega)
    (by
      intro n d v hd
      obtain ⟨y1, y2, y3⟩ := cpl_dot hc hd
      simp (disch := omega) only [f_X3_heatSum_l4, e10, r_102 hR, bd_s, l1_s, K11, gd_n, ix_n, leN, if_neg (Nat.not_le.mpr hd), y1, nI_succ d])
    (by
      intro n v
      simp (disch := omega) only [f_X3_heatSum_l4, e10, leN, if_pos (Nat.le_refl D)])
  unfold f_X3_heatSum
  rw [show f_X3_heatSum_l4 KF μ 10 FU 0 0 = some _ from e]
  rfl
theorem c_allWear {D L C : Nat} {μ : Mm} {f : Nat → Int32} (h : CR D L C μ f) : f_X5_allWear KF μ 9 = some (Sm (fun d => f (14 + 3 * d + 1)) D) := by
  have hD := h.2.2.1
  have e10 : μ.1 10 0 = nI D := h.2.1.1.1.trans hD.1
  have e := c_wearSum h (a := 0) (n := D) (by omega) (by omega)
  rw [sumW_Sm, Nat.zero_add] at e
  unfold f_X5_allWear
  rw [r_90 h.1]
  simp only [bd_s, e10]
  rw [L1, pk_sub (by omega)]
  rw [show f_X3_wearSum KF μ 10 0 (nI (D - 1)) = some _ from e]
  rfl
def earnT (f : Nat → Int32) (k : Nat) : Int32 := f (146 + 6 * k + 2) - f (146 + 6 * k + 3)
theorem c_allEarned {D L C : Nat} {μ : Mm} {f : Nat → Int32} (h : CR D L C μ f) : f_X5_allEarned KF μ 9 = some (Sm (earnT f) C) := by
  obtain ⟨hR, hc, hw⟩ := h
  have hC := hw.2.2.1
  have e6 : μ.1 9 6 = nI C := hc.2.2.2.1.2.1.trans hC.1
  have e := lsum (fun n d v => f_X5_allEarned_l4 KF μ 9 n v (nI d)) (earnT f) C (by unfold FU; omega)
    (by
      intro n d v hd
      have h2 := cpl_cus hc hd (j := 2) (by omega)
      have h3 := cpl_cus hc hd (j := 3) (by omega)
      simp (disch := omega) only [f_X5_allEarned_l4, e6, r_95 hR, bd_s, l1_s, K16, gd_n, ix_n, leN, if_neg (Nat.not_le.mpr hd), r_cus hR (show d < 6 by omega), h2, h3, nI_succ d]
      rfl)
    (by
      intro n v
      simp (disch := omega) only [f_X5_allEarned_l4, e6, leN, if_pos (Nat.le_refl C)])
  unfold f_X5_allEarned
  rw [show f_X5_allEarned_l4 KF μ 9 FU 0 0 = some _ from e]
  rfl
theorem c_allPrinted {D L C : Nat} {μ : Mm} {f : Nat → Int32} (h : CR D L C μ f) : f_X5_allPrinted KF μ 9 = some (f 11) := by
  obtain ⟨hR, hc, hw⟩ := h
  have hL := hw.2.1
  have e4 : μ.1 9 4 = nI L := hc.2.2.2.1.1.trans hL.1
  have e := lsum (fun n d v => f_X5_allPrinted_l4 KF μ 9 n v (nI d)) (fun i => f (86 + 10 * i + 8)) L (by unfold FU; omega)
    (by
      intro n d v hd
      obtain ⟨-, -, y3, y4⟩ := cpl_lab hc hd
      simp (disch := omega) only [f_X5_allPrinted_l4, e4, r_93 hR, bd_s, l1_s, K15, gd_n, ix_n, leN, if_neg (Nat.not_le.mpr hd), r_lab hR (show d < 6 by omega), y3, nI_succ d])
    (by
      intro n v
      simp (disch := omega) only [f_X5_allPrinted_l4, e4, leN, if_pos (Nat.le_refl L)])
  unfold f_X5_allPrinted
  rw [show f_X5_allPrinted_l4 KF μ 9 FU 0 0 = some _ from e, ← sumL_Sm, hw.2.2.2.2.2.2.2.2.1]
  rfl
theorem c_allFailed {D L C : Nat} {μ : Mm} {f : Nat → Int32} (h : CR D L C μ f) : f_X5_allFailed KF μ 9 = some (f 12) := by
  obtain ⟨hR, hc, hw⟩ := h
  have hL := hw.2.1
  have e4 : μ.1 9 4 = nI L := hc.2.2.2.1.1.trans hL.1
  have e := lsum (fun n d v => f_X5_allFailed_l4 KF μ 9 n v (nI d)) (fun i => f (86 + 10 * i + 9)) L (by unfold FU; omega)
    (by
      intro n d v hd
      obtain ⟨-, -, y3, y4⟩ := cpl_lab hc hd
      simp (disch := omega) only [f_X5_allFailed_l4, e4, r_93 hR, bd_s, l1_s, K15, gd_n, ix_n, leN, if_neg (Nat.not_le.mpr hd), r_lab hR (show d < 6 by omega), y4, nI_succ d])
    (by
      intro n v
      simp (disch := omega) only [f_X5_allFailed_l4, e4, leN, if_pos (Nat.le_refl L)])
  unfold f_X5_allFailed
  rw [show f_X5_allFailed_l4 KF μ 9 FU 0 0 = some _ from e, ← sumL_Sm, hw.2.2.2.2.2.2.2.2.2]
  rfl
def rentT (f : Nat → Int32) (k : Nat) : Int32 := if f (146 + 6 * k) = -1 then 0 else f (146 + 6 * k + 1) - f (146 + 6 * k) + 1
theorem c_allRented {D L C : Nat} {μ : Mm} {f : Nat → Int32} (h : CR D L C μ f) : f_X5_allRented KF μ 9 = some (Sm (rentT f) C) := by
  obtain ⟨hR, hc, hw⟩ := h
  have hC := hw.2.2.1
  have e6 : μ.1 9 6 = nI C := hc.2.2.2.1.2.1.trans hC.1
  have e := lsum (fun n d v => f_X5_allRented_l4 KF μ 9 n v (nI d)) (rentT f) C (by unfold FU; omega)
    (by
      intro n d v hd
      have h0 : μ.1 (29 + d) 0 = f (146 + 6 * d) := cpl_cus hc hd (j := 0) (by omega)
      have h1 := cpl_cus hc hd (j := 1) (by omega)
      have e : f_X2_rented KF μ (29 + d) = some (rentT f d) := by
        unfold f_X2_rented rentT
        rw [h0, h1]
        split <;> rfl
      simp (disch := omega) only [f_X5_allRented_l4, e6, r_95 hR, bd_s, l1_s, K16, gd_n, ix_n, leN, if_neg (Nat.not_le.mpr hd), r_cus hR (show d < 6 by omega), e, nI_succ d])
    (by
      intro n v
      simp (disch := omega) only [f_X5_allRented_l4, e6, leN, if_pos (Nat.le_refl C)])
  unfold f_X5_allRented
  rw [show f_X5_allRented_l4 KF μ 9 FU 0 0 = some _ from e]
  rfl
theorem j6 {j : Nat} (h : j < 6) : j = 0 ∨ j = 1 ∨ j = 2 ∨ j = 3 ∨ j = 4 ∨ j = 5 := by omega
theorem and_not (a u x : Int32) : (a &&& (u ^^^ (-1))) &&& (x ^^^ (-1)) = a &&& ((u ||| x) ^^^ (-1)) := by
  have e : ∀ y : Int32, y ^^^ (-1) = ~~~ y := fun y => by rw [Int32.xor_neg_one]
  have o : ~~~ (u ||| x) = ~~~ u &&& ~~~ x := Int32.toBitVec_inj.mp (by
    rw [Int32.toBitVec_and, Int32.toBitVec_not, Int32.toBitVec_not, Int32.toBitVec_not, Int32.toBitVec_or]
    ext i hi
    simp)
  rw [e, e, e, o, Int32.and_assoc]
def emV (f : Nat → Int32) (l : Nat) : Nat → Int32 | 0 => ((1 : Int32) <<< (f (86 + 10 * l) &&& 31)) - 1 | r + 1 => emV f l r &&& (f (86 + 10 * l + (2 + r)) ^^^ (-1))
theorem c_empty {D L C l : Nat} {μ : Mm} {f : Nat → Int32} (h : CR D L C μ f) (hl : l < L) : f_X4_emptyColumns KF μ (17 + 2 * l) = some (emV f l 6) := by
  obtain ⟨hR, hc, hw⟩ := h
  have hL := hw.2.1
  obtain ⟨a0, -, -, -⟩ := cpl_lab hc hl
  obtain ⟨a, e1, q⟩ := lp0 (fun n r v => f_X4_emptyColumns_l4 KF μ (17 + 2 * l) n v (nI r)) 6 (by decide)
    (fun r u => emV f l r = (((1 : Int32) <<< (f (86 + 10 * l) &&& 31)) - 1) &&& (u ^^^ (-1))) (fun u => emV f l 6 = (((1 : Int32) <<< (f (86 + 10 * l) &&& 31)) - 1) &&& (u ^^^ (-1)))
    (by
      intro n r u hr hx
      refine Or.inr ⟨u ||| f (86 + 10 * l + (2 + r)), ?_, ?_⟩
      · simp (disch := omega) only [f_X4_emptyColumns_l4, L6, leN, if_neg (Nat.not_le.mpr hr), bd_s, l1_s, r_row hR (show l < 6 by omega), K_row l (by omega), gd_n, ix_n, cpl_row hc hl hr, nI_succ r]
      · rw [show emV f l (r + 1) = emV f l r &&& (f (86 + 10 * l + (2 + r)) ^^^ (-1)) from rfl, hx, and_not])
    (by
      intro n u hx
      refine ⟨u, ?_, hx⟩
      simp (disch := omega) only [f_X4_emptyColumns_l4, L6, leN, if_pos (Nat.le_refl 6)]) 0 (by
        rw [show (0 : Int32) ^^^ (-1) = -1 by decide, Int32.and_neg_one]
        rfl)
  unfold f_X4_emptyColumns f_X4_allColumns
  rw [show f_X4_emptyColumns_l4 KF μ (17 + 2 * l) FU 0 0 = some a from e1, a0, q]
  rfl
/-- a label's values -/
def labV (f : Nat → Int32) (l j : Nat) : Int32 := ([f (86 + 10 * l), f (86 + 10 * l + 1), sumB f l 6, f (86 + 10 * l + 8), f (86 + 10 * l + 9), emV f l 6] : List Int32).getD j 0
theorem c_labelV {D L C l j : Nat} {μ : Mm} {f : Nat → Int32} (h : CR D L C μ f) (hl : l < L) (hj : j < 6) : f_X4_value KF μ (17 + 2 * l) (nI j) = some (labV f l j) := by
  have h0 := h
  obtain ⟨hR, hc, hw⟩ := h
  obtain ⟨a0, a1, a2, a3⟩ := cpl_lab hc hl
  rcases j6 hj with rfl | rfl | rfl | rfl | rfl | rfl
  · exact congrArg some a0
  · exact congrArg some a1
  · rw [show f_X4_value KF μ (17 + 2 * l) (nI 2) = bd (f_X4_blackCells KF μ (17 + 2 * l)) (fun x => some x) from rfl, c_blackCells h0 hl]
    rfl
  · exact congrArg some a2
  · exact congrArg some a3
  · rw [show f_X4_value KF μ (17 + 2 * l) (nI 5) = bd (f_X4_emptyColumns KF μ (17 + 2 * l)) (fun x => some x) from rfl, c_empty h0 hl]
    rfl
theorem c_customerV {D L C c j : Nat} {μ : Mm} {f : Nat → Int32} (h : CR D L C μ f) (hc : c < C) (hj : j < 6) : f_X2_value KF μ (29 + c) (nI j) = some (f (146 + 6 * c + j)) := by
  obtain ⟨hR, hcp, hw⟩ := h
  rw [← cpl_cus hcp hc hj]
  rcases j6 hj with rfl | rfl | rfl | rfl | rfl | rfl <;> rfl
/-- a dot's fade -/
def fadV (f : Nat → Int32) (d : Nat) : Int32 := nI ((nat (f (14 + 3 * d + 1)) - nat (f 3)) / nat (f 4))
theorem c_fadeS {D L C d : Nat} {μ : Mm} {f : Nat → Int32} (h : CR D L C μ f) (hd : d < D) : f_X3_fadeOf KF μ 10 (nI d) 14 = some (fadV f d) := by
  obtain ⟨hR, hc, hw⟩ := h
  have hD := hw.1
  obtain ⟨-, -, b3, b4, -⟩ := hw.2.2.2.1
  obtain ⟨a3, -, c3⟩ := nat_b b3 (by omega)
  obtain ⟨a4, d4, c4⟩ := nat_b b4 (by omega)
  obtain ⟨ay, -, cy⟩ := nat_b (hw.2.2.2.2.1 d hd).2 (by omega)
  obtain ⟨-, y2, -⟩ := cpl_dot hc hd
  have e2 : μ.1 14 2 = nI (nat (f 3)) := (cpl_set hc (j := 2) (by omega)).trans a3
  have e3 : μ.1 14 3 = nI (nat (f 4)) := (cpl_set hc (j := 3) (by omega)).trans a4
  have y2 : μ.1 12 d = nI (nat (f (14 + 3 * d + 1))) := y2.trans ay
  unfold fadV
  generalize nat (f (14 + 3 * d + 1)) = y at *
  generalize nat (f 3) = lim at *
  generalize nat (f 4) = fd at *
  have fne : ¬ nI fd = nI 0 := nI_ne0 (n := fd) (by omega) (by omega)
  unfold f_X3_fadeOf
  simp (disch := omega) only [r_103 hR, bd_s, l1_s, K12, K14, gd_n, ix_n, L0, L1, L2, L3, y2, e2, e3, lt1_le0, gd_t fne, leN, if_pos d4]
  by_cases t : y ≤ lim
  · have tn : nI y - nI lim ≤ nI 0 := by
      rw [Int32.le_iff_toInt_le, pk_sub_toInt (by omega) (by omega), nI_toInt (by omega)]
      omega
    rw [if_pos tn, show y - lim = 0 by omega, Nat.zero_div]
  · rw [pk_sub (by omega), if_neg (nI_ge (by omega) (by omega)), pk_div (by omega) (by omega) (by omega)]
theorem c_dotV {D L C d : Nat} {μ : Mm} {f : Nat → Int32} (h : CR D L C μ f) (hd : d < D) : f_X5_dotValue KF μ 9 (nI d) 0 = some (f (14 + 3 * d)) ∧ f_X5_dotValue KF μ 9 (nI d) 1 = some (f (14 + 3 * d + 1)) ∧ (∃ v, f_X5_dotValue KF μ 9 (nI d) 2 = some v ∧ RNT f C d v) ∧ f_X5_dotValue KF μ 9 (nI d) 3 = some (f (14 + 3 * d + 2)) ∧ f_X5_dotValue KF μ 9 (nI d) 4 = some (fadV f d) := by
  have h0 := h
  obtain ⟨hR, hc, hw⟩ := h
  have hD := hw.1
  obtain ⟨y1, y2, y3⟩ := cpl_dot hc hd
  refine ⟨?_, ?_, ?_, ?_, ?_⟩
  · rw [show f_X5_dotValue KF μ 9 (nI d) 0 = bd (rf KF μ 9 0 2) (fun b2 => bd (rf KF μ b2 2 8) fun b3 => gd (inb (nI d) (KF b3).2) <| some (μ.1 b3 (ix (nI d)))) from rfl]
    simp (disch := omega) only [r_90 hR, r_102 hR, bd_s, K11, gd_n, ix_n, y1]
  · rw [show f_X5_dotValue KF μ 9 (nI d) 1 = bd (rf KF μ 9 0 2) (fun b2 => bd (rf KF μ b2 3 8) fun b3 => gd (inb (nI d) (KF b3).2) <| some (μ.1 b3 (ix (nI d)))) from rfl]
    simp (disch := omega) only [r_90 hR, r_103 hR, bd_s, K12, gd_n, ix_n, y2]
  · obtain ⟨v, e1, e2⟩ := c_renterOf h0 hd
    refine ⟨v, ?_, e2⟩
    rw [show f_X5_dotValue KF μ 9 (nI d) 2 = bd (f_X5_renterOf KF μ 9 (nI d)) (fun x => some x) from rfl, e1]
    rfl
  · rw [show f_X5_dotValue KF μ 9 (nI d) 3 = bd (rf KF μ 9 0 2) (fun b2 => bd (rf KF μ b2 4 8) fun b3 => gd (inb (nI d) (KF b3).2) <| some (μ.1 b3 (ix (nI d)))) from rfl]
    simp (disch := omega) only [r_90 hR, r_104 hR, bd_s, K13, gd_n, ix_n, y3]
  · rw [show f_X5_dotValue KF μ 9 (nI d) 4 = bd (rf KF μ 9 0 2) (fun b16 => bd (rf KF μ 9 2 8) fun b17 => bd (f_X3_fadeOf KF μ b16 (nI d) b17) fun x19 => some x19) from rfl]
    simp only [r_90 hR, r_92 hR, bd_s, c_fadeS h0 hd]
/-- the dot with the most wear -/
def worN (f : Nat → Int32) : Nat → Nat | 0 => 0 | n + 1 => if f (14 + 3 * n + 1) ≤ f (14 + 3 * worN f n + 1) then worN f n else n
theorem worN_lt {f : Nat → Int32} : ∀ n, worN f n ≤ n ∧ (1 ≤ n → worN f n < n)
  | 0 => ⟨Nat.le_refl 0, fun h => absurd h (by omega)⟩
  | n + 1 => by
    obtain ⟨h1, -⟩ := worN_lt (f := f) n
    show (if f (14 + 3 * n + 1) ≤ f (14 + 3 * worN f n + 1) then worN f n else n) ≤ n + 1 ∧ _
    have : (if f (14 + 3 * n + 1) ≤ f (14 + 3 * worN f n + 1) then worN f n else n) ≤ n := by split <;> omega
    refine ⟨by omega, fun _ => ?_⟩
    show (if f (14 + 3 * n + 1) ≤ f (14 + 3 * worN f n + 1) then worN f n else n) < n + 1
    omega
theorem worN_1 {f : Nat → Int32} : worN f 1 = 0 := by
  show (if f (14 + 3 * 0 + 1) ≤ f (14 + 3 * 0 + 1) then 0 else 0) = 0
  split <;> rfl
theorem c_worn {D L C : Nat} {μ : Mm} {f : Nat → Int32} (h : CR D L C μ f) : f_X3_mostWornDot KF μ 10 = some (nI (worN f D)) := by
  obtain ⟨hR, hc, hw⟩ := h
  have hD := hw.1
  have e10 : μ.1 10 0 = nI D := hc.1.1.trans hD.1
  obtain ⟨a, e1, q⟩ := lp (fun n d v => f_X3_mostWornDot_l4 KF μ 10 n v (nI d)) D (fun d u => 1 ≤ d ∧ u = nI (worN f d)) (fun u => u = nI (worN f D))
    (by
      rintro n d u hd ⟨h1, rfl⟩
      obtain ⟨-, m1⟩ := worN_lt (f := f) d
      have m1 := m1 h1
      obtain ⟨-, y1, -⟩ := cpl_dot hc hd
      obtain ⟨-, y2, -⟩ := cpl_dot hc (d := worN f d) (by omega)
      refine Or.inr ⟨nI (worN f (d + 1)), ?_, by omega, rfl⟩
      have ew : worN f (d + 1) = if f (14 + 3 * d + 1) ≤ f (14 + 3 * worN f d + 1) then worN f d else d := rfl
      simp (disch := omega) only [f_X3_mostWornDot_l4, L1, e10, leN, if_neg (Nat.not_le.mpr hd), r_103 hR, bd_s, l1_s, K12, gd_n, ix_n, y1, y2, nI_add]
      by_cases t : f (14 + 3 * d + 1) ≤ f (14 + 3 * worN f d + 1)
      · rw [if_pos t] at ew
        rw [if_pos t, ew]
      · rw [if_neg t] at ew
        rw [if_neg t, ew])
    (by
      rintro n u ⟨-, e⟩
      refine ⟨u, ?_, e⟩
      simp (disch := omega) only [f_X3_mostWornDot_l4, e10, leN, if_pos (Nat.le_refl D)]) (D - 1) 1 (nI 0) FU (by omega) (by unfold FU; omega) ⟨Nat.le_refl 1, by rw [worN_1]⟩
  unfold f_X3_mostWornDot
  rw [show f_X3_mostWornDot_l4 KF μ 10 FU 0 1 = some a from e1, q]
  rfl
/-- values of the whole -/
theorem c_wholeV {D L C : Nat} {μ : Mm} {f : Nat → Int32} (h : CR D L C μ f) : (∀ j, j < 10 → f_X5_wholeValue KF μ 9 (nI j) = some (f j)) ∧ f_X5_wholeValue KF μ 9 10 = some (Sm (fun d => f (14 + 3 * d + 1)) D) ∧ f_X5_wholeValue KF μ 9 11 = some (f 10) ∧ f_X5_wholeValue KF μ 9 12 = some (f 11) ∧ f_X5_wholeValue KF μ 9 13 = some (f 12) ∧ f_X5_wholeValue KF μ 9 14 = some (Sm (earnT f) C) ∧ f_X5_wholeValue KF μ 9 15 = some (Sm (rentT f) C) ∧ f_X5_wholeValue KF μ 9 16 = some (f 13) := by
  have h0 := h
  obtain ⟨hR, hc, hw⟩ := h
  have hD := hw.1
  have e10 : μ.1 10 0 = f 0 := hc.1.1
  have e11 : μ.1 10 1 = f 10 := hc.1.2
  obtain ⟨e4, e6, e7⟩ := hc.2.2.2.1
  refine ⟨fun j hj => ?_, ?_, ?_, ?_, ?_, ?_, ?_, ?_⟩
  · rcases (show j = 0 ∨ (1 ≤ j ∧ j ≤ 7) ∨ j = 8 ∨ j = 9 by omega) with rfl | ⟨h1, h7⟩ | rfl | rfl
    · rw [show f_X5_wholeValue KF μ 9 (nI 0) = bd (rf KF μ 9 0 2) (fun b3 => some (μ.1 b3 0)) from rfl, r_90 hR, bd_s, e10]
    · unfold f_X5_wholeValue
      have es := cpl_set hc (j := j - 1) (by omega)
      rw [show 1 + (j - 1) = j by omega] at es
      have n1 : ¬ nI j < 1 := nI_nlt (b := 1) h1 (by omega)
      have n7 : ¬ (7 : Int32) < nI j := nI_nlt (a := 7) h7 (by omega)
      rw [if_neg n1, if_neg n7]
      simp (disch := omega) only [L1, r_92 hR, bd_s, pk_sub, K14, gd_n, ix_n, es]
    · exact congrArg some e4
    · exact congrArg some e6
  · rw [show f_X5_wholeValue KF μ 9 10 = bd (f_X5_allWear KF μ 9) (fun x => some x) from rfl, c_allWear h0]
    rfl
  · rw [show f_X5_wholeValue KF μ 9 11 = bd (rf KF μ 9 0 2) (fun b3 => some (μ.1 b3 1)) from rfl, r_90 hR, bd_s, e11]
  · rw [show f_X5_wholeValue KF μ 9 12 = bd (f_X5_allPrinted KF μ 9) (fun x => some x) from rfl, c_allPrinted h0]
    rfl
  · rw [show f_X5_wholeValue KF μ 9 13 = bd (f_X5_allFailed KF μ 9) (fun x => some x) from rfl, c_allFailed h0]
    rfl
  · rw [show f_X5_wholeValue KF μ 9 14 = bd (f_X5_allEarned KF μ 9) (fun x => some x) from rfl, c_allEarned h0]
    rfl
  · rw [show f_X5_wholeValue KF μ 9 15 = bd (f_X5_allRented KF μ 9) (fun x => some x) from rfl, c_allRented h0]
    rfl
  · exact congrArg some e7
end PureG
/-! PURE: the class's questions, as the law puts them -/
section PureAsk
theorem q_dot {D L C d : Nat} {μ : Mm} {f : Nat → Int32} (h : CR D L C μ f) (hd : d < D) {j v : Int32} (hj : (if j < 0 then (2 : Int32) else (if j < 5 then 0 else 2)) = 0) (e : f_X5_dotValue KF μ 9 (nI d) j = some v) : f_L_dotOf KF μ 0 (nI d) j = some v := by
  have hD := h.2.2.1
  unfold f_L_dotOf f_X7_dot f_X5_whyNotDotValue
  rw [r_03 h.1]
  simp only [bd_s, c_hasDot h, has_n hd (show D < 1000 by omega), if_neg (show ¬ (1 : Int32) = 0 by decide), hj, l1_s]
  rw [show f_X7_refuse 0 = some () from rfl]
  simp only [bd_s, e]
theorem q_label {D L C l j : Nat} {μ : Mm} {f : Nat → Int32} (h : CR D L C μ f) (hl : l < L) (hj : j < 6) : f_L_labelOf KF μ 0 (nI l) (nI j) = some (labV f l j) := by
  have hL := h.2.2.2.1
  have n0 : ¬ nI j < 0 := nI_pos (by omega)
  have n6 : nI j < 6 := nI_lt (b := 6) hj (by omega)
  unfold f_L_labelOf f_X7_label f_X5_whyNotLabelValue
  rw [r_03 h.1]
  simp only [bd_s, c_hasLabel h, has_n hl (show L < 1000 by omega), if_neg (show ¬ (1 : Int32) = 0 by decide), if_neg n0, if_pos n6, l1_s]
  rw [show f_X7_refuse 0 = some () from rfl]
  simp (disch := omega) only [bd_s, r_93 h.1, K15, gd_n, ix_n, r_lab h.1 (show l < 6 by omega), c_labelV h hl hj]
theorem q_row {D L C l j : Nat} {μ : Mm} {f : Nat → Int32} (h : CR D L C μ f) (hl : l < L) (hj : j < 6) : f_L_rowOf KF μ 0 (nI l) (nI j) = some (f (86 + 10 * l + (2 + j))) := by
  have hL := h.2.2.2.1
  have n0 : ¬ nI j < 0 := nI_pos (by omega)
  have n6 : nI j < 6 := nI_lt (b := 6) hj (by omega)
  unfold f_L_rowOf f_X7_row f_X5_whyNotLabelValue
  rw [r_03 h.1]
  simp only [bd_s, c_hasLabel h, has_n hl (show L < 1000 by omega), if_neg (show ¬ (1 : Int32) = 0 by decide), if_neg n0, if_pos n6, l1_s]
  rw [show f_X7_refuse 0 = some () from rfl]
  simp (disch := omega) only [bd_s, r_93 h.1, K15, gd_n, ix_n, r_lab h.1 (show l < 6 by omega), r_row h.1 (show l < 6 by omega), K_row l (by omega), cpl_row h.2.1 hl hj]
theorem q_customer {D L C c j : Nat} {μ : Mm} {f : Nat → Int32} (h : CR D L C μ f) (hc : c < C) (hj : j < 6) : f_L_customerOf KF μ 0 (nI c) (nI j) = some (f (146 + 6 * c + j)) := by
  have hC := h.2.2.2.2.1
  have n0 : ¬ nI j < 0 := nI_pos (by omega)
  have n6 : nI j < 6 := nI_lt (b := 6) hj (by omega)
  unfold f_L_customerOf f_X7_customer f_X5_whyNotCustomerValue
  rw [r_03 h.1]
  simp only [bd_s, c_hasCustomer h, has_n hc (show C < 1000 by omega), if_neg (show ¬ (1 : Int32) = 0 by decide), if_neg n0, if_pos n6, l1_s]
  rw [show f_X7_refuse 0 = some () from rfl]
  simp (disch := omega) only [bd_s, r_95 h.1, K16, gd_n, ix_n, r_cus h.1 (show c < 6 by omega), c_customerV h hc hj]
theorem q_whole {D L C : Nat} {μ : Mm} {f : Nat → Int32} (h : CR D L C μ f) {j v : Int32} (h17 : ¬ j = 17) (hj : (if j < 0 then (2 : Int32) else (if j < 18 then 0 else 2)) = 0) (e : f_X5_wholeValue KF μ 9 j = some v) : f_L_wholeOf KF μ 0 j = some v := by
  unfold f_L_wholeOf f_X7_whole
  simp only [l1_s, hj]
  rw [show f_X7_refuse 0 = some () from rfl]
  simp only [bd_s, if_neg h17, r_03 h.1, e]
theorem q_text {μ : Mm} (hR : RF μ) (h : μ.1 1 1 = 0) : f_L_wholeOf KF μ 0 17 = some 0 := by
  unfold f_L_wholeOf f_X7_whole
  simp only [l1_s, show (if (17 : Int32) < 0 then (2 : Int32) else (if (17 : Int32) < 18 then 0 else 2)) = 0 by decide]
  rw [show f_X7_refuse 0 = some () from rfl]
  simp only [bd_s, if_true, r_00 hR, h]
theorem has_self {n : Nat} (h : n < 1000) : has (nI n) n = 0 := by
  unfold has
  rw [if_neg (nI_pos (by omega)), if_pos (Int32.le_refl _)]
theorem q_dotX {D L C : Nat} {μ : Mm} {f : Nat → Int32} (h : CR D L C μ f) : fx_X7_dot KF μ 0 (nI D) 0 = some 1 ∧ fx_X7_dot KF μ 0 0 5 = some 2 := by
  have hD := h.2.2.1
  unfold fx_X7_dot f_X5_whyNotDotValue
  rw [r_03 h.1]
  refine ⟨?_, ?_⟩
  · simp only [bd_s, c_hasDot h, has_self (show D < 1000 by omega), if_true]
  · simp only [bd_s, c_hasDot h]
    rw [show has 0 D = 1 from has_n (j := 0) (by omega) (by omega), if_neg (by decide), l1_s, if_neg (by decide), if_neg (by decide)]
    rfl
theorem q_labelX {D L C : Nat} {μ : Mm} {f : Nat → Int32} (h : CR D L C μ f) : fx_X7_label KF μ 0 (nI L) 0 = some 1 := by
  have hL := h.2.2.2.1
  unfold fx_X7_label f_X5_whyNotLabelValue
  rw [r_03 h.1]
  simp only [bd_s, c_hasLabel h, has_self (show L < 1000 by omega), if_true]
theorem q_customerX {D L C : Nat} {μ : Mm} {f : Nat → Int32} (h : CR D L C μ f) : fx_X7_customer KF μ 0 (nI C) 0 = some 1 := by
  have hC := h.2.2.2.2.1
  unfold fx_X7_customer f_X5_whyNotCustomerValue
  rw [r_03 h.1]
  simp only [bd_s, c_hasCustomer h, has_self (show C < 1000 by omega), if_true]
theorem q_wholeX {μ : Mm} : fx_X7_whole KF μ 0 18 = some 2 ∧ fx_X7_whole KF μ 0 (-1) = some 2 := by
  refine ⟨?_, ?_⟩ <;> rfl
end PureAsk
