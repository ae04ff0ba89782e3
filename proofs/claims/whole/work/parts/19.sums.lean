/-! PURE: sums and counts -/
section PureG
def Sm (t : Nat → Int32) : Nat → Int32 | 0 => 0 | n + 1 => Sm t n + t n
theorem lsum (F : Nat → Nat → Int32 → Option Int32) (t : Nat → Int32) (D : Nat) (hD : D < FU) (step : ∀ n d v, d < D → F (n + 1) d v = F n (d + 1) (v + t d)) (fin : ∀ n v, F (n + 1) D v = some v) : F FU 0 0 = some (Sm t D) := by
  obtain ⟨v, e, q⟩ := lp0 F D hD (fun d v => v = Sm t d) (fun v => v = Sm t D) (fun n d v hd hv => Or.inr ⟨v + t d, step n d v hd, by rw [hv]; rfl⟩) (fun n v hv => ⟨v, fin n v, hv⟩) 0 rfl
  rw [e, q]
theorem Sm_bnd {t : Nat → Int32} {M : Nat} : ∀ {D : Nat}, (∀ d, d < D → bnd (t d) 0 M) → D * M < 2147483648 → bnd (Sm t D) 0 (D * M)
  | 0, _, _ => ⟨0, by omega, by omega, rfl⟩
  | D + 1, h, hM => by
    have e : (D + 1) * M = D * M + M := Nat.succ_mul D M
    obtain ⟨n, -, hn, en⟩ := Sm_bnd (D := D) (fun d hd => h d (by omega)) (by omega)
    obtain ⟨m, -, hm, em⟩ := h D (by omega)
    exact ⟨n + m, by omega, by omega, by show Sm t D + t D = _; rw [en, em, nI_add]⟩
theorem Sm_cong {t u : Nat → Int32} : ∀ {D : Nat}, (∀ d, d < D → t d = u d) → Sm t D = Sm u D
  | 0, _ => rfl
  | D + 1, h => by
    show Sm t D + t D = Sm u D + u D
    rw [Sm_cong (D := D) (fun d hd => h d (by omega)), h D (by omega)]
theorem sumW_Sm {f : Nat → Int32} : ∀ n, sumW f 0 n = Sm (fun d => f (14 + 3 * d + 1)) n
  | 0 => rfl
  | n + 1 => by
    show sumW f 0 n + f (14 + 3 * (0 + n) + 1) = Sm (fun d => f (14 + 3 * d + 1)) n + f (14 + 3 * n + 1)
    rw [sumW_Sm n, Nat.zero_add]
theorem sumL_Sm {f : Nat → Int32} {j : Nat} : ∀ n, sumL f j n = Sm (fun i => f (86 + 10 * i + j)) n
  | 0 => rfl
  | n + 1 => by
    show sumL f j n + f (86 + 10 * n + j) = _
    rw [sumL_Sm n]
    rfl
theorem m_sumOf {D L C j : Nat} {η : Mm} (hR : RF η) (hw : WF (η.1 140) D L C) (hj : j < 3) : f_X8_sumOf KF η 139 (nI j) = some (Sm (fun d => η.1 140 (14 + 3 * d + j)) D) := by
  have hD := hw.1
  have e := lsum (fun n d v => f_X8_sumOf_l4 KF η 139 (nI j) n v (nI d)) (fun d => η.1 140 (14 + 3 * d + j)) D (by unfold FU; omega)
    (by
      intro n d v hd
      have hdo := m_dotOf (μ := η) (k := 140) (d := d) (j := j) rfl (by omega) hj
      simp (disch := omega) only [f_X8_sumOf_l4, r_m0 hR, bd_s, l1_s, L0, K140, gd_n, ix_n, hD.1, leN, if_neg (Nat.not_le.mpr hd), hdo, nI_succ d])
    (by
      intro n v
      simp (disch := omega) only [f_X8_sumOf_l4, r_m0 hR, bd_s, L0, K140, gd_n, ix_n, hD.1, leN, if_pos (Nat.le_refl D)])
  unfold f_X8_sumOf
  rw [show f_X8_sumOf_l4 KF η 139 (nI j) FU 0 0 = some _ from e]
  rfl
theorem c_heatSum {D L C : Nat} {μ η : Mm} (h : CR D L C μ η) : f_X3_heatSum KF μ 10 = some (Sm (fun d => η.1 140 (14 + 3 * d)) D) := by
  obtain ⟨hR, -, hc, hw⟩ := h
  have hD := hw.1
  have e10 : μ.1 10 0 = nI D := hc.1.1.trans hD.1
  have e := lsum (fun n d v => f_X3_heatSum_l4 KF μ 10 n v (nI d)) (fun d => η.1 140 (14 + 3 * d)) D (by unfold FU; omega)
    (by
      intro n d v hd
      obtain ⟨y1, y2, y3⟩ := cpl_dot hc hd
      simp (disch := omega) only [f_X3_heatSum_l4, e10, r_102 hR, bd_s, l1_s, K11, gd_n, ix_n, leN, if_neg (Nat.not_le.mpr hd), y1, nI_succ d])
    (by
      intro n v
      simp (disch := omega) only [f_X3_heatSum_l4, e10, leN, if_pos (Nat.le_refl D)])
  unfold f_X3_heatSum
  rw [show f_X3_heatSum_l4 KF μ 10 FU 0 0 = some _ from e]
  rfl
theorem c_allWear {D L C : Nat} {μ η : Mm} (h : CR D L C μ η) : f_X5_allWear KF μ 9 = some (Sm (fun d => η.1 140 (14 + 3 * d + 1)) D) := by
  have hD := h.2.2.2.1
  have e10 : μ.1 10 0 = nI D := h.2.2.1.1.1.trans hD.1
  have e := c_wearSum h (a := 0) (n := D) (by omega) (by omega)
  rw [sumW_Sm, Nat.zero_add] at e
  unfold f_X5_allWear
  rw [r_90 h.1]
  simp only [bd_s, e10]
  rw [L1, pk_sub (by omega)]
  rw [show f_X3_wearSum KF μ 10 0 (nI (D - 1)) = some _ from e]
  rfl
def earnT (f : Nat → Int32) (k : Nat) : Int32 := f (146 + 6 * k + 2) - f (146 + 6 * k + 3)
theorem m_earned {D L C : Nat} {η : Mm} (hR : RF η) (hw : WF (η.1 140) D L C) : f_X8_earned KF η 139 = some (Sm (earnT (η.1 140)) C) := by
  have hC := hw.2.2.1
  have e := lsum (fun n d v => f_X8_earned_l4 KF η 139 n v (nI d)) (earnT (η.1 140)) C (by unfold FU; omega)
    (by
      intro n d v hd
      have h2 := m_customerOf hR (l := d) (j := 2) (by omega) (by omega)
      have h3 := m_customerOf hR (l := d) (j := 3) (by omega) (by omega)
      simp (disch := omega) only [f_X8_earned_l4, r_m0 hR, bd_s, l1_s, L9, L2, L3, K140, gd_n, ix_n, hC.1, leN, if_neg (Nat.not_le.mpr hd), h2, h3, nI_succ d]
      rfl)
    (by
      intro n v
      simp (disch := omega) only [f_X8_earned_l4, r_m0 hR, bd_s, L9, K140, gd_n, ix_n, hC.1, leN, if_pos (Nat.le_refl C)])
  unfold f_X8_earned
  rw [show f_X8_earned_l4 KF η 139 FU 0 0 = some _ from e]
  rfl
theorem c_allEarned {D L C : Nat} {μ η : Mm} (h : CR D L C μ η) : f_X5_allEarned KF μ 9 = some (Sm (earnT (η.1 140)) C) := by
  obtain ⟨hR, -, hc, hw⟩ := h
  have hC := hw.2.2.1
  have e6 : μ.1 9 6 = nI C := hc.2.2.2.1.2.1.trans hC.1
  have e := lsum (fun n d v => f_X5_allEarned_l4 KF μ 9 n v (nI d)) (earnT (η.1 140)) C (by unfold FU; omega)
    (by
      intro n d v hd
      have h2 := cpl_cus hc hd (j := 2) (by omega)
      have h3 := cpl_cus hc hd (j := 3) (by omega)
      simp (disch := omega) only [f_X5_allEarned_l4, e6, r_95 hR, bd_s, l1_s, K16, gd_n, ix_n, leN, if_neg (Nat.not_le.mpr hd), r_cus hR (show d < 6 by omega), h2, h3, nI_succ d]
      rfl)
    (by
      intro n v
      simp (disch := omega) only [f_X5_allEarned_l4, e6, leN, if_pos (Nat.le_refl C)])
  unfold f_X5_allEarned
  rw [show f_X5_allEarned_l4 KF μ 9 FU 0 0 = some _ from e]
  rfl
theorem c_allPrinted {D L C : Nat} {μ η : Mm} (h : CR D L C μ η) : f_X5_allPrinted KF μ 9 = some (η.1 140 11) := by
  obtain ⟨hR, -, hc, hw⟩ := h
  have hL := hw.2.1
  have e4 : μ.1 9 4 = nI L := hc.2.2.2.1.1.trans hL.1
  have e := lsum (fun n d v => f_X5_allPrinted_l4 KF μ 9 n v (nI d)) (fun i => η.1 140 (86 + 10 * i + 8)) L (by unfold FU; omega)
    (by
      intro n d v hd
      obtain ⟨-, -, y3, y4⟩ := cpl_lab hc hd
      simp (disch := omega) only [f_X5_allPrinted_l4, e4, r_93 hR, bd_s, l1_s, K15, gd_n, ix_n, leN, if_neg (Nat.not_le.mpr hd), r_lab hR (show d < 6 by omega), y3, nI_succ d])
    (by
      intro n v
      simp (disch := omega) only [f_X5_allPrinted_l4, e4, leN, if_pos (Nat.le_refl L)])
  unfold f_X5_allPrinted
  rw [show f_X5_allPrinted_l4 KF μ 9 FU 0 0 = some _ from e, ← sumL_Sm, hw.2.2.2.2.2.2.2.2.1]
  rfl
theorem c_allFailed {D L C : Nat} {μ η : Mm} (h : CR D L C μ η) : f_X5_allFailed KF μ 9 = some (η.1 140 12) := by
  obtain ⟨hR, -, hc, hw⟩ := h
  have hL := hw.2.1
  have e4 : μ.1 9 4 = nI L := hc.2.2.2.1.1.trans hL.1
  have e := lsum (fun n d v => f_X5_allFailed_l4 KF μ 9 n v (nI d)) (fun i => η.1 140 (86 + 10 * i + 9)) L (by unfold FU; omega)
    (by
      intro n d v hd
      obtain ⟨-, -, y3, y4⟩ := cpl_lab hc hd
      simp (disch := omega) only [f_X5_allFailed_l4, e4, r_93 hR, bd_s, l1_s, K15, gd_n, ix_n, leN, if_neg (Nat.not_le.mpr hd), r_lab hR (show d < 6 by omega), y4, nI_succ d])
    (by
      intro n v
      simp (disch := omega) only [f_X5_allFailed_l4, e4, leN, if_pos (Nat.le_refl L)])
  unfold f_X5_allFailed
  rw [show f_X5_allFailed_l4 KF μ 9 FU 0 0 = some _ from e, ← sumL_Sm, hw.2.2.2.2.2.2.2.2.2]
  rfl
/-- counting dots -/
def cn (p : Nat → Bool) : Nat → Nat | 0 => 0 | n + 1 => cn p n + (if p n then 1 else 0)
theorem cn_le (p : Nat → Bool) : ∀ n, cn p n ≤ n
  | 0 => Nat.le_refl 0
  | n + 1 => by
    have := cn_le p n
    show cn p n + (if p n then 1 else 0) ≤ n + 1
    split <;> omega
theorem cn_or {p q : Nat → Bool} : ∀ {n : Nat}, (∀ d, d < n → ¬ (p d = true ∧ q d = true)) → cn (fun d => p d || q d) n = cn p n + cn q n
  | 0, _ => rfl
  | n + 1, h => by
    have ih := cn_or (n := n) (fun d hd => h d (by omega))
    have hn := h n (by omega)
    show cn (fun d => p d || q d) n + (if (p n || q n) = true then 1 else 0) = cn p n + (if p n = true then 1 else 0) + (cn q n + (if q n = true then 1 else 0))
    rw [ih]
    cases hp : p n <;> cases hq : q n <;> simp_all <;> omega
theorem cn_int (a b : Nat) : ∀ n, cn (fun d => decide (a ≤ d ∧ d ≤ b)) n = if n ≤ b then n - a else b + 1 - a
  | 0 => by
    show 0 = _
    split <;> omega
  | n + 1 => by
    show cn (fun d => decide (a ≤ d ∧ d ≤ b)) n + (if decide (a ≤ n ∧ n ≤ b) = true then 1 else 0) = _
    rw [cn_int a b n]
    by_cases h : a ≤ n ∧ n ≤ b
    · rw [if_pos (decide_eq_true h : decide (a ≤ n ∧ n ≤ b) = true)]
      split <;> split <;> omega
    · rw [if_neg (fun e => h (of_decide_eq_true e) : ¬ decide (a ≤ n ∧ n ≤ b) = true)]
      split <;> split <;> omega
def rb (f : Nat → Int32) (k d : Nat) : Bool := decide (f (146 + 6 * k) ≠ -1 ∧ f (146 + 6 * k) ≤ nI d ∧ nI d ≤ f (146 + 6 * k + 1))
theorem rb_iff {f : Nat → Int32} {k d : Nat} : rb f k d = true ↔ rents f k d := decide_eq_true_iff
def anyR (f : Nat → Int32) : Nat → Nat → Bool | 0, _ => false | C + 1, d => anyR f C d || rb f C d
theorem anyR_iff {f : Nat → Int32} {d : Nat} : ∀ C, anyR f C d = true ↔ ∃ k, k < C ∧ rents f k d
  | 0 => by
    constructor
    · intro h
      exact absurd h (show ¬ false = true by decide)
    · rintro ⟨k, h, -⟩
      exact absurd h (by omega)
  | C + 1 => by
    show (anyR f C d || rb f C d) = true ↔ _
    rw [Bool.or_eq_true, anyR_iff C, rb_iff]
    constructor
    · rintro (⟨k, h, r⟩ | r)
      · exact ⟨k, by omega, r⟩
      · exact ⟨C, by omega, r⟩
    · rintro ⟨k, h, r⟩
      by_cases e : k = C
      · subst e
        exact Or.inr r
      · exact Or.inl ⟨k, by omega, r⟩
def rentT (f : Nat → Int32) (k : Nat) : Int32 := if f (146 + 6 * k) = -1 then 0 else f (146 + 6 * k + 1) - f (146 + 6 * k) + 1
theorem cn_cong {p q : Nat → Bool} : ∀ {n : Nat}, (∀ d, d < n → p d = q d) → cn p n = cn q n
  | 0, _ => rfl
  | n + 1, h => by
    show cn p n + (if p n then 1 else 0) = cn q n + (if q n then 1 else 0)
    rw [cn_cong (n := n) (fun d hd => h d (by omega)), h n (by omega)]
theorem rentT_cn {f : Nat → Int32} {D L C k : Nat} (hw : WF f D L C) (hk : k < C) : rentT f k = nI (cn (rb f k) D) := by
  have hD := hw.1
  unfold rentT
  rcases hw.2.2.2.2.2.2.1 k hk with ⟨e, e'⟩ | ⟨a, b, hab, hb, e, e'⟩
  · rw [if_pos e]
    have : cn (rb f k) D = cn (fun d => decide (1 ≤ d ∧ d ≤ 0)) D := cn_cong (fun d _ => by
      rw [decide_eq_false (by omega)]
      exact decide_eq_false (fun h => h.1 e))
    rw [this, cn_int]
    split
    · rw [show D - 1 = D - 1 from rfl]
      omega
    · rfl
  · rw [if_neg (by rw [e]; exact m1_ne (by omega)), e, e', pk_sub hab, nI_1]
    have : cn (rb f k) D = cn (fun d => decide (a ≤ d ∧ d ≤ b)) D := cn_cong (fun d hd => by
      unfold rb
      rw [e, e']
      exact decide_eq_decide.mpr ⟨fun h => by
        rw [leN (by omega) (by omega), leN (by omega) (by omega)] at h
        exact h.2, fun h => ⟨m1_ne (by omega), nI_le h.1 (by omega), nI_le h.2 (by omega)⟩⟩)
    rw [this, cn_int, if_neg (by omega), show b + 1 - a = b - a + 1 by omega]
theorem allRent_cn {f : Nat → Int32} {D L C : Nat} (hw : WF f D L C) : ∀ n, n ≤ C → Sm (rentT f) n = nI (cn (anyR f n) D)
  | 0, _ => by
    show (0 : Int32) = _
    have : cn (anyR f 0) D = cn (fun d => decide (1 ≤ d ∧ d ≤ 0)) D := cn_cong (fun d _ => by
      rw [decide_eq_false (by omega)]
      rfl)
    rw [this, cn_int]
    have hD := hw.1
    rw [if_neg (by omega)]
    rfl
  | n + 1, hn => by
    show Sm (rentT f) n + rentT f n = _
    rw [allRent_cn hw n (by omega), rentT_cn hw (by omega), nI_add]
    have : cn (anyR f (n + 1)) D = cn (fun d => anyR f n d || rb f n d) D := rfl
    rw [this, cn_or]
    rintro d hd ⟨h1, h2⟩
    obtain ⟨k, hk, r⟩ := (anyR_iff n).mp h1
    have := hw.2.2.2.2.2.2.2.1 k n d (by omega) (by omega) hd r (rb_iff.mp h2)
    omega
theorem Sm_cn {p : Nat → Bool} : ∀ n, Sm (fun d => if p d then 1 else 0) n = nI (cn p n)
  | 0 => rfl
  | n + 1 => by
    show Sm (fun d => if p d then 1 else 0) n + (if p n then 1 else 0) = nI (cn p n + (if p n then 1 else 0))
    rw [Sm_cn n]
    cases p n
    · show nI (cn p n) + 0 = nI (cn p n + 0)
      rw [Int32.add_zero]
      rfl
    · exact nI_1 _
theorem c_allRented {D L C : Nat} {μ η : Mm} (h : CR D L C μ η) : f_X5_allRented KF μ 9 = some (nI (cn (anyR (η.1 140) C) D)) := by
  obtain ⟨hR, -, hc, hw⟩ := h
  have hC := hw.2.2.1
  have e6 : μ.1 9 6 = nI C := hc.2.2.2.1.2.1.trans hC.1
  have e := lsum (fun n d v => f_X5_allRented_l4 KF μ 9 n v (nI d)) (rentT (η.1 140)) C (by unfold FU; omega)
    (by
      intro n d v hd
      have h0 : μ.1 (29 + d) 0 = η.1 140 (146 + 6 * d) := cpl_cus hc hd (j := 0) (by omega)
      have h1 := cpl_cus hc hd (j := 1) (by omega)
      have e : f_X2_rented KF μ (29 + d) = some (rentT (η.1 140) d) := by
        unfold f_X2_rented rentT
        rw [h0, h1]
        split <;> rfl
      simp (disch := omega) only [f_X5_allRented_l4, e6, r_95 hR, bd_s, l1_s, K16, gd_n, ix_n, leN, if_neg (Nat.not_le.mpr hd), r_cus hR (show d < 6 by omega), e, nI_succ d])
    (by
      intro n v
      simp (disch := omega) only [f_X5_allRented_l4, e6, leN, if_pos (Nat.le_refl C)])
  unfold f_X5_allRented
  rw [show f_X5_allRented_l4 KF μ 9 FU 0 0 = some _ from e, allRent_cn hw C (Nat.le_refl C)]
  rfl
theorem m_rented {D L C : Nat} {η : Mm} (hR : RF η) (hw : WF (η.1 140) D L C) : f_X8_rented KF η 139 = some (nI (cn (anyR (η.1 140) C) D)) := by
  have hD := hw.1
  have hC := hw.2.2.1
  have e := lsum (fun n d v => f_X8_rented_l4 KF η 139 n v (nI d)) (fun d => if anyR (η.1 140) C d then 1 else 0) D (by unfold FU; omega)
    (by
      intro n d v hd
      obtain ⟨r, h1, h2⟩ := m_renter hR hw hd
      have e : (if r = -1 then (0 : Int32) else 1) = if anyR (η.1 140) C d then 1 else 0 := by
        rcases h2 with ⟨e, q⟩ | ⟨k, hk, e, q⟩
        · rw [if_pos e, if_neg (fun h => by
            obtain ⟨k, hk, r⟩ := (anyR_iff C).mp h
            exact q k hk r)]
        · rw [if_neg (by rw [e]; exact m1_ne (by omega)), if_pos ((anyR_iff C).mpr ⟨k, hk, q⟩)]
      simp only [L0] at e
      simp (disch := omega) only [f_X8_rented_l4, r_m0 hR, bd_s, l1_s, L0, K140, gd_n, ix_n, hD.1, leN, if_neg (Nat.not_le.mpr hd), h1, e, nI_succ d])
    (by
      intro n v
      simp (disch := omega) only [f_X8_rented_l4, r_m0 hR, bd_s, L0, K140, gd_n, ix_n, hD.1, leN, if_pos (Nat.le_refl D)])
  unfold f_X8_rented
  rw [show f_X8_rented_l4 KF η 139 FU 0 0 = some _ from e, Sm_cn]
  rfl
end PureG
