/-! PURE: rents; lines pass -/
section PureOpsC
theorem c_rentedT {D L C k : Nat} {μ : Mm} {f : Nat → Int32} (h : CR D L C μ f) (hk : k < C) : f_X2_rented KF μ (29 + k) = some (rentT f k) := by
  have h0 : μ.1 (29 + k) 0 = f (146 + 6 * k) := cpl_cus h.2.1 hk (j := 0) (by omega)
  have h1 := cpl_cus h.2.1 hk (j := 1) (by omega)
  unfold f_X2_rented rentT
  rw [h0, h1]
  split <;> rfl
theorem rentT_0 {f : Nat → Int32} {D L C k : Nat} (hw : WF f D L C) (hk : k < C) : (rentT f k = 0 ↔ f (146 + 6 * k) = -1) ∧ ¬ rentT f k < 0 := by
  have hD := hw.1
  unfold rentT
  rcases hw.2.2.2.2.2.2.1 k hk with ⟨e, e'⟩ | ⟨a, b, hab, hb, e, e'⟩
  · rw [if_pos e]
    exact ⟨⟨fun _ => e, fun _ => rfl⟩, by decide⟩
  · rw [if_neg (by rw [e]; exact m1_ne (by omega)), e, e', pk_sub hab, nI_1]
    exact ⟨⟨fun h => absurd h (nI_ne0 (by omega) (by omega)), fun h => absurd h (m1_ne (by omega))⟩, nI_pos (by omega)⟩
variable {D L C : Nat} {ν : Mm} {f g : Nat → Int32}
/-- a customer's part set -/
theorem CR.part {c : Nat} (h1 : CR D L C ν f) (hc : c < C) {x y : Int32} (hp : (x = -1 ∧ y = -1) ∨ ∃ a b, a ≤ b ∧ b < D ∧ x = nI a ∧ y = nI b)
    (hf : ∀ k d, k < C → k ≠ c → d < D → x ≠ -1 → x ≤ nI d → nI d ≤ y → ¬ rents f k d) (gg : ∀ i, i < 182 → i ≠ 146 + 6 * c → i ≠ 146 + 6 * c + 1 → g i = f i) (g0 : g (146 + 6 * c) = x) (g1 : g (146 + 6 * c + 1) = y) : CR D L C (sI (sI ν (29 + c) 0 x) (29 + c) 1 y) g := by
  obtain ⟨hR, hcp, hwf⟩ := h1
  have hD := hwf.1
  have hL := hwf.2.1
  have hC := hwf.2.2.1
  refine ⟨hR, hcp.cus ⟨hD.2.2, hL.2⟩ (fun a ha ha' => by rw [sI_rw (by omega), sI_rw (by omega)]) ⟨by rw [sI_no (by omega), sI_no (by omega)], by rw [sI_no (by omega), sI_no (by omega)]⟩ (fun j hj _ => gg j (by omega) (by omega) (by omega)) ?_ (fun k hk j hj => ?_) (fun k hk hk' => ?_), hwf.cus (fun j hj _ => gg j (by omega) (by omega) (by omega)) (by rw [gg 9 (by omega) (by omega) (by omega)]; exact hC.1) hC.2 (fun k hk => ?_) (fun j k d hj hk hd r r' => ?_)⟩
  · rw [sI_no (by omega), sI_no (by omega), gg _ (by omega) (by omega) (by omega)]
    exact hcp.2.2.2.1.2.1
  · by_cases e : k = c
    · subst e
      by_cases e0 : j = 0
      · subst e0
        rw [sI_of (by omega), sI_at]
        exact g0.symm
      · by_cases e1 : j = 1
        · subst e1
          rw [sI_at, g1]
        · rw [sI_of e1, sI_of e0, gg _ (by omega) (by omega) (by omega)]
          exact cpl_cus hcp hk hj
    · rw [sI_no (by omega), sI_no (by omega), gg _ (by omega) (by omega) (by omega)]
      exact cpl_cus hcp hk hj
  · rw [sI_rw (by omega), sI_rw (by omega)]
    exact hcp.2.2.2.2.2.2.2 k hk hk'
  · by_cases e : k = c
    · subst e
      rw [g0, g1]
      exact hp
    · rw [gg _ (by omega) (by omega) (by omega), gg _ (by omega) (by omega) (by omega)]
      exact hwf.2.2.2.2.2.2.1 k hk
  · have cv : ∀ k, k < C → k ≠ c → rents g k d → rents f k d := fun k hk n r => by
      unfold rents at *
      rwa [gg _ (by omega) (by omega) (by omega), gg _ (by omega) (by omega) (by omega)] at r
    have cc : ∀ k, k < C → k ≠ c → rents g k d → ¬ rents g c d := fun k hk n r r' => by
      have r2 := cv k hk n r
      unfold rents at r'
      rw [g0, g1] at r'
      exact hf k d hk n hd r'.1 r'.2.1 r'.2.2 r2
    by_cases ej : j = c
    · by_cases ek : k = c
      · rw [ej, ek]
      · rw [ej] at r
        exact absurd r (cc k hk ek r')
    · by_cases ek : k = c
      · rw [ek] at r'
        exact absurd r' (cc j hj ej r)
      · exact hwf.2.2.2.2.2.2.2.1 j k d hj hk hd (cv j hj ej r) (cv k hk ek r')
theorem w_ends {c : Nat} (h : CR D L C ν f) (hc : c < C) : f_X5_whyNotEndLet KF ν 9 (nI c) = some (if f (146 + 6 * c) = -1 then 3 else 0) := by
  have hC := h.2.2.2.2.1
  obtain ⟨z1, -⟩ := rentT_0 h.2.2 hc
  unfold f_X5_whyNotEndLet
  rw [c_hasCustomer h, bd_s, has_n hc (by omega), i10]
  simp (disch := omega) only [r_95 h.1, bd_s, K16, gd_n, ix_n, r_cus h.1 (show c < 6 by omega), c_rentedT h hc, l1_s]
  by_cases t : f (146 + 6 * c) = -1
  · rw [if_pos t, if_pos (z1.mpr t)]
  · rw [if_neg t, if_neg (fun e => t (z1.mp e))]
theorem o_ends {c : Nat} (h : CR D L C ν f) (hs : SVL ν) (hc : c < C) (t : ¬ f (146 + 6 * c) = -1) (gg : ∀ i, i < 182 → i ≠ 146 + 6 * c → i ≠ 146 + 6 * c + 1 → g i = f i) (g0 : g (146 + 6 * c) = -1) (g1 : g (146 + 6 * c + 1) = -1) :
    ∃ ν', f_L_ends KF ν 0 (nI c) = some (f (146 + 6 * c + 1) - f (146 + 6 * c) + 1, ν') ∧ CR D L C ν' g ∧ GR ν ν' := by
  have hC := h.2.2.2.2.1
  have e0 := w_ends h hc
  rw [if_neg t] at e0
  have et : f (146 + 6 * c + 1) - f (146 + 6 * c) + 1 = rentT f c := by
    unfold rentT
    rw [if_neg t]
  obtain ⟨ν1, ν2, e1, r1, e2, h2, g2⟩ := grant (g := g) (D' := D) (L' := L) (C' := C) (v := rentT f c) h hs (act := fun ν => f_X5_endLet KF ν 9 (nI c)) (fun ν1 h1 _ => by
    have hR := h1.1
    refine ⟨_, ?_, h1.part hc (x := -1) (y := -1) (Or.inl ⟨rfl, rfl⟩) (fun k d _ _ _ hx _ _ => absurd rfl hx) gg g0 g1, (FrI.rfl.sI (by constructor <;> omega)).sI (by constructor <;> omega)⟩
    show f_X5_endLet KF ν1 9 (nI c) = _
    unfold f_X5_endLet f_X2_rentNothing
    simp (disch := omega) only [r_95 hR, bd_s, K16, gd_n, ix_n, r_cus hR (show c < 6 by omega), c_rentedT h1 hc, l1_s])
  refine ⟨ν2, ?_, h2, g2⟩
  have e2 : f_X5_endLet KF ν1 9 (nI c) = some (rentT f c, ν2) := e2
  unfold f_L_ends f_X7_endRent
  rw [r_03 h.1, bd_s, e0, bd_s, ref0, bd_s, e1, bd_s, r_03 r1, bd_s, e2, et]
  rfl
theorem x_ends3 {c : Nat} (h : CR D L C ν f) (hc : c < C) (t : f (146 + 6 * c) = -1) : fx_X7_endRent KF ν 0 (nI c) = some (3, ν) := by
  have e0 := w_ends h hc
  rw [if_pos t] at e0
  unfold fx_X7_endRent
  rw [r_03 h.1, bd_s, e0]
  rfl
theorem x_ends1 (h : CR D L C ν f) (hC : C = 0) : fx_X7_endRent KF ν 0 0 = some (1, ν) := by
  subst hC
  unfold fx_X7_endRent f_X5_whyNotEndLet
  rw [r_03 h.1, bd_s, c_hasCustomer h, has_0, bd_s, if_pos rfl]
  rfl
theorem w_rents {c x y : Nat} (h : CR D L C ν f) (hc : c < C) (hx : x < D) (hy : y < D) (hxy : x ≤ y) : ∃ v, f_X5_whyNotLet KF ν 9 (nI c) (nI x) (nI y) = some v ∧ (((∀ k d, k < C → k ≠ c → x ≤ d → d ≤ y → ¬ rents f k d) → v = 0) ∧ ((∃ k d, k < C ∧ k ≠ c ∧ x ≤ d ∧ d ≤ y ∧ rents f k d) → v = 3)) := by
  have hC := h.2.2.2.2.1
  have hD := h.2.2.1
  obtain ⟨v, e1, e2⟩ := c_others h (a := x) (b := y) hc
  have e0 : f_X5_whyNotLet KF ν 9 (nI c) (nI x) (nI y) = some (if v = 0 then 0 else 3) := by
    unfold f_X5_whyNotLet
    rw [c_hasCustomer h, bd_s, has_n hc (by omega), i10, c_hasDot h, bd_s, has_n hx (by omega), i10, c_hasDot h, bd_s, has_n hy (by omega), i10, if_pos (nI_le hxy (by omega)), e1]
    rfl
  refine ⟨_, e0, fun hn => ?_, fun hy' => ?_⟩
  · rcases e2 with ⟨rfl, -⟩ | ⟨-, k, k1, k2, k3⟩
    · exact i00
    · obtain ⟨d, d1, d2, d3⟩ := (over_rents h.2.2 k1 hxy hy).mp k3
      exact absurd d3 (hn k d k1 k2 d1 d2)
  · rcases e2 with ⟨rfl, k3⟩ | ⟨rfl, -⟩
    · obtain ⟨k, d, k1, k2, d1, d2, d3⟩ := hy'
      exact absurd ((over_rents h.2.2 k1 hxy hy).mpr ⟨d, d1, d2, d3⟩) (k3 k k1 k2)
    · exact i10
theorem o_rents {c x y : Nat} (h : CR D L C ν f) (hs : SVL ν) (hc : c < C) (hxy : x ≤ y) (hy : y < D) (hn : ∀ k d, k < C → k ≠ c → x ≤ d → d ≤ y → ¬ rents f k d) (gg : ∀ i, i < 182 → i ≠ 146 + 6 * c → i ≠ 146 + 6 * c + 1 → g i = f i) (g0 : g (146 + 6 * c) = nI x) (g1 : g (146 + 6 * c + 1) = nI y) :
    ∃ ν', f_L_rents KF ν 0 (nI c) (nI x) (nI y) = some (Sm (rentT g) C, ν') ∧ CR D L C ν' g ∧ GR ν ν' := by
  have hC := h.2.2.2.2.1
  have hD := h.2.2.1
  obtain ⟨v, e0, e00, -⟩ := w_rents h hc (show x < D by omega) hy hxy
  rw [e00 hn] at e0
  obtain ⟨ν1, ν2, e1, r1, e2, h2, g2⟩ := grant (g := g) (D' := D) (L' := L) (C' := C) (v := Sm (rentT g) C) h hs (act := fun ν => f_X5_let KF ν 9 (nI c) (nI x) (nI y)) (fun ν1 h1 _ => by
    have hR := h1.1
    have hcr : CR D L C (sI (sI ν1 (29 + c) 0 (nI x)) (29 + c) 1 (nI y)) g := h1.part hc (x := nI x) (y := nI y) (Or.inr ⟨x, y, hxy, hy, rfl, rfl⟩) (fun k d hk hkc hd _ p1 p2 pr => by
      rw [leN (by omega) (by omega)] at p1 p2
      exact hn k d hk hkc p1 p2 pr) gg g0 g1
    have n1 := c_allRented hcr
    refine ⟨_, ?_, hcr, (FrI.rfl.sI (by constructor <;> omega)).sI (by constructor <;> omega)⟩
    show f_X5_let KF ν1 9 (nI c) (nI x) (nI y) = _
    unfold f_X5_let
    simp (disch := omega) only [r_95 hR, rf_sI, bd_s, K16, gd_n, ix_n, r_cus hR (show c < 6 by omega), n1, l1_s])
  refine ⟨ν2, ?_, h2, g2⟩
  have e2 : f_X5_let KF ν1 9 (nI c) (nI x) (nI y) = some (Sm (rentT g) C, ν2) := e2
  unfold f_L_rents f_X7_rent
  rw [r_03 h.1, bd_s, e0, bd_s, ref0, bd_s, e1, bd_s, r_03 r1, bd_s, e2]
  rfl
theorem x_rents3 {c x y : Nat} (h : CR D L C ν f) (hc : c < C) (hxy : x ≤ y) (hy : y < D) (hn : ∃ k d, k < C ∧ k ≠ c ∧ x ≤ d ∧ d ≤ y ∧ rents f k d) : fx_X7_rent KF ν 0 (nI c) (nI x) (nI y) = some (3, ν) := by
  obtain ⟨v, e0, -, e00⟩ := w_rents h hc (show x < D by omega) hy hxy
  rw [e00 hn] at e0
  unfold fx_X7_rent
  rw [r_03 h.1, bd_s, e0]
  rfl
theorem has_big {n d : Nat} (h : n ≤ d) (hd : d < 1000) : has (nI d) n = 0 := by
  unfold has
  rw [if_neg (nI_pos (by omega)), if_pos (nI_le h (by omega))]
theorem x_rents1 {c x y : Nat} (h : CR D L C ν f) (hc : c < C) (hx : x < D) (hy : D ≤ y) (hy' : y < 1000) : fx_X7_rent KF ν 0 (nI c) (nI x) (nI y) = some (1, ν) := by
  have hC := h.2.2.2.2.1
  have hD := h.2.2.1
  unfold fx_X7_rent f_X5_whyNotLet
  rw [r_03 h.1, bd_s, c_hasCustomer h, bd_s, has_n hc (by omega), i10, c_hasDot h, bd_s, has_n hx (by omega), i10, c_hasDot h, bd_s, has_big hy hy', i00]
  rfl
theorem x_rents2 {c x y : Nat} (h : CR D L C ν f) (hc : c < C) (hx : x < D) (hy : y < x) : fx_X7_rent KF ν 0 (nI c) (nI x) (nI y) = some (2, ν) := by
  have hC := h.2.2.2.2.1
  have hD := h.2.2.1
  unfold fx_X7_rent f_X5_whyNotLet
  rw [r_03 h.1, bd_s, c_hasCustomer h, bd_s, has_n hc (by omega), i10, c_hasDot h, bd_s, has_n hx (by omega), i10, c_hasDot h, bd_s, has_n (show y < D by omega) (by omega), i10, if_neg (nI_ge hy (by omega))]
  rfl
theorem x_rents0 (h : CR D L C ν f) (hC : C = 0) : fx_X7_rent KF ν 0 0 0 1 = some (1, ν) := by
  subst hC
  unfold fx_X7_rent f_X5_whyNotLet
  rw [r_03 h.1, bd_s, c_hasCustomer h, has_0, bd_s, if_pos rfl]
  rfl
theorem Cpl.dots {μ μ' : Mm} {f g : Nat → Int32} {D D' L C : Nat} (h : Cpl μ 9 f D L C) (hL : L ≤ 6 ∧ C ≤ 6) (e : ∀ a, 14 ≤ a → a ≤ 34 → μ'.1 a = μ.1 a) (e9 : μ'.1 9 4 = μ.1 9 4 ∧ μ'.1 9 6 = μ.1 9 6) (eg : ∀ j, j < 182 → (1 ≤ j ∧ j < 10 ∨ 86 ≤ j) → g j = f j)
    (h0 : μ'.1 10 0 = g 0 ∧ μ'.1 10 1 = g 10) (h13 : μ'.1 9 7 = g 13) (hd : ∀ d, d < D' → μ'.1 11 d = g (14 + 3 * d) ∧ μ'.1 12 d = g (14 + 3 * d + 1) ∧ μ'.1 13 d = g (14 + 3 * d + 2)) : Cpl μ' 9 g D' L C := by
  obtain ⟨-, -, p3, p4, p5, p6, p7, p8⟩ := h
  refine ⟨h0, hd, fun j hj => ?_, ⟨?_, ?_, h13⟩, fun l hl => ?_, fun l hl hl' => ?_, fun k hk j hj => ?_, fun k hk hk' => ?_⟩
  · rw [e _ (by omega) (by omega), eg _ (by omega) (by omega)]
    exact p3 j hj
  · rw [e9.1, eg _ (by omega) (by omega)]
    exact p4.1
  · rw [e9.2, eg _ (by omega) (by omega)]
    exact p4.2.1
  · rw [e (9 + 8 + 2 * l) (by omega) (by omega), e (9 + 9 + 2 * l) (by omega) (by omega), eg _ (by omega) (by omega), eg _ (by omega) (by omega), eg _ (by omega) (by omega), eg _ (by omega) (by omega)]
    exact ⟨(p5 l hl).1, fun r hr => by rw [eg _ (by omega) (by omega)]; exact (p5 l hl).2 r hr⟩
  · rw [e (9 + 8 + 2 * l) (by omega) (by omega), e (9 + 9 + 2 * l) (by omega) (by omega)]
    exact p6 l hl hl'
  · rw [e _ (by omega) (by omega), eg _ (by omega) (by omega)]
    exact p7 k hk j hj
  · rw [e (9 + 20 + k) (by omega) (by omega)]
    exact p8 k hk hk'
theorem a_cool {n q : Nat} (h : CR D L C ν f) (n2 : n ≤ 20) (eg : f 1 = nI q) (hg : q ≤ 30) (k : ∀ j, j < 182 → j ≠ 13 → (∀ x, x < D → j ≠ 14 + 3 * x) → g j = f j) (g13 : g 13 = f 13 + nI n) (gz : ∀ x, x < D → ∀ m, m ≤ 90 → f (14 + 3 * x) = nI m → g (14 + 3 * x) = nI (m - n * q)) :
    ∃ ν', f_X5_passLines KF ν 9 (nI n) = some (Sm (fun d => g (14 + 3 * d)) D, ν') ∧ CR D L C ν' g ∧ FN ν ν' := by
  obtain ⟨hR, hc, hw⟩ := h
  have hD := hw.1
  have hL := hw.2.1
  have hC := hw.2.2.1
  have e10 : ν.1 10 0 = nI D := hc.1.1.trans hD.1
  have es : ν.1 14 0 = nI q := (cpl_set hc (j := 0) (by omega)).trans eg
  have hng : n * q ≤ 600 := Nat.mul_le_mul n2 hg
  obtain ⟨μ2, y1, y2, y3⟩ := c_lose (g := n * q) hR (Or.inl rfl) e10 hD.2.2 (by omega) (fun x hx => by rw [(cpl_dot hc hx).1]; exact (hw.2.2.2.2.1 x hx).1)
  have qq : ∀ x, x ≠ 11 → μ2.1 x = ν.1 x := fun x hx => y2.2 x hx
  have hR21 : RF (sI μ2 9 7 (μ2.1 9 7 + nI n)) := RF.sI (hR.fr y2)
  have hcr : CR D L C (sI μ2 9 7 (μ2.1 9 7 + nI n)) g := by
    refine ⟨hR21, hc.dots ⟨hL.2, hC.2⟩ (fun a ha _ => by rw [sI_rw (by omega), qq _ (by omega)]) ⟨by rw [sI_of (by omega), qq _ (by omega)], by rw [sI_of (by omega), qq _ (by omega)]⟩ (fun j _ hj => k j (by omega) (by omega) (fun x hx => by omega)) ⟨?_, ?_⟩ ?_ (fun d hd => ?_), hw.dots (fun j _ hj => k j (by omega) (by omega) (fun x hx => by omega)) (fun d hd => ?_)⟩
    · rw [sI_no (by omega), qq _ (by omega), k 0 (by omega) (by omega) (fun x hx => by omega)]
      exact hc.1.1
    · rw [sI_no (by omega), qq _ (by omega), k 10 (by omega) (by omega) (fun x hx => by omega)]
      exact hc.1.2
    · rw [sI_at, g13, qq _ (by omega), hc.2.2.2.1.2.2]
    · obtain ⟨x1, x2, x3⟩ := cpl_dot hc hd
      obtain ⟨⟨m, -, hm, em⟩, -⟩ := hw.2.2.2.2.1 d hd
      rw [sI_rw (by omega), sI_rw (by omega), sI_rw (by omega), qq 12 (by omega), qq 13 (by omega), k (14 + 3 * d + 1) (by omega) (by omega) (fun x hx => by omega), k (14 + 3 * d + 2) (by omega) (by omega) (fun x hx => by omega), gz d hd m hm em]
      exact ⟨y3 d hd m hm (x1.trans em), x2, x3⟩
    · obtain ⟨⟨m, -, hm, em⟩, b⟩ := hw.2.2.2.2.1 d hd
      rw [gz d hd m hm em, k (14 + 3 * d + 1) (by omega) (by omega) (fun x hx => by omega)]
      exact ⟨⟨m - n * q, by omega, by omega, rfl⟩, b⟩
  have n1' := c_heatSum hcr
  refine ⟨_, ?_, hcr, (y2.mono (fun a ha => by have ha : a = 11 := ha; exact ⟨by omega, by omega⟩)).sI ⟨by omega, by omega⟩⟩
  unfold f_X5_passLines
  have y1' : f_X3_lose KF ν 10 (nI n * nI q) = some μ2 := by rw [pk_mul]; exact y1
  simp (disch := omega) only [r_90 hR, r_92 hR, bd_s, L0, K14, gd_n, ix_n, es, y1', l1_s, r_90 hR21, n1']
theorem o_cools {n q : Nat} (h : CR D L C ν f) (hs : SVL ν) (n1 : 1 ≤ n) (n2 : n ≤ 20) (eg : f 1 = nI q) (hg : q ≤ 30) (k : ∀ j, j < 182 → j ≠ 13 → (∀ x, x < D → j ≠ 14 + 3 * x) → g j = f j) (g13 : g 13 = f 13 + nI n) (gz : ∀ x, x < D → ∀ m, m ≤ 90 → f (14 + 3 * x) = nI m → g (14 + 3 * x) = nI (m - n * q)) :
    ∃ ν', f_L_cools KF ν 0 (nI n) = some (Sm (fun d => g (14 + 3 * d)) D, ν') ∧ CR D L C ν' g ∧ GR ν ν' := by
  have e0 : f_X5_whyNotPassLines 9 (nI n) = some 0 := by
    unfold f_X5_whyNotPassLines
    rw [if_neg (show ¬ nI n < 1 from nI_nlt (b := 1) (by omega) (by omega)), if_pos (show nI n ≤ 20 from nI_le (b := 20) n2 (by omega))]
    rfl
  obtain ⟨ν1, ν2, e1, r1, e2, h2, g2⟩ := grant h hs (act := fun ν => f_X5_passLines KF ν 9 (nI n)) (fun ν1 h1 _ => a_cool h1 n2 eg hg k g13 gz)
  refine ⟨ν2, ?_, h2, g2⟩
  have e2 : f_X5_passLines KF ν1 9 (nI n) = some (Sm (fun d => g (14 + 3 * d)) D, ν2) := e2
  unfold f_L_cools f_X7_cool
  rw [r_03 h.1, bd_s, e0, bd_s, ref0, bd_s, e1, bd_s, r_03 r1, bd_s, e2]
  rfl
end PureOpsC
