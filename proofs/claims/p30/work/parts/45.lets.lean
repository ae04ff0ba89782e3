/-! PURE: the law's rents -/
section PureLets
theorem pt_RW {ν : Mm} {c : Nat} {x y : Int32} : (∀ i, i < 182 → i ≠ 146 + 6 * c → i ≠ 146 + 6 * c + 1 → RW (sI (sI ν 144 (6 * c) x) 144 (6 * c + 1) y) i = RW ν i) ∧ RW (sI (sI ν 144 (6 * c) x) 144 (6 * c + 1) y) (146 + 6 * c) = x ∧ RW (sI (sI ν 144 (6 * c) x) 144 (6 * c + 1) y) (146 + 6 * c + 1) = y ∧ FLw ν (sI (sI ν 144 (6 * c) x) 144 (6 * c + 1) y) ∧ (sI (sI ν 144 (6 * c) x) 144 (6 * c + 1) y).1 141 = ν.1 141 := by
  refine ⟨fun i hi h1 h2 => ?_, ?_, ?_, (FLw.refl.s (by omega)).s (by omega), ?_⟩
  · refine RW_eq (fun h => ?_) (fun d h e => ?_) (fun d h e => ?_) (fun d h e => ?_) (fun j h e => ?_) (fun j e => ?_)
    · rw [sI_rw (by omega), sI_rw (by omega)]
    · rw [sI_rw (by omega), sI_rw (by omega)]
    · rw [sI_rw (by omega), sI_rw (by omega)]
    · rw [sI_rw (by omega), sI_rw (by omega)]
    · rw [sI_rw (by omega), sI_rw (by omega)]
    · rw [sI_of (by omega), sI_of (by omega)]
  · rw [RW_c, sI_of (by omega), sI_at]
  · rw [Nat.add_assoc, RW_c, sI_at]
  · rw [sI_rw (by omega), sI_rw (by omega)]
theorem pt_sold {ν ν1 : Mm} {C c : Nat} (hC : C ≤ 6) (gg : ∀ i, i < 182 → i ≠ 146 + 6 * c → i ≠ 146 + 6 * c + 1 → RW ν1 i = RW ν i) (h : Sm (soldT (RW ν)) C = RW ν 11) : Sm (soldT (RW ν1)) C = RW ν1 11 := by
  rw [gg 11 (by omega) (by omega) (by omega), ← h]
  exact Sm_cong (fun d hd => gg _ (by omega) (by omega) (by omega))
/-- the law looks whether others rent a part -/
theorem l_scan {D L C c x y : Nat} {ν : Mm} {f : Nat → Int32} (h : CR D L C ν f) (hr : LR ν f) (hc : c < C) (hxy : x ≤ y) (hy : y < D) : ∃ r, f_L_lets_l208 KF ν 0 139 144 (nI c) (nI x) (nI y) FU (nI x) = some r ∧ ((r = .inr () ∧ ∀ k d, k < C → k ≠ c → x ≤ d → d ≤ y → ¬ rents f k d) ∨ r = .inl (1, ν)) := by
  have hw := h.2.2
  have hD := hw.1
  have hC := hw.2.2.1
  obtain ⟨r, e, q⟩ := lp (fun n d (_ : Unit) => f_L_lets_l208 KF ν 0 139 144 (nI c) (nI x) (nI y) n (nI d)) (y + 1)
    (fun d _ => x ≤ d ∧ ∀ k d', k < C → k ≠ c → x ≤ d' → d' < d → ¬ rents f k d')
    (fun r => (r = .inr () ∧ ∀ k d, k < C → k ≠ c → x ≤ d → d ≤ y → ¬ rents f k d) ∨ r = .inl (1, ν))
    (by
      rintro n d ⟨⟩ hd ⟨dx, hP⟩
      obtain ⟨v, e1, e2⟩ := l_renter hr hw (d := d) (by omega)
      have nlt : ¬ nI y < nI d := by rw [ltN (by omega) (by omega)]; omega
      have next : (∀ k, k < C → k ≠ c → ¬ rents f k d) → x ≤ d + 1 ∧ ∀ k d', k < C → k ≠ c → x ≤ d' → d' < d + 1 → ¬ rents f k d' := fun hn => ⟨by omega, fun k d' h1 h2 h3 h4 => by
        by_cases e : d' = d
        · rw [e]; exact hn k h1 h2
        · exact hP k d' h1 h2 h3 (by omega)⟩
      rcases e2 with ⟨rfl, hn⟩ | ⟨k, hk, rfl, hrk⟩
      · refine Or.inr ⟨(), ?_, next (fun k h1 _ => hn k h1)⟩
        simp only [f_L_lets_l208, if_neg nlt, e1, bd_s, l1_s, if_pos m1_lt, ← nI_succ d]
      · have nk : ¬ nI k < 0 := nI_pos (by omega)
        by_cases ek : k = c
        · subst ek
          refine Or.inr ⟨(), ?_, next (fun k' h1 h2 h3 => h2 (hw.2.2.2.2.2.2.2.1 k' k d h1 hk (by omega) h3 hrk))⟩
          simp only [f_L_lets_l208, if_neg nlt, e1, bd_s, l1_s, if_neg nk, if_pos, ← nI_succ d]
        · refine Or.inl ⟨.inl (1, ν), ?_, Or.inr rfl⟩
          have x3 := x_rents3 h hc hxy hy ⟨k, d, hk, ek, dx, by omega, hrk⟩
          have nkc : ¬ nI k = nI c := by rw [eqN (by omega) (by omega)]; exact ek
          simp only [f_L_lets_l208, if_neg nlt, e1, bd_s, l1_s, if_neg nk, if_neg nkc, x3, gdT])
    (by
      rintro n ⟨⟩ ⟨-, hP⟩
      refine ⟨.inr (), ?_, Or.inl ⟨rfl, fun k d h1 h2 h3 h4 => hP k d h1 h2 h3 (by omega)⟩⟩
      simp only [f_L_lets_l208, if_pos (show nI y < nI (y + 1) by rw [ltN (by omega) (by omega)]; omega)]) (y + 1 - x) x () FU (by omega) (by unfold FU; omega) ⟨Nat.le_refl x, fun k d' _ _ h3 h4 => absurd h3 (by omega)⟩
  exact ⟨r, e, q⟩
theorem l_lets {ν : Mm} (h : IV ν) {v : Nat} (hv : v < 10000000) (b : Int32) : ∃ ν', f_L_lets KF ν 0 139 144 (nI v) b = some (1, ν') ∧ IV ν' := by
  obtain ⟨D, L, C, hcr, hsv, htx, hso, hz⟩ := h
  have hr := LR_RW ν
  have hw := hcr.2.2
  have hD := hw.1
  have hL := hw.2.1
  have hC := hw.2.2.1
  have g0 : ν.1 139 0 = nI D := (hr.1 0 (by omega)).trans hD.1
  have g9 : ν.1 139 9 = nI C := (hr.1 9 (by omega)).trans hC.1
  have hIV : IV ν := ⟨D, L, C, hcr, hsv, htx, hso, hz⟩
  by_cases cC : C = 0
  · have q1 := x_ends1 hcr cC
    have q2 := x_rents0 hcr cC
    refine ⟨ν, ?_, hIV⟩
    unfold f_L_lets
    simp only [i9_9, ix9, g9, if_pos (show nI C = 0 by rw [cC]; rfl), q1, q2, bd_s, l1_s, gdT]
  have nC := ne0 cC (show C < 1000 by omega)
  have nD := ne0 (n := D) (by omega) (show D < 1000 by omega)
  have hc : v % C < C := Nat.mod_lt _ (by omega)
  have mk : nI v - nI v / nI C * nI C = nI (v % C) := pk_rem (by omega) (by omega) (by omega)
  have m6 : nI v / 6 = nI (v / 6) := pk_div (a := v) (d := 6) (by omega) (by omega) (by omega)
  have m144 : nI v / 144 = nI (v / 144) := pk_div (a := v) (d := 144) (by omega) (by omega) (by omega)
  have mx : nI (v / 6) - nI (v / 6) / nI D * nI D = nI (v / 6 % D) := pk_rem (by omega) (by omega) (by omega)
  have my : nI (v / 144) - nI (v / 144) / 5 * 5 = nI (v / 144 % 5) := pk_rem (a := v / 144) (d := 5) (by omega) (by omega) (by omega)
  have hx : v / 6 % D < D := Nat.mod_lt _ (by omega)
  have hy5 : v / 144 % 5 < 5 := Nat.mod_lt _ (by omega)
  generalize ec : v % C = c at hc mk
  generalize ex : v / 6 % D = x at hx mx
  generalize ey : v / 144 % 5 = z at hy5 my
  have mz : nI x + nI z = nI (x + z) := nI_add x z
  have m6c : (6 : Int32) * nI c = nI (6 * c) := pk_mul 6 c
  have ga {α : Type} {k : Option α} : gd (inb (nI (6 * c)) (KF 144).2) k = k := by rw [K144]; exact gd_n (by omega) (by omega)
  have gb {α : Type} {k : Option α} : gd (inb (nI (6 * c + 1)) (KF 144).2) k = k := by rw [K144]; exact gd_n (by omega) (by omega)
  have xa : ix (nI (6 * c)) = 6 * c := ix_n (by omega)
  have xb : ix (nI (6 * c + 1)) = 6 * c + 1 := ix_n (by omega)
  have c0 := hr.c0 (show c < 6 by omega)
  have c1 := hr.c (show c < 6 by omega) (show 1 < 6 by decide)
  by_cases hb : b = 0
  · by_cases ty : x + z < D
    · have tlt : nI (x + z) < nI D := by rw [ltN (by omega) (by omega)]; exact ty
      obtain ⟨r, e1, e2⟩ := l_scan hcr hr hc (x := x) (y := x + z) (by omega) ty
      rcases e2 with ⟨rfl, hn⟩ | rfl
      · obtain ⟨gg, gx, gy, fl, z141⟩ := pt_RW (ν := ν) (c := c) (x := nI x) (y := nI (x + z))
        obtain ⟨ν2, r1, r2, r3⟩ := o_rents (hcr.law fl) (hsv.law fl) hc (x := x) (y := x + z) (by omega) ty hn gg gx gy
        have er := RW_same r3.2.1
        have hw2 := r2.2.2
        have rn := l_rented (D := D) (L := L) (LR_RW ν2) (by rw [er]; exact hw2.2.2.1) (by rw [er]; exact wf_rn hw2)
        rw [er] at rn
        refine ⟨ν2, ?_, IV.fin r2 r3 (txt_law htx fl) (pt_sold (by omega) gg hso) (fun d d1 d2 => by rw [z141]; exact hz d d1 d2)⟩
        unfold f_L_lets
        simp only [i9_9, i9_0, ix9, ix0, g0, g9, if_neg nC, gd_t nC, gd_t nD, mk, m6, mx, m144, my, mz, if_pos hb, if_pos tlt, e1, bd_s, l1_s, m6c, nI_1, ga, gb, xa, xb, r1, rn, gdT]
      · refine ⟨ν, ?_, hIV⟩
        unfold f_L_lets
        simp only [i9_9, i9_0, ix9, ix0, g0, g9, if_neg nC, gd_t nC, gd_t nD, mk, m6, mx, m144, my, mz, if_pos hb, if_pos tlt, e1, bd_s, l1_s]
    · have tlt : ¬ nI (x + z) < nI D := by rw [ltN (by omega) (by omega)]; exact ty
      have q1 := x_rents1 hcr hc hx (y := x + z) (by omega) (by omega)
      refine ⟨ν, ?_, hIV⟩
      by_cases x0 : x = 0
      · unfold f_L_lets
        simp only [i9_9, i9_0, ix9, ix0, g0, g9, if_neg nC, gd_t nC, gd_t nD, mk, m6, mx, m144, my, mz, if_pos hb, if_neg tlt, q1, bd_s, l1_s, gdT, if_pos (show nI x = 0 by rw [x0]; rfl)]
      · have q2 := x_rents2 hcr hc hx (y := x - 1) (by omega)
        have m1 : nI x - 1 = nI (x - 1) := pk_sub (a := x) (b := 1) (by omega)
        unfold f_L_lets
        simp only [i9_9, i9_0, ix9, ix0, g0, g9, if_neg nC, gd_t nC, gd_t nD, mk, m6, mx, m144, my, mz, if_pos hb, if_neg tlt, q1, bd_s, l1_s, gdT, if_neg (ne0 x0 (show x < 1000 by omega)), m1, q2]
  · by_cases t : RW ν (146 + 6 * c) = -1
    · have q1 := x_ends3 hcr hc t
      refine ⟨ν, ?_, hIV⟩
      unfold f_L_lets
      simp only [i9_9, ix9, g9, if_neg nC, gd_t nC, mk, if_neg hb, m6c, ga, xa, c0, t, if_neg (show ¬ (0 : Int32) ≤ -1 by decide), q1, bd_s, l1_s, gdT]
    · obtain ⟨a, ha, ea⟩ : ∃ a, a < 1000 ∧ RW ν (146 + 6 * c) = nI a := by
        rcases wf_rn hw c hc with e | e
        · exact absurd e t
        · exact e
      have p0 : (0 : Int32) ≤ RW ν (146 + 6 * c) := by
        rw [ea]
        exact nI_le (a := 0) (by omega) (by omega)
      obtain ⟨gg, gx, gy, fl, z141⟩ := pt_RW (ν := ν) (c := c) (x := -1) (y := -1)
      obtain ⟨ν2, r1, r2, r3⟩ := o_ends (hcr.law fl) (hsv.law fl) hc t gg gx gy
      refine ⟨ν2, ?_, IV.fin r2 r3 (txt_law htx fl) (pt_sold (by omega) gg hso) (fun d d1 d2 => by rw [z141]; exact hz d d1 d2)⟩
      unfold f_L_lets
      simp only [i9_9, ix9, g9, if_neg nC, gd_t nC, mk, if_neg hb, m6c, nI_1, ga, gb, xa, xb, c0, c1, if_pos p0, r1, bd_s, l1_s, gdT]
end PureLets
