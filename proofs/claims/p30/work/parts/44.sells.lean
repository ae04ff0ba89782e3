/-! PURE: what holds between two acts; the law's sales -/
section PureSells
def IV (ν : Mm) : Prop := ∃ D L C, CR D L C ν (RW ν) ∧ SVL ν ∧ ν.1 1 1 = 0 ∧ Sm (soldT (RW ν)) C = RW ν 11 ∧ ∀ d, D ≤ d → d < 24 → ν.1 141 d = 0
theorem IV.fin {D L C : Nat} {ν1 ν2 : Mm} (h : CR D L C ν2 (RW ν1)) (g : GR ν1 ν2) (t : ν1.1 1 1 = 0) (s : Sm (soldT (RW ν1)) C = RW ν1 11) (z : ∀ d, D ≤ d → d < 24 → ν1.1 141 d = 0) : IV ν2 := by
  have e := RW_same g.2.1
  refine ⟨D, L, C, ?_, g.1, ?_, ?_, fun d h1 h2 => ?_⟩
  · rw [e]; exact h
  · rw [g.2.2]; exact t
  · rw [e]; exact s
  · rw [g.2.1 141 (by omega)]; exact z d h1 h2
theorem i9_8 {α : Type} {k : Option α} : gd (inb 8 (KF 139).2) k = k := by rw [K139]; exact gd_t (by decide)
theorem i9_9 {α : Type} {k : Option α} : gd (inb 9 (KF 139).2) k = k := by rw [K139]; exact gd_t (by decide)
theorem i9_0 {α : Type} {k : Option α} : gd (inb 0 (KF 139).2) k = k := by rw [K139]; exact gd_t (by decide)
theorem i9_1 {α : Type} {k : Option α} : gd (inb 1 (KF 139).2) k = k := by rw [K139]; exact gd_t (by decide)
theorem i9_13 {α : Type} {k : Option α} : gd (inb 13 (KF 139).2) k = k := by rw [K139]; exact gd_t (by decide)
theorem ix0 : ix 0 = 0 := rfl
theorem ix1 : ix 1 = 1 := rfl
theorem ix8 : ix 8 = 8 := rfl
theorem ix9 : ix 9 = 9 := rfl
theorem ix13 : ix 13 = 13 := rfl
theorem ne0 {n : Nat} (h : n ≠ 0) (hn : n < 1000) : ¬ nI n = 0 := nI_ne0 (by omega) (by omega)
theorem gdx {α : Type} {c : Prop} [Decidable c] {k : Option α} (h : c) : gd c k = k := gd_t h
/-- what a print leaves of the sums -/
theorem PRT.sold {f g : Nat → Int32} {D C c l : Nat} {s : QQ} {p x : Int32} (h : PRT f g D c l s p x) (hD : D ≤ 24) (hC : C ≤ 6) (hc : c < C) (hl : l < 6) (e : Sm (soldT f) C = f 11) : Sm (soldT g) C = g 11 := by
  obtain ⟨-, -, ⟨-, -, v4, -⟩, -, ⟨v11, -⟩, go⟩ := h
  have key : ∀ n, n ≤ C → Sm (soldT g) n = Sm (soldT f) n + (if c < n then 1 else 0) := by
    intro n
    induction n with
    | zero =>
      intro _
      rw [if_neg (Nat.not_lt_zero c)]
      exact (Int32.add_zero _).symm
    | succ n ih =>
      intro hn
      show Sm (soldT g) n + soldT g n = Sm (soldT f) n + soldT f n + _
      rw [ih (by omega)]
      by_cases e : n = c
      · subst e
        rw [if_neg (Nat.lt_irrefl n), if_pos (Nat.lt_succ_self n), Int32.add_zero, show soldT g n = soldT f n + 1 from v4, Int32.add_assoc]
      · have e1 : soldT g n = soldT f n := go _ (by omega) (by omega) (by omega) (by omega) (by omega) (by omega) (by omega) (by omega) (by omega)
        rw [e1]
        by_cases t : c < n
        · rw [if_pos t, if_pos (by omega)]
          exact arc _ _ _
        · rw [if_neg t, if_neg (by omega), Int32.add_zero, Int32.add_zero]
  rw [key C (Nat.le_refl C), if_pos hc, e, v11]
theorem le0_iff {x : Int32} (h : x = 0 ∨ 0 < x) : (x ≤ 0) = (x = 0) := propext ⟨fun q => by
  rcases h with h | h
  · exact h
  · exact absurd (Int32.lt_of_lt_of_le h q) (Int32.lt_irrefl), fun q => by rw [q]; decide⟩
theorem l_sells {ν : Mm} (h : IV ν) {v : Nat} (hv : v < 10000000) (b : Int32) : ∃ ν', f_L_sells KF ν 0 139 140 141 142 143 144 (nI v) b = some (1, ν') ∧ IV ν' := by
  obtain ⟨D, L, C, hcr, hsv, htx, hso, hz⟩ := h
  have hr := LR_RW ν
  have hw := hcr.2.2
  have hD := hw.1
  have hL := hw.2.1
  have hC := hw.2.2.1
  have g0 : ν.1 139 0 = nI D := (hr.1 0 (by omega)).trans hD.1
  have g8 : ν.1 139 8 = nI L := (hr.1 8 (by omega)).trans hL.1
  have g9 : ν.1 139 9 = nI C := (hr.1 9 (by omega)).trans hC.1
  have hIV : IV ν := ⟨D, L, C, hcr, hsv, htx, hso, hz⟩
  have q1 := x_prints1 hcr
  by_cases cL : L = 0
  · have q2 := x_bests1 hcr (Or.inl cL)
    refine ⟨ν, ?_, hIV⟩
    unfold f_L_sells
    simp only [i9_8, i9_9, ix8, ix9, g8, g9, if_pos (show nI L = 0 by rw [cL]; rfl), q1, q2, bd_s, l1_s, gdT]
  by_cases cC : C = 0
  · have q2 := x_bests1 hcr (Or.inr cC)
    refine ⟨ν, ?_, hIV⟩
    unfold f_L_sells
    simp only [i9_8, i9_9, ix8, ix9, g8, g9, if_neg (ne0 cL (show L < 1000 by omega)), if_pos (show nI C = 0 by rw [cC]; rfl), q1, q2, bd_s, l1_s, gdT]
  have nL := ne0 cL (show L < 1000 by omega)
  have nC := ne0 cC (show C < 1000 by omega)
  have hc : v % C < C := Nat.mod_lt _ (by omega)
  have hl : v / 6 % L < L := Nat.mod_lt _ (by omega)
  have mk : nI v - nI v / nI C * nI C = nI (v % C) := pk_rem (by omega) (by omega) (by omega)
  have m6 : nI v / 6 = nI (v / 6) := pk_div (a := v) (d := 6) (by omega) (by omega) (by omega)
  have m36 : nI v / 36 = nI (v / 36) := pk_div (a := v) (d := 36) (by omega) (by omega) (by omega)
  have m5 : nI v - nI v / 5 * 5 = nI (v % 5) := pk_rem (a := v) (d := 5) (by omega) (by omega) (by omega)
  have ml : nI (v / 6) - nI (v / 6) / nI L * nI L = nI (v / 6 % L) := pk_rem (by omega) (by omega) (by omega)
  generalize ec : v % C = c at hc mk
  generalize el : v / 6 % L = l at hl ml
  obtain ⟨w, hw1, hw2, ew⟩ := wf_lab hw hl
  by_cases hb : b = 0
  · obtain ⟨W, hW1, hW2, eW⟩ : ∃ W, 1 ≤ W ∧ W ≤ 24 ∧ (if nI (v % 5) = 0 then (some 24 : Option Int32) else some (nI D)) = some (nI W) := by
      by_cases t : v % 5 = 0
      · exact ⟨24, by omega, by omega, by rw [if_pos (by rw [t]; rfl)]; rfl⟩
      · exact ⟨D, by omega, by omega, by rw [if_neg (ne0 t (by omega))]⟩
    have nW := ne0 (n := W) (by omega) (by omega)
    have mo : nI (v / 36) - nI (v / 36) / nI W * nI W = nI (v / 36 % W) := pk_rem (by omega) (by omega) (by omega)
    have ho : v / 36 % W < 24 := Nat.lt_of_lt_of_le (Nat.mod_lt _ (by omega)) hW2
    generalize eo : v / 36 % W = o at mo ho
    have ewhy := l_why hr hw hc hl ho ew hw1 hw2
    have hyp := whyV_p (f := RW ν) (D := D) (C := C) (c := c) (l := l) (o := o) (w := w)
    by_cases t : whyV (RW ν) D C c l o w = 0
    · obtain ⟨how, -, -⟩ := whyV_0 t
      obtain ⟨ν1, p1, p2, p3, p4⟩ := l_printed hw hc hl ho ew hw1 hw2 how
      obtain ⟨ν2, r1, r2, r3⟩ := o_prints (hcr.law p2) (hsv.law p2) hc hl ho ew hw1 hw2 t p3
      refine ⟨ν2, ?_, IV.fin r2 r3 (txt_law htx p2) (p3.sold (by omega) (by omega) hc (by omega) hso) (fun d d1 d2 => (p4 d d1).trans (hz d d1 d2))⟩
      unfold f_L_sells
      simp only [i9_8, i9_9, i9_0, ix8, ix9, ix0, g0, g8, g9, if_neg nL, if_neg nC, gd_t nC, gd_t nL, gd_t nW, mk, m6, ml, m5, m36, if_pos hb, eW, mo, ewhy, bd_s, l1_s, t, if_pos (show (0 : Int32) ≤ 0 by decide), p1, r1, gdT]
    · have x3 := x_prints3 hcr hc hl ho ew hw1 hw2 t
      have x2 := x_prints2 hcr hc hl
      refine ⟨ν, ?_, hIV⟩
      have nt : ¬ whyV (RW ν) D C c l o w ≤ 0 := by rw [le0_iff hyp]; exact t
      unfold f_L_sells
      simp only [i9_8, i9_9, i9_0, ix8, ix9, ix0, g0, g8, g9, if_neg nL, if_neg nC, gd_t nC, gd_t nL, gd_t nW, mk, m6, ml, m5, m36, if_pos hb, eW, mo, ewhy, bd_s, l1_s, if_neg nt, x3, x2, gdT]
  · obtain ⟨a, b1, b2⟩ := l_best hr hw hc hl ew hw1 hw2
    rcases b2 with ⟨ea, hn⟩ | ⟨o, ho, -, ea, t, b5, b6⟩
    · subst ea
      obtain ⟨ν2, r1, r2, r3⟩ := x_bests3 hcr hsv hc hl ew hw1 hw2 (Or.inl ⟨rfl, hn⟩)
      refine ⟨ν2, ?_, IV.fin r2 r3 htx hso hz⟩
      unfold f_L_sells
      simp only [i9_8, i9_9, i9_0, ix8, ix9, ix0, g0, g8, g9, if_neg nL, if_neg nC, gd_t nC, gd_t nL, mk, m6, ml, if_neg hb, b1, bd_s, l1_s, if_neg (show ¬ (0 : Int32) ≤ -1 by decide), r1, gdT]
    · subst ea
      obtain ⟨how, -, -⟩ := whyV_0 t
      obtain ⟨ν1, p1, p2, p3, p4⟩ := l_printed hw hc hl ho ew hw1 hw2 how
      obtain ⟨ν2, r1, r2, r3⟩ := o_bests (hcr.law p2) (hsv.law p2) hc hl ho ew hw1 hw2 (Or.inr ⟨o, ho, trivial, rfl, t, b5, b6⟩) t p3
      have bl : badN (RW ν) l o ≤ 72 := by
        obtain ⟨hN, -, -, -⟩ := prP_ok hw hl
        rcases PL_q (P := prP (RW ν) l) (o := o) (s := stQ (RW ν)) 6 with g | g
        · have : qb (stQ (RW ν)) = 0 := rfl
          show qb (PL (prP (RW ν) l) o 6 (stQ (RW ν))) ≤ 72
          omega
        · have := hN.2.2.1.2
          omega
      have nb : ¬ nI (badN (RW ν) l o) < 0 := nI_pos (by omega)
      refine ⟨ν2, ?_, IV.fin r2 r3 (txt_law htx p2) (p3.sold (by omega) (by omega) hc (by omega) hso) (fun d d1 d2 => (p4 d d1).trans (hz d d1 d2))⟩
      unfold f_L_sells
      simp only [i9_8, i9_9, i9_0, ix8, ix9, ix0, g0, g8, g9, if_neg nL, if_neg nC, gd_t nC, gd_t nL, mk, m6, ml, if_neg hb, b1, bd_s, l1_s, if_pos (show (0 : Int32) ≤ nI o from nI_le (a := 0) (by omega) (by omega)), p1, gd_t nb, r1, gdT]
end PureSells
