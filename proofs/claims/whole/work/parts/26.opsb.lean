/-! PURE: settings, rows, customers -/
section PureN
def loN (j : Nat) : Nat := ([0, 10, 0, 1, 0, 0, 1] : List Nat).getD j 0
def hiN (j : Nat) : Nat := ([30, 90, 9999, 100, 8, 20, 100] : List Nat).getD j 0
def PS (f : Nat → Int32) : Prop := ∀ j, j < 7 → bnd (f (1 + j)) (loN j) (hiN j)
theorem WF.ps {f : Nat → Int32} {D L C : Nat} (h : WF f D L C) : PS f := fun j hj => by
  obtain ⟨b1, b2, b3, b4, b5, b6, b7⟩ := h.2.2.2.1
  rcases (show j = 0 ∨ j = 1 ∨ j = 2 ∨ j = 3 ∨ j = 4 ∨ j = 5 ∨ j = 6 by omega) with rfl | rfl | rfl | rfl | rfl | rfl | rfl
  · exact b1
  · exact b2
  · exact b3
  · exact b4
  · exact b5
  · exact b6
  · exact b7
theorem bnd_of {v : Int32} {lo hi : Nat} (hh : hi < 100000) (h1 : ¬ v < nI lo) (hl : lo < 100000) (h2 : ¬ nI hi < v) : bnd v lo hi := by
  have h0 : ¬ v < 0 := fun q => h1 (Int32.lt_of_lt_of_le q (nI_pos' (by omega)))
  obtain ⟨j, hj, rfl⟩ := nI_of h0
  rw [ltN (by omega) (by omega)] at h1 h2
  exact ⟨j, by omega, by omega, rfl⟩
theorem set_tab : ∀ j, j < 7 → (f_X8_least (nI j) = some (nI (loN j)) ∧ f_X8_most (nI j) = some (nI (hiN j))) ∧ ((sA 0).getD j 0 = nI (loN j) ∧ (sA 1).getD j 0 = nI (hiN j)) ∧ loN j < 100000 ∧ hiN j < 100000 := by decide +kernel
theorem WF.sets {f g : Nat → Int32} {D L C : Nat} (h : WF f D L C) (e : ∀ j, j < 182 → (j = 0 ∨ 8 ≤ j) → g j = f j) (hp : PS g) : WF g D L C := by
  obtain ⟨⟨h1, h1'⟩, ⟨h2, h2'⟩, ⟨h3, h3'⟩, h4, h5, h6, h7, h8, h9, h10⟩ := h
  refine ⟨⟨by rw [e _ (by omega) (by omega)]; exact h1, h1'⟩, ⟨by rw [e _ (by omega) (by omega)]; exact h2, h2'⟩, ⟨by rw [e _ (by omega) (by omega)]; exact h3, h3'⟩, ⟨hp 0 (by omega), hp 1 (by omega), hp 2 (by omega), hp 3 (by omega), hp 4 (by omega), hp 5 (by omega), hp 6 (by omega)⟩, fun d hd => by rw [e _ (by omega) (by omega), e _ (by omega) (by omega)]; exact h5 d hd, PLb.cong h2' (fun l r _ _ => e _ (by omega) (by omega)) h6, PRn.cong h3' (fun k j _ _ => e _ (by omega) (by omega)) h7, PDj.cong h3' (fun k j _ _ => e _ (by omega) (by omega)) h8, ?_, ?_⟩
  · rw [sumL.cong (fun l _ => e _ (by omega) (by omega)) L h2', e 11 (by omega) (by omega)]
    exact h9
  · rw [sumL.cong (fun l _ => e _ (by omega) (by omega)) L h2', e 12 (by omega) (by omega)]
    exact h10
theorem o_set {D L C : Nat} {μ η : Mm} (h : CR D L C μ η) (a b : Int32) : OP D L C η [(2, 1)] (f_X5_whyNotChangeSetting KF μ 9 a b) (fun ν => f_X5_changeSetting KF ν 9 a b) (f_X8_set KF η 139 a b) := by
  have bad : ∀ {x : Option Int32}, x = some 2 → f_X8_set KF η 139 a b = some (0, sI η 139 7 (nI 1)) → OP D L C η [(2, 1)] x (fun ν => f_X5_changeSetting KF ν 9 a b) (f_X8_set KF η 139 a b) := fun h1 h2 => Or.inl ⟨(2, 1), List.mem_singleton.mpr rfl, h1, h2⟩
  rcases pk_ix a (n := 7) (by omega) with q | q | ⟨j, hj, rfl⟩
  · refine bad ?_ ?_
    · unfold f_X5_whyNotChangeSetting
      rw [if_pos q]
    · unfold f_X8_set
      rw [in_lo q, bd_s, i00, th1, bd_s, l1_s, l1_s, i10]
  · refine bad ?_ ?_
    · unfold f_X5_whyNotChangeSetting
      rw [if_neg (show ¬ a < 0 from fun q' => nI_pos (n := 7) (by omega) (Int32.lt_of_le_of_lt q q')), if_neg (show ¬ a < 7 from Int32.not_lt.mpr q)]
    · unfold f_X8_set
      rw [in_hi (show (6 : Int32) < a from Int32.lt_of_lt_of_le (by decide) q), bd_s, i00, th1, bd_s, l1_s, l1_s, i10]
  · obtain ⟨⟨t1, t2⟩, ⟨t3, t4⟩, t5, t6⟩ := set_tab j hj
    have n0 : ¬ nI j < 0 := nI_pos (by omega)
    have n7 : nI j < 7 := nI_lt (b := 7) hj (by omega)
    have hin : f_X8_in (nI j) 0 6 = some 1 := in_in n0 (nI_nlt (a := 6) (by omega) (by omega))
    have ew : f_X5_whyNotChangeSetting KF μ 9 (nI j) b = if b < nI (loN j) then some 2 else some (if b ≤ nI (hiN j) then 0 else 2) := by
      unfold f_X5_whyNotChangeSetting
      rw [if_neg n0, if_pos n7]
      simp (disch := omega) only [show (sA 0).length = 7 from rfl, show (sA 1).length = 7 from rfl, gd_n, ix_n, t3, t4, l1_s]
    by_cases q1 : b < nI (loN j)
    · refine bad (by rw [ew, if_pos q1]) ?_
      unfold f_X8_set
      rw [hin, bd_s, i10, t1, bd_s, t2, bd_s, in_lo q1, bd_s, i00, l1_s, th1, bd_s, l1_s, l1_s, i10]
    · by_cases q2 : nI (hiN j) < b
      · refine bad (by rw [ew, if_neg q1, if_neg (Int32.not_le.mpr q2)]) ?_
        unfold f_X8_set
        rw [hin, bd_s, i10, t1, bd_s, t2, bd_s, in_hi q2, bd_s, i00, l1_s, th1, bd_s, l1_s, l1_s, i10]
      · refine Or.inr ⟨by rw [ew, if_neg q1, if_pos (Int32.not_lt.mp q2)], fun μ1 η1 h1 hs _ => ?_⟩
        obtain ⟨hR, hR2, hc, hwf⟩ := h1
        have hwf0 := hwf
        have es : μ1.1 14 j = η1.1 140 (1 + j) := cpl_set hc hj
        have hb := bnd_of t6 q1 t5 q2
        have hps := hwf.ps
        have gg : ∀ i, i ≠ 1 + j → (sI η1 140 (1 + j) b).1 140 i = η1.1 140 i := fun i hi => sI_of hi
        refine ⟨η1.1 140 (1 + j), sI μ1 14 j b, sI η1 140 (1 + j) b, D, L, C, ?_, ?_, ⟨hR, hR2, ⟨?_, fun x hx => ?_, fun i hi => ?_, ?_, fun l hl => ?_, fun l hl hl' => ?_, fun k hk i hi => ?_, fun k hk hk' => ?_⟩, hwf.sets (fun i hi hi' => gg i (by omega)) (fun i hi => ?_)⟩, FrI.rfl.sI (by constructor <;> omega), FrI.rfl.sI (Or.inl rfl), bnd0 (hps j hj) (by omega)⟩
        · show f_X5_changeSetting KF μ1 9 (nI j) b = _
          unfold f_X5_changeSetting
          simp (disch := omega) only [r_92 hR, bd_s, l1_s, K14, gd_n, ix_n, es]
        · unfold f_X8_set
          rw [hin, bd_s, i10, t1, bd_s, t2, bd_s, in_in q1 q2, bd_s, i10, l1_s, th0, bd_s, l1_s, l1_s, i00, hs, bd_s]
          simp (disch := omega) only [r_m0 hR2, bd_s, l1_s, L1, nI_add, K140, gd_n, ix_n]
        · simp (disch := omega) only [sI_no, gg]
          exact hc.1
        · simp (disch := omega) only [sI_no, gg]
          exact hc.2.1 x hx
        · by_cases e : i = j
          · subst e
            show (sI μ1 14 i b).1 14 i = _
            rw [sI_at, sI_at]
          · show (sI μ1 14 j b).1 14 i = _
            rw [sI_of e, gg _ (by omega)]
            exact hc.2.2.1 i hi
        · simp (disch := omega) only [sI_no, gg]
          exact hc.2.2.2.1
        · simp (disch := omega) only [sI_no]
          exact ⟨by simp (disch := omega) only [gg]; exact (hc.2.2.2.2.1 l hl).1, fun r hr => by rw [gg _ (by omega)]; exact (hc.2.2.2.2.1 l hl).2 r hr⟩
        · simp (disch := omega) only [sI_no]
          exact hc.2.2.2.2.2.1 l hl hl'
        · simp (disch := omega) only [sI_no, gg]
          exact hc.2.2.2.2.2.2.1 k hk i hi
        · simp (disch := omega) only [sI_no]
          exact hc.2.2.2.2.2.2.2 k hk hk'
        · by_cases e : i = j
          · subst e
            rw [sI_at]
            exact hb
          · rw [gg _ (by omega)]
            exact hps i hi
theorem cols : ∀ w, w ≤ 12 → ((1 : Int32) <<< (nI w &&& 31)) - 1 = nI (2 ^ w - 1) := by decide +kernel
theorem has_lt {a : Int32} {n : Nat} (hn : n < 1000) (h : has a n = 0) : a < 0 ∨ (¬ a < 0 ∧ nI n ≤ a) := by
  rcases has_no h with q | q
  · exact Or.inl q
  · by_cases q' : a < 0
    · exact Or.inl q'
    · exact Or.inr ⟨q', q⟩
theorem Cpl.cus {μ μ' : Mm} {f g : Nat → Int32} {D L C C' : Nat} (h : Cpl μ 9 f D L C) (hD : D ≤ 24 ∧ L ≤ 6) (e : ∀ a, 10 ≤ a → a ≤ 28 → μ'.1 a = μ.1 a) (e9 : μ'.1 9 4 = μ.1 9 4 ∧ μ'.1 9 7 = μ.1 9 7) (eg : ∀ j, j < 146 → j ≠ 9 → g j = f j) (hc : μ'.1 9 6 = g 9)
    (h1 : ∀ k, k < C' → ∀ j, j < 6 → μ'.1 (29 + k) j = g (146 + 6 * k + j)) (h2 : ∀ k, C' ≤ k → k < 6 → μ'.1 (29 + k) 0 = -1 ∧ μ'.1 (29 + k) 1 = -1 ∧ ∀ j, 2 ≤ j → j < 6 → μ'.1 (29 + k) j = 0) : Cpl μ' 9 g D L C' := by
  obtain ⟨p1, p2, p3, p4, p5, p6, -, -⟩ := h
  refine ⟨?_, fun d hd => ?_, fun j hj => ?_, ⟨?_, hc, ?_⟩, fun l hl => ?_, fun l hl hl' => ?_, h1, h2⟩
  · rw [e _ (by omega) (by omega), eg _ (by omega) (by omega), eg _ (by omega) (by omega)]
    exact p1
  · rw [e (9 + 2) (by omega) (by omega), e (9 + 3) (by omega) (by omega), e (9 + 4) (by omega) (by omega), eg _ (by omega) (by omega), eg _ (by omega) (by omega), eg _ (by omega) (by omega)]
    exact p2 d hd
  · rw [e _ (by omega) (by omega), eg _ (by omega) (by omega)]
    exact p3 j hj
  · rw [e9.1, eg _ (by omega) (by omega)]
    exact p4.1
  · rw [e9.2, eg _ (by omega) (by omega)]
    exact p4.2.2
  · rw [e (9 + 8 + 2 * l) (by omega) (by omega), e (9 + 9 + 2 * l) (by omega) (by omega), eg _ (by omega) (by omega), eg _ (by omega) (by omega), eg _ (by omega) (by omega), eg _ (by omega) (by omega)]
    exact ⟨(p5 l hl).1, fun r hr => by rw [eg _ (by omega) (by omega)]; exact (p5 l hl).2 r hr⟩
  · rw [e (9 + 8 + 2 * l) (by omega) (by omega), e (9 + 9 + 2 * l) (by omega) (by omega)]
    exact p6 l hl hl'
theorem Cpl.lab {μ μ' : Mm} {f g : Nat → Int32} {D L L' C : Nat} (h : Cpl μ 9 f D L C) (hD : D ≤ 24 ∧ C ≤ 6) (e : ∀ a, (10 ≤ a ∧ a ≤ 16 ∨ 29 ≤ a ∧ a ≤ 34) → μ'.1 a = μ.1 a) (e9 : μ'.1 9 6 = μ.1 9 6 ∧ μ'.1 9 7 = μ.1 9 7) (eg : ∀ j, j < 182 → (j < 86 ∨ 146 ≤ j) → j ≠ 8 → j ≠ 11 → j ≠ 12 → g j = f j) (hl : μ'.1 9 4 = g 8)
    (h1 : ∀ l, l < L' → (μ'.1 (17 + 2 * l) 0 = g (86 + 10 * l) ∧ μ'.1 (17 + 2 * l) 1 = g (86 + 10 * l + 1) ∧ μ'.1 (17 + 2 * l) 2 = g (86 + 10 * l + 8) ∧ μ'.1 (17 + 2 * l) 3 = g (86 + 10 * l + 9)) ∧ ∀ r, r < 6 → μ'.1 (18 + 2 * l) r = g (86 + 10 * l + (2 + r)))
    (h2 : ∀ l, L' ≤ l → l < 6 → (μ'.1 (17 + 2 * l) 2 = 0 ∧ μ'.1 (17 + 2 * l) 3 = 0) ∧ ∀ r, r < 6 → μ'.1 (18 + 2 * l) r = 0) : Cpl μ' 9 g D L' C := by
  obtain ⟨p1, p2, p3, p4, -, -, p7, p8⟩ := h
  refine ⟨?_, fun d hd => ?_, fun j hj => ?_, ⟨hl, ?_, ?_⟩, h1, h2, fun k hk j hj => ?_, fun k hk hk' => ?_⟩
  · rw [e _ (by omega), eg _ (by omega) (by omega) (by omega) (by omega) (by omega), eg _ (by omega) (by omega) (by omega) (by omega) (by omega)]
    exact p1
  · rw [e (9 + 2) (by omega), e (9 + 3) (by omega), e (9 + 4) (by omega), eg _ (by omega) (by omega) (by omega) (by omega) (by omega), eg _ (by omega) (by omega) (by omega) (by omega) (by omega), eg _ (by omega) (by omega) (by omega) (by omega) (by omega)]
    exact p2 d hd
  · rw [e _ (by omega), eg _ (by omega) (by omega) (by omega) (by omega) (by omega)]
    exact p3 j hj
  · rw [e9.1, eg _ (by omega) (by omega) (by omega) (by omega) (by omega)]
    exact p4.2.1
  · rw [e9.2, eg _ (by omega) (by omega) (by omega) (by omega) (by omega)]
    exact p4.2.2
  · rw [e _ (by omega), eg _ (by omega) (by omega) (by omega) (by omega) (by omega)]
    exact p7 k hk j hj
  · rw [e (9 + 20 + k) (by omega)]
    exact p8 k hk hk'
theorem WF.cus {f g : Nat → Int32} {D L C C' : Nat} (h : WF f D L C) (e : ∀ j, j < 146 → j ≠ 9 → g j = f j) (e9 : g 9 = nI C') (hC : C' ≤ 6) (h1 : PRn g D C') (h2 : PDj g D C') : WF g D L C' := by
  obtain ⟨⟨p1, p1'⟩, ⟨p2, p2'⟩, -, p4, p5, p6, -, -, p9, p10⟩ := h
  refine ⟨⟨by rw [e _ (by omega) (by omega)]; exact p1, p1'⟩, ⟨by rw [e _ (by omega) (by omega)]; exact p2, p2'⟩, ⟨e9, hC⟩, ?_, fun d hd => by rw [e _ (by omega) (by omega), e _ (by omega) (by omega)]; exact p5 d hd, PLb.cong p2' (fun l r _ _ => e _ (by omega) (by omega)) p6, h1, h2, ?_, ?_⟩
  · rw [e 1 (by omega) (by omega), e 2 (by omega) (by omega), e 3 (by omega) (by omega), e 4 (by omega) (by omega), e 5 (by omega) (by omega), e 6 (by omega) (by omega), e 7 (by omega) (by omega)]
    exact p4
  · rw [sumL.cong (fun l _ => e _ (by omega) (by omega)) L p2', e 11 (by omega) (by omega)]
    exact p9
  · rw [sumL.cong (fun l _ => e _ (by omega) (by omega)) L p2', e 12 (by omega) (by omega)]
    exact p10
theorem WF.lab {f g : Nat → Int32} {D L L' C : Nat} (h : WF f D L C) (e : ∀ j, j < 182 → (j < 86 ∨ 146 ≤ j) → j ≠ 8 → j ≠ 11 → j ≠ 12 → g j = f j) (e8 : g 8 = nI L') (hL : L' ≤ 6) (h1 : PLb g L') (h2 : sumL g 8 L' = g 11) (h3 : sumL g 9 L' = g 12) : WF g D L' C := by
  obtain ⟨⟨p1, p1'⟩, -, ⟨p3, p3'⟩, p4, p5, -, p7, p8, -, -⟩ := h
  refine ⟨⟨by rw [e _ (by omega) (by omega) (by omega) (by omega) (by omega)]; exact p1, p1'⟩, ⟨e8, hL⟩, ⟨by rw [e _ (by omega) (by omega) (by omega) (by omega) (by omega)]; exact p3, p3'⟩, ?_, fun d hd => by rw [e _ (by omega) (by omega) (by omega) (by omega) (by omega), e _ (by omega) (by omega) (by omega) (by omega) (by omega)]; exact p5 d hd, h1, PRn.cong p3' (fun k j _ _ => e _ (by omega) (by omega) (by omega) (by omega) (by omega)) p7, PDj.cong p3' (fun k j _ _ => e _ (by omega) (by omega) (by omega) (by omega) (by omega)) p8, h2, h3⟩
  rw [e 1 (by omega) (by omega) (by omega) (by omega) (by omega), e 2 (by omega) (by omega) (by omega) (by omega) (by omega), e 3 (by omega) (by omega) (by omega) (by omega) (by omega), e 4 (by omega) (by omega) (by omega) (by omega) (by omega), e 5 (by omega) (by omega) (by omega) (by omega) (by omega), e 6 (by omega) (by omega) (by omega) (by omega) (by omega), e 7 (by omega) (by omega) (by omega) (by omega) (by omega)]
  exact p4
end PureN
