/-! PURE: the law's rows as one row; what a wish of the class does to the row -/
section PureRW
def RW (ν : Mm) (j : Nat) : Int32 := if j < 14 then ν.1 139 j else if j < 86 then (if (j - 14) % 3 = 0 then ν.1 140 ((j - 14) / 3) else if (j - 14) % 3 = 1 then ν.1 141 ((j - 14) / 3) else ν.1 142 ((j - 14) / 3)) else if j < 146 then ν.1 143 (j - 86) else ν.1 144 (j - 146)
theorem RW_g {ν : Mm} {j : Nat} (h : j < 14) : RW ν j = ν.1 139 j := if_pos h
theorem RW_e {ν : Mm} {d : Nat} (h : d < 24) : RW ν (14 + 3 * d) = ν.1 140 d := by
  unfold RW
  rw [if_neg (by omega), if_pos (by omega), if_pos (by omega), show (14 + 3 * d - 14) / 3 = d by omega]
theorem RW_y {ν : Mm} {d : Nat} (h : d < 24) : RW ν (14 + 3 * d + 1) = ν.1 141 d := by
  unfold RW
  rw [if_neg (by omega), if_pos (by omega), if_neg (by omega), if_pos (by omega), show (14 + 3 * d + 1 - 14) / 3 = d by omega]
theorem RW_u {ν : Mm} {d : Nat} (h : d < 24) : RW ν (14 + 3 * d + 2) = ν.1 142 d := by
  unfold RW
  rw [if_neg (by omega), if_pos (by omega), if_neg (by omega), if_neg (by omega), show (14 + 3 * d + 2 - 14) / 3 = d by omega]
theorem RW_l {ν : Mm} {j : Nat} (h : j < 60) : RW ν (86 + j) = ν.1 143 j := by
  unfold RW
  rw [if_neg (by omega), if_neg (by omega), if_pos (by omega), Nat.add_sub_cancel_left]
theorem RW_c {ν : Mm} {j : Nat} : RW ν (146 + j) = ν.1 144 j := by
  unfold RW
  rw [if_neg (by omega), if_neg (by omega), if_neg (by omega), Nat.add_sub_cancel_left]
theorem LR_RW (ν : Mm) : LR ν (RW ν) := ⟨fun _ h => (RW_g h).symm, fun _ h => ⟨(RW_e h).symm, (RW_y h).symm, (RW_u h).symm⟩, fun _ h => (RW_l h).symm, fun _ _ => RW_c.symm⟩
theorem RW_eq {ν ν' : Mm} {j : Nat} (h0 : j < 14 → ν'.1 139 j = ν.1 139 j) (h1 : ∀ d, d < 24 → j = 14 + 3 * d → ν'.1 140 d = ν.1 140 d) (h2 : ∀ d, d < 24 → j = 14 + 3 * d + 1 → ν'.1 141 d = ν.1 141 d) (h3 : ∀ d, d < 24 → j = 14 + 3 * d + 2 → ν'.1 142 d = ν.1 142 d)
    (h4 : ∀ i, i < 60 → j = 86 + i → ν'.1 143 i = ν.1 143 i) (h5 : ∀ i, j = 146 + i → ν'.1 144 i = ν.1 144 i) : RW ν' j = RW ν j := by
  by_cases a : j < 14
  · rw [RW_g a, RW_g a, h0 a]
  by_cases b : j < 86
  · rcases (show j = 14 + 3 * ((j - 14) / 3) ∨ j = 14 + 3 * ((j - 14) / 3) + 1 ∨ j = 14 + 3 * ((j - 14) / 3) + 2 by omega) with e | e | e
    · rw [e, RW_e (by omega), RW_e (by omega)]
      exact h1 _ (by omega) e
    · rw [e, RW_y (by omega), RW_y (by omega)]
      exact h2 _ (by omega) e
    · rw [e, RW_u (by omega), RW_u (by omega)]
      exact h3 _ (by omega) e
  by_cases c : j < 146
  · rw [show j = 86 + (j - 86) by omega, RW_l (by omega), RW_l (by omega)]
    exact h4 _ (by omega) (by omega)
  · rw [show j = 146 + (j - 146) by omega, RW_c, RW_c]
    exact h5 _ (by omega)
theorem RW_same {ν ν' : Mm} (h : ∀ a, 139 ≤ a → ν'.1 a = ν.1 a) : RW ν' = RW ν := by
  funext j
  exact RW_eq (fun _ => by rw [h 139 (by omega)]) (fun _ _ _ => by rw [h 140 (by omega)]) (fun _ _ _ => by rw [h 141 (by omega)]) (fun _ _ _ => by rw [h 142 (by omega)]) (fun _ _ _ => by rw [h 143 (by omega)]) (fun _ _ => by rw [h 144 (by omega)])
/-- the law writes its own rows: the class's state stays -/
def FLw (ν ν' : Mm) : Prop := FrI (fun a => 139 ≤ a) ν ν'
theorem CR.law {D L C : Nat} {ν ν' : Mm} {f : Nat → Int32} (h : CR D L C ν f) (e : FLw ν ν') : CR D L C ν' f :=
  ⟨h.1.fr e, h.2.1.fr ⟨h.2.2.2.1.2, h.2.2.2.2.1.2⟩ (fun a ha ha' => e.2 a (by intro h; have h : 139 ≤ a := h; omega)), h.2.2⟩
theorem SVL.law {ν ν' : Mm} (h : SVL ν) (e : FLw ν ν') : SVL ν' := h.cg (by rw [e.2 0 (by intro h; have h : 139 ≤ 0 := h; omega)]) (by rw [e.1])
theorem txt_law {ν ν' : Mm} (h : ν.1 1 1 = 0) (e : FLw ν ν') : ν'.1 1 1 = 0 := by rw [e.2 1 (by intro h; have h : 139 ≤ 1 := h; omega)]; exact h
theorem ref0 : f_X7_refuse 0 = some () := rfl
end PureRW
/-! PURE: a dot renewed, a setting, a row -/
section PureOpsA
theorem i10 {α : Sort _} {a b : α} : (if (1 : Int32) = 0 then a else b) = b := if_neg (by decide)
theorem i00 {α : Sort _} {a b : α} : (if (0 : Int32) = 0 then a else b) = a := if_pos rfl
def PLb (f : Nat → Int32) (L : Nat) : Prop := ∀ l, l < L → (∃ w, 1 ≤ w ∧ w ≤ 12 ∧ f (86 + 10 * l) = nI w ∧ ∀ r, r < 6 → bnd (f (86 + 10 * l + (2 + r))) 0 (2 ^ w - 1)) ∧ bnd (f (86 + 10 * l + 1)) 1 9
def PRn (f : Nat → Int32) (D C : Nat) : Prop := ∀ k, k < C → (f (146 + 6 * k) = -1 ∧ f (146 + 6 * k + 1) = -1) ∨ ∃ a b, a ≤ b ∧ b < D ∧ f (146 + 6 * k) = nI a ∧ f (146 + 6 * k + 1) = nI b
def PDj (f : Nat → Int32) (D C : Nat) : Prop := ∀ j k d, j < C → k < C → d < D → rents f j d → rents f k d → j = k
theorem PLb.cong {f g : Nat → Int32} {L : Nat} (hL : L ≤ 6) (e : ∀ l r, l < 6 → r < 8 → g (86 + 10 * l + r) = f (86 + 10 * l + r)) (h : PLb f L) : PLb g L := fun l hl => by
  obtain ⟨⟨w, w1, w2, w3, w4⟩, b⟩ := h l hl
  exact ⟨⟨w, w1, w2, (e l 0 (by omega) (by omega)).trans w3, fun r hr => by rw [e l (2 + r) (by omega) (by omega)]; exact w4 r hr⟩, by rw [e l 1 (by omega) (by omega)]; exact b⟩
theorem PRn.cong {f g : Nat → Int32} {D C : Nat} (hC : C ≤ 6) (e : ∀ k j, k < 6 → j < 2 → g (146 + 6 * k + j) = f (146 + 6 * k + j)) (h : PRn f D C) : PRn g D C := fun k hk => by
  have e0 : g (146 + 6 * k) = f (146 + 6 * k) := e k 0 (by omega) (by omega)
  rw [e0, e k 1 (by omega) (by omega)]
  exact h k hk
theorem PDj.cong {f g : Nat → Int32} {D C : Nat} (hC : C ≤ 6) (e : ∀ k j, k < 6 → j < 2 → g (146 + 6 * k + j) = f (146 + 6 * k + j)) (h : PDj f D C) : PDj g D C := by
  have er : ∀ k d, k < C → rents g k d → rents f k d := by
    intro k d hk r
    have e0 : g (146 + 6 * k) = f (146 + 6 * k) := e k 0 (by omega) (by omega)
    unfold rents at *
    rwa [e0, e k 1 (by omega) (by omega)] at r
  exact fun j k d hj hk hd r r' => h j k d hj hk hd (er j d hj r) (er k d hk r')
theorem sumL.cong {f g : Nat → Int32} {j : Nat} (e : ∀ l, l < 6 → g (86 + 10 * l + j) = f (86 + 10 * l + j)) : ∀ n, n ≤ 6 → sumL g j n = sumL f j n
  | 0, _ => rfl
  | n + 1, hn => by
    show sumL g j n + g (86 + 10 * n + j) = sumL f j n + f (86 + 10 * n + j)
    rw [sumL.cong e n (by omega), e n (by omega)]
theorem WF.dots {f g : Nat → Int32} {D L C : Nat} (h : WF f D L C) (e : ∀ j, j < 182 → (j < 10 ∨ j = 11 ∨ j = 12 ∨ 86 ≤ j) → g j = f j) (hd : ∀ d, d < D → bnd (g (14 + 3 * d)) 0 90 ∧ bnd (g (14 + 3 * d + 1)) 0 9999) : WF g D L C := by
  obtain ⟨⟨h1, h1'⟩, ⟨h2, h2'⟩, ⟨h3, h3'⟩, h4, h5, h6, h7, h8, h9, h10⟩ := h
  refine ⟨⟨by rw [e _ (by omega) (by omega)]; exact h1, h1'⟩, ⟨by rw [e _ (by omega) (by omega)]; exact h2, h2'⟩, ⟨by rw [e _ (by omega) (by omega)]; exact h3, h3'⟩, ?_, hd, PLb.cong h2' (fun l r _ _ => e _ (by omega) (by omega)) h6, PRn.cong h3' (fun k j _ _ => e _ (by omega) (by omega)) h7, PDj.cong h3' (fun k j _ _ => e _ (by omega) (by omega)) h8, ?_, ?_⟩
  · rw [e 1 (by omega) (by omega), e 2 (by omega) (by omega), e 3 (by omega) (by omega), e 4 (by omega) (by omega), e 5 (by omega) (by omega), e 6 (by omega) (by omega), e 7 (by omega) (by omega)]
    exact h4
  · rw [sumL.cong (fun l _ => e _ (by omega) (by omega)) L h2', e 11 (by omega) (by omega)]
    exact h9
  · rw [sumL.cong (fun l _ => e _ (by omega) (by omega)) L h2', e 12 (by omega) (by omega)]
    exact h10
theorem bnd0 {v : Int32} {lo hi : Nat} (h : bnd v lo hi) (hh : hi < 2147483648) : ¬ v < 0 := by
  obtain ⟨n, -, h2, rfl⟩ := h
  exact nI_pos (by omega)
variable {D L C : Nat} {ν : Mm} {f g : Nat → Int32}
theorem a_newDot {d : Nat} (h : CR D L C ν f) (hd : d < D) (k : ∀ j, j < 182 → (j < 14 + 3 * d ∨ 14 + 3 * d + 3 ≤ j) → g j = f j) (g0 : g (14 + 3 * d) = 0) (g1 : g (14 + 3 * d + 1) = 0) (g2 : g (14 + 3 * d + 2) = 0) :
    ∃ ν', f_X5_newDot KF ν 9 (nI d) = some (f (14 + 3 * d + 1), ν') ∧ CR D L C ν' g ∧ FN ν ν' := by
  obtain ⟨hR, hc, hwf⟩ := h
  have hD := hwf.1
  have hL := hwf.2.1
  have hC := hwf.2.2.1
  obtain ⟨y1, y2, y3⟩ := cpl_dot hc hd
  refine ⟨sI (sI (sI ν 11 d 0) 12 d 0) 13 d 0, ?_, ⟨hR, ⟨?_, fun x hx => ?_, fun j hj => ?_, ?_, fun l hl => ?_, fun l hl hl' => ?_, fun c hc' j hj => ?_, fun c hc' hc6 => ?_⟩, hwf.dots (fun j hj hj' => k j hj (by omega)) (fun x hx => ?_)⟩, ?_⟩
  · unfold f_X5_newDot f_X3_renew
    simp (disch := omega) only [r_90 hR, r_102 hR, r_103 hR, r_104 hR, rf_sI, bd_s, l1_s, K11, K12, K13, gd_n, ix_n, y2]
  · simp (disch := omega) only [sI_no, k]
    exact hc.1
  · obtain ⟨z1, z2, z3⟩ := cpl_dot hc hx
    show (sI (sI (sI ν 11 d 0) 12 d 0) 13 d 0).1 11 x = _ ∧ (sI (sI (sI ν 11 d 0) 12 d 0) 13 d 0).1 12 x = _ ∧ (sI (sI (sI ν 11 d 0) 12 d 0) 13 d 0).1 13 x = _
    by_cases e : x = d
    · subst e
      rw [g0, g1, g2]
      simp (disch := omega) only [sI_no, sI_at]
      exact ⟨trivial, trivial, trivial⟩
    · simp (disch := omega) only [sI_no, sI_of, k]
      exact ⟨z1, z2, z3⟩
  · simp (disch := omega) only [sI_no, k]
    exact hc.2.2.1 j hj
  · simp (disch := omega) only [sI_no, k]
    exact hc.2.2.2.1
  · simp (disch := omega) only [sI_no]
    exact ⟨by simp (disch := omega) only [k]; exact (hc.2.2.2.2.1 l hl).1, fun r hr => by rw [k _ (by omega) (by omega)]; exact (hc.2.2.2.2.1 l hl).2 r hr⟩
  · simp (disch := omega) only [sI_no]
    exact hc.2.2.2.2.2.1 l hl hl'
  · simp (disch := omega) only [sI_no, k]
    exact hc.2.2.2.2.2.2.1 c hc' j hj
  · simp (disch := omega) only [sI_no]
    exact hc.2.2.2.2.2.2.2 c hc' hc6
  · by_cases e : x = d
    · subst e
      rw [g0, g1]
      exact ⟨⟨0, by omega, by omega, rfl⟩, ⟨0, by omega, by omega, rfl⟩⟩
    · rw [k _ (by omega) (by omega), k _ (by omega) (by omega)]
      exact hwf.2.2.2.2.1 x hx
  · exact ((FrI.rfl.sI (by constructor <;> omega)).sI (by constructor <;> omega)).sI (by constructor <;> omega)
theorem o_renews {d : Nat} (h : CR D L C ν f) (hs : SVL ν) (hd : d < D) (k : ∀ j, j < 182 → (j < 14 + 3 * d ∨ 14 + 3 * d + 3 ≤ j) → g j = f j) (g0 : g (14 + 3 * d) = 0) (g1 : g (14 + 3 * d + 1) = 0) (g2 : g (14 + 3 * d + 2) = 0) :
    ∃ ν', f_L_renews KF ν 0 (nI d) = some (f (14 + 3 * d + 1), ν') ∧ CR D L C ν' g ∧ GR ν ν' := by
  have hD := h.2.2.1
  have ew : f_X5_whyNotNewDot KF ν 9 (nI d) = some 0 := by
    unfold f_X5_whyNotNewDot
    rw [c_hasDot h, bd_s, has_n hd (by omega), i10]
    rfl
  obtain ⟨ν1, ν2, e1, r1, e2, h2, g2⟩ := grant h hs (act := fun ν => f_X5_newDot KF ν 9 (nI d)) (fun ν1 h1 _ => a_newDot h1 hd k g0 g1 g2)
  refine ⟨ν2, ?_, h2, g2⟩
  have e2 : f_X5_newDot KF ν1 9 (nI d) = some (f (14 + 3 * d + 1), ν2) := e2
  unfold f_L_renews f_X7_replace
  rw [r_03 h.1, bd_s, ew, bd_s, ref0, bd_s, e1, bd_s, r_03 r1, bd_s, e2]
  rfl
theorem x_renews {d : Nat} (h : CR D L C ν f) (hd : D ≤ d) (hd' : d < 1000) : fx_X7_replace KF ν 0 (nI d) = some (1, ν) := by
  have hD := h.2.2.1
  have q : has (nI d) D = 0 := by
    unfold has
    rw [if_neg (nI_pos (by omega)), if_pos (nI_le hd (by omega))]
  unfold fx_X7_replace f_X5_whyNotNewDot
  rw [r_03 h.1, bd_s, c_hasDot h, bd_s, if_pos q]
  rfl
def loN (j : Nat) : Nat := ([0, 10, 0, 1, 0, 0, 1] : List Nat).getD j 0
def hiN (j : Nat) : Nat := ([30, 90, 9999, 100, 8, 20, 100] : List Nat).getD j 0
def PS (f : Nat → Int32) : Prop := ∀ j, j < 7 → bnd (f (1 + j)) (loN j) (hiN j)
theorem WF.ps {f : Nat → Int32} {D L C : Nat} (h : WF f D L C) : PS f := fun j hj => by
  obtain ⟨b1, b2, b3, b4, b5, b6, b7⟩ := h.2.2.2.1
  rcases (show j = 0 ∨ j = 1 ∨ j = 2 ∨ j = 3 ∨ j = 4 ∨ j = 5 ∨ j = 6 by omega) with rfl | rfl | rfl | rfl | rfl | rfl | rfl
  · exact b1
  · exact b2
  · exact b3
  · exact b4
  · exact b5
  · exact b6
  · exact b7
theorem bnd_of {v : Int32} {lo hi : Nat} (hh : hi < 100000) (h1 : ¬ v < nI lo) (hl : lo < 100000) (h2 : ¬ nI hi < v) : bnd v lo hi := by
  have h0 : ¬ v < 0 := fun q => h1 (Int32.lt_of_lt_of_le q (nI_pos' (by omega)))
  obtain ⟨j, hj, rfl⟩ := nI_of h0
  rw [ltN (by omega) (by omega)] at h1 h2
  exact ⟨j, by omega, by omega, rfl⟩
theorem WF.sets {f g : Nat → Int32} {D L C : Nat} (h : WF f D L C) (e : ∀ j, j < 182 → (j = 0 ∨ 8 ≤ j) → g j = f j) (hp : PS g) : WF g D L C := by
  obtain ⟨⟨h1, h1'⟩, ⟨h2, h2'⟩, ⟨h3, h3'⟩, h4, h5, h6, h7, h8, h9, h10⟩ := h
  refine ⟨⟨by rw [e _ (by omega) (by omega)]; exact h1, h1'⟩, ⟨by rw [e _ (by omega) (by omega)]; exact h2, h2'⟩, ⟨by rw [e _ (by omega) (by omega)]; exact h3, h3'⟩, ⟨hp 0 (by omega), hp 1 (by omega), hp 2 (by omega), hp 3 (by omega), hp 4 (by omega), hp 5 (by omega), hp 6 (by omega)⟩, fun d hd => by rw [e _ (by omega) (by omega), e _ (by omega) (by omega)]; exact h5 d hd, PLb.cong h2' (fun l r _ _ => e _ (by omega) (by omega)) h6, PRn.cong h3' (fun k j _ _ => e _ (by omega) (by omega)) h7, PDj.cong h3' (fun k j _ _ => e _ (by omega) (by omega)) h8, ?_, ?_⟩
  · rw [sumL.cong (fun l _ => e _ (by omega) (by omega)) L h2', e 11 (by omega) (by omega)]
    exact h9
  · rw [sumL.cong (fun l _ => e _ (by omega) (by omega)) L h2', e 12 (by omega) (by omega)]
    exact h10
theorem set_tab : ∀ j, j < 7 → ((sA 0).getD j 0 = nI (loN j) ∧ (sA 1).getD j 0 = nI (hiN j)) ∧ loN j < 100000 ∧ hiN j < 100000 := by decide +kernel
theorem a_set {j b : Nat} (h : CR D L C ν f) (hj : j < 7) (hb : bnd (nI b) (loN j) (hiN j)) (k : ∀ i, i < 182 → i ≠ 1 + j → g i = f i) (g1 : g (1 + j) = nI b) :
    ∃ ν', f_X5_changeSetting KF ν 9 (nI j) (nI b) = some (f (1 + j), ν') ∧ CR D L C ν' g ∧ FN ν ν' := by
  obtain ⟨hR, hc, hwf⟩ := h
  have hD := hwf.1
  have hL := hwf.2.1
  have hC := hwf.2.2.1
  have es : ν.1 14 j = f (1 + j) := cpl_set hc hj
  have hps := hwf.ps
  refine ⟨sI ν 14 j (nI b), ?_, ⟨hR, ⟨?_, fun x hx => ?_, fun i hi => ?_, ?_, fun l hl => ?_, fun l hl hl' => ?_, fun c hc' i hi => ?_, fun c hc' hc6 => ?_⟩, hwf.sets (fun i hi hi' => k i hi (by omega)) (fun i hi => ?_)⟩, FrI.rfl.sI (by constructor <;> omega)⟩
  · unfold f_X5_changeSetting
    simp (disch := omega) only [r_92 hR, bd_s, l1_s, K14, gd_n, ix_n, es]
  · simp (disch := omega) only [sI_no, k]
    exact hc.1
  · simp (disch := omega) only [sI_no, k]
    exact hc.2.1 x hx
  · by_cases e : i = j
    · subst e
      show (sI ν 14 i (nI b)).1 14 i = _
      rw [sI_at, g1]
    · show (sI ν 14 j (nI b)).1 14 i = _
      rw [sI_of e, k _ (by omega) (by omega)]
      exact hc.2.2.1 i hi
  · simp (disch := omega) only [sI_no, k]
    exact hc.2.2.2.1
  · simp (disch := omega) only [sI_no]
    exact ⟨by simp (disch := omega) only [k]; exact (hc.2.2.2.2.1 l hl).1, fun r hr => by rw [k _ (by omega) (by omega)]; exact (hc.2.2.2.2.1 l hl).2 r hr⟩
  · simp (disch := omega) only [sI_no]
    exact hc.2.2.2.2.2.1 l hl hl'
  · simp (disch := omega) only [sI_no, k]
    exact hc.2.2.2.2.2.2.1 c hc' i hi
  · simp (disch := omega) only [sI_no]
    exact hc.2.2.2.2.2.2.2 c hc' hc6
  · by_cases e : i = j
    · subst e
      rw [g1]
      exact hb
    · rw [k _ (by omega) (by omega)]
      exact hps i hi
theorem o_sets {j b : Nat} (h : CR D L C ν f) (hs : SVL ν) (hj : j < 7) (h1 : loN j ≤ b) (h2 : b ≤ hiN j) (k : ∀ i, i < 182 → i ≠ 1 + j → g i = f i) (g1 : g (1 + j) = nI b) :
    ∃ ν', f_L_sets KF ν 0 (nI j) (nI b) = some (f (1 + j), ν') ∧ CR D L C ν' g ∧ GR ν ν' := by
  obtain ⟨⟨t3, t4⟩, t5, t6⟩ := set_tab j hj
  have ew : f_X5_whyNotChangeSetting KF ν 9 (nI j) (nI b) = some 0 := by
    unfold f_X5_whyNotChangeSetting
    rw [if_neg (show ¬ nI j < 0 from nI_pos (by omega)), if_pos (show nI j < 7 from nI_lt (b := 7) hj (by omega))]
    simp (disch := omega) only [show (sA 0).length = 7 from rfl, show (sA 1).length = 7 from rfl, gd_n, ix_n, t3, t4, l1_s, ltN, leN, if_neg (Nat.not_lt.mpr h1), if_pos h2]
  obtain ⟨ν1, ν2, e1, r1, e2, h2, g2⟩ := grant h hs (act := fun ν => f_X5_changeSetting KF ν 9 (nI j) (nI b)) (fun ν1 h1' _ => a_set h1' hj ⟨b, h1, h2, rfl⟩ k g1)
  refine ⟨ν2, ?_, h2, g2⟩
  have e2 : f_X5_changeSetting KF ν1 9 (nI j) (nI b) = some (f (1 + j), ν2) := e2
  unfold f_L_sets f_X7_set
  rw [r_03 h.1, bd_s, ew, bd_s, ref0, bd_s, e1, bd_s, r_03 r1, bd_s, e2]
  rfl
end PureOpsA
