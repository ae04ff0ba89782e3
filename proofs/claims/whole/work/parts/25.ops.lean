/-! PURE: the wishes, one after the other: refused alike, or granted alike -/
section PureM
def FN (μ μ' : Mm) : Prop := FrI (fun a => 5 ≤ a ∧ a ≤ 34) μ μ'
def FR (η η' : Mm) : Prop := FrI (fun a => a = 140 ∨ a = 141) η η'
/-- a wish: the class's reason against it, its grant; the reference's whole answer. pl: which refusal is which number -/
def OP (D L C : Nat) (η : Mm) (pl : List (Nat × Nat)) (why : Option Int32) (act : Mm → Option (Int32 × Mm)) (ref : Option (Int32 × Mm)) : Prop :=
  (∃ ck, ck ∈ pl ∧ why = some (nI ck.1) ∧ ref = some (0, sI η 139 7 (nI ck.2))) ∨
  (why = some 0 ∧ ∀ μ1 η1, CR D L C μ1 η1 → f_X8_saves KF (sI η 139 7 0) 139 = some η1 → η1.1 140 = η.1 140 →
    ∃ v μ2 η2 D' L' C', act μ1 = some (v, μ2) ∧ ref = some (v, η2) ∧ CR D' L' C' μ2 η2 ∧ FN μ1 μ2 ∧ FR η1 η2 ∧ ¬ v < 0)
theorem th0 {η : Mm} : f_X8_throwsAt KF η 139 0 = some (0, sI η 139 7 0) := rfl
theorem th1 {η : Mm} : f_X8_throwsAt KF η 139 1 = some (1, sI η 139 7 (nI 1)) := rfl
theorem th2 {η : Mm} : f_X8_throwsAt KF η 139 2 = some (1, sI η 139 7 (nI 2)) := rfl
theorem th3 {η : Mm} : f_X8_throwsAt KF η 139 3 = some (1, sI η 139 7 (nI 3)) := rfl
theorem i10 {α : Sort _} {a b : α} : (if (1 : Int32) = 0 then a else b) = b := if_neg (by decide)
theorem i00 {α : Sort _} {a b : α} : (if (0 : Int32) = 0 then a else b) = a := if_pos rfl
def PLb (f : Nat → Int32) (L : Nat) : Prop := ∀ l, l < L → (∃ w, 1 ≤ w ∧ w ≤ 12 ∧ f (86 + 10 * l) = nI w ∧ ∀ r, r < 6 → bnd (f (86 + 10 * l + (2 + r))) 0 (2 ^ w - 1)) ∧ bnd (f (86 + 10 * l + 1)) 1 9
def PRn (f : Nat → Int32) (D C : Nat) : Prop := ∀ k, k < C → (f (146 + 6 * k) = -1 ∧ f (146 + 6 * k + 1) = -1) ∨ ∃ a b, a ≤ b ∧ b < D ∧ f (146 + 6 * k) = nI a ∧ f (146 + 6 * k + 1) = nI b
def PDj (f : Nat → Int32) (D C : Nat) : Prop := ∀ j k d, j < C → k < C → d < D → rents f j d → rents f k d → j = k
theorem PLb.cong {f g : Nat → Int32} {L : Nat} (hL : L ≤ 6) (e : ∀ l r, l < 6 → r < 8 → g (86 + 10 * l + r) = f (86 + 10 * l + r)) (h : PLb f L) : PLb g L := fun l hl => by
  obtain ⟨⟨w, w1, w2, w3, w4⟩, b⟩ := h l hl
  exact ⟨⟨w, w1, w2, (e l 0 (by omega) (by omega)).trans w3, fun r hr => by rw [e l (2 + r) (by omega) (by omega)]; exact w4 r hr⟩, by rw [e l 1 (by omega) (by omega)]; exact b⟩
theorem PRn.cong {f g : Nat → Int32} {D C : Nat} (hC : C ≤ 6) (e : ∀ k j, k < 6 → j < 2 → g (146 + 6 * k + j) = f (146 + 6 * k + j)) (h : PRn f D C) : PRn g D C := fun k hk => by
  have e0 : g (146 + 6 * k) = f (146 + 6 * k) := e k 0 (by omega) (by omega)
  rw [e0, e k 1 (by omega) (by omega)]
  exact h k hk
theorem PDj.cong {f g : Nat → Int32} {D C : Nat} (hC : C ≤ 6) (e : ∀ k j, k < 6 → j < 2 → g (146 + 6 * k + j) = f (146 + 6 * k + j)) (h : PDj f D C) : PDj g D C := by
  have er : ∀ k d, k < C → rents g k d → rents f k d := by
    intro k d hk r
    have e0 : g (146 + 6 * k) = f (146 + 6 * k) := e k 0 (by omega) (by omega)
    unfold rents at *
    rwa [e0, e k 1 (by omega) (by omega)] at r
  exact fun j k d hj hk hd r r' => h j k d hj hk hd (er j d hj r) (er k d hk r')
theorem sumL.cong {f g : Nat → Int32} {j : Nat} (e : ∀ l, l < 6 → g (86 + 10 * l + j) = f (86 + 10 * l + j)) : ∀ n, n ≤ 6 → sumL g j n = sumL f j n
  | 0, _ => rfl
  | n + 1, hn => by
    show sumL g j n + g (86 + 10 * n + j) = sumL f j n + f (86 + 10 * n + j)
    rw [sumL.cong e n (by omega), e n (by omega)]
theorem WF.dots {f g : Nat → Int32} {D L C : Nat} (h : WF f D L C) (e : ∀ j, j < 182 → (j < 10 ∨ j = 11 ∨ j = 12 ∨ 86 ≤ j) → g j = f j) (hd : ∀ d, d < D → bnd (g (14 + 3 * d)) 0 90 ∧ bnd (g (14 + 3 * d + 1)) 0 9999) : WF g D L C := by
  obtain ⟨⟨h1, h1'⟩, ⟨h2, h2'⟩, ⟨h3, h3'⟩, h4, h5, h6, h7, h8, h9, h10⟩ := h
  refine ⟨⟨by rw [e _ (by omega) (by omega)]; exact h1, h1'⟩, ⟨by rw [e _ (by omega) (by omega)]; exact h2, h2'⟩, ⟨by rw [e _ (by omega) (by omega)]; exact h3, h3'⟩, ?_, hd, PLb.cong h2' (fun l r _ _ => e _ (by omega) (by omega)) h6, PRn.cong h3' (fun k j _ _ => e _ (by omega) (by omega)) h7, PDj.cong h3' (fun k j _ _ => e _ (by omega) (by omega)) h8, ?_, ?_⟩
  · rw [e 1 (by omega) (by omega), e 2 (by omega) (by omega), e 3 (by omega) (by omega), e 4 (by omega) (by omega), e 5 (by omega) (by omega), e 6 (by omega) (by omega), e 7 (by omega) (by omega)]
    exact h4
  · rw [sumL.cong (fun l _ => e _ (by omega) (by omega)) L h2', e 11 (by omega) (by omega)]
    exact h9
  · rw [sumL.cong (fun l _ => e _ (by omega) (by omega)) L h2', e 12 (by omega) (by omega)]
    exact h10
theorem bnd0 {v : Int32} {lo hi : Nat} (h : bnd v lo hi) (hh : hi < 2147483648) : ¬ v < 0 := by
  obtain ⟨n, -, h2, rfl⟩ := h
  exact nI_pos (by omega)
theorem o_replace {D L C : Nat} {μ η : Mm} (h : CR D L C μ η) (a : Int32) : OP D L C η [(1, 1)] (f_X5_whyNotNewDot KF μ 9 a) (fun ν => f_X5_newDot KF ν 9 a) (f_X8_replace KF η 139 a) := by
  have hw : f_X5_whyNotNewDot KF μ 9 a = some (if has a D = 0 then 1 else 0) := by
    unfold f_X5_whyNotNewDot
    rw [c_hasDot h]
    rfl
  have hm := m_isDot h.2.1 h.2.2.2 a
  have hD := h.2.2.2.1
  by_cases q : has a D = 0
  · refine Or.inl ⟨(1, 1), List.mem_singleton.mpr rfl, ?_, ?_⟩
    · rw [hw, if_pos q]
      rfl
    · unfold f_X8_replace
      rw [hm, bd_s, q, i00, l1_s, th1, bd_s, l1_s, l1_s, i10]
  · obtain ⟨d, hd, rfl, q1⟩ := has_yes q (by omega)
    refine Or.inr ⟨by rw [hw, if_neg q], fun μ1 η1 h1 hs _ => ?_⟩
    obtain ⟨hR, hR2, hc, hwf⟩ := h1
    obtain ⟨y1, y2, y3⟩ := cpl_dot hc hd
    have hdo := m_dotOf (μ := η1) (k := 140) (d := d) (j := 1) (by decide +kernel) (by omega) (by omega)
    obtain ⟨η2, e3, f3, g3, k3⟩ := lp0 (fun m j ν => f_X8_replace_l38 KF 139 (nI d) (η1.1 140 (14 + 3 * d + 1)) m ν (nI j)) 3 (by decide)
      (fun i ν => FrI (fun a => a = 140) η1 ν ∧ (∀ j, j < i → ν.1 140 (14 + 3 * d + j) = 0) ∧ ∀ j, (j < 14 + 3 * d ∨ 14 + 3 * d + 3 ≤ j) → ν.1 140 j = η1.1 140 j)
      (fun ν => FrI (fun a => a = 140) η1 ν ∧ (∀ j, j < 3 → ν.1 140 (14 + 3 * d + j) = 0) ∧ ∀ j, (j < 14 + 3 * d ∨ 14 + 3 * d + 3 ≤ j) → ν.1 140 j = η1.1 140 j)
      (by
        rintro m i ν hi ⟨p1, p2, p3⟩
        have hRν := hR2.fr p1
        refine Or.inr ⟨sI ν 140 (14 + 3 * d + i) 0, ?_, p1.sI rfl, fun j hj => ?_, fun j hj => ?_⟩
        · simp (disch := omega) only [f_X8_replace_l38, L3, L14, leN, if_neg (Nat.not_le.mpr hi), r_m0 hRν, bd_s, l1_s, K140, nI_add, pk_mul, gd_n, ix_n, nI_succ i]
        · by_cases e : j = i
          · rw [e, sI_at]
          · rw [sI_of (by omega)]
            exact p2 j (by omega)
        · rw [sI_of (by omega)]
          exact p3 j hj)
      (by
        rintro m ν pq
        refine ⟨ν, ?_, pq⟩
        simp (disch := omega) only [f_X8_replace_l38, L3, leN, if_pos (Nat.le_refl 3)]) η1 ⟨FrI.rfl, fun j hj => absurd hj (by omega), fun _ _ => rfl⟩
    have g0 : η2.1 140 (14 + 3 * d) = 0 := g3 0 (by omega)
    have gg : ∀ j, 14 ≤ j → j < 86 → j < 14 + 3 * d ∨ 14 + 3 * d + 3 ≤ j → η2.1 140 j = η1.1 140 j := fun j _ _ hj => k3 j hj
    refine ⟨η1.1 140 (14 + 3 * d + 1), sI (sI (sI μ1 11 d 0) 12 d 0) 13 d 0, η2, D, L, C, ?_, ?_, ⟨hR, hR2.fr f3, ⟨?_, fun x hx => ?_, fun j hj => ?_, ?_, fun l hl => ?_, fun l hl hl' => ?_, fun k hk j hj => ?_, fun k hk hk' => ?_⟩, hwf.dots (fun j hj hj' => k3 j (by omega)) (fun x hx => ?_)⟩, ?_, f3.mono (fun a ha => Or.inl ha), bnd0 (hwf.2.2.2.2.1 d hd).2 (by omega)⟩
    · show f_X5_newDot KF μ1 9 (nI d) = _
      unfold f_X5_newDot f_X3_renew
      simp (disch := omega) only [r_90 hR, r_102 hR, r_103 hR, r_104 hR, rf_sI, bd_s, l1_s, K11, K12, K13, gd_n, ix_n, y2]
    · unfold f_X8_replace
      rw [hm, bd_s, q1, i10, l1_s, th0, bd_s, l1_s, l1_s, i00, hs, bd_s, r_m0 hR2, bd_s, show f_X8_dotOf KF η1 140 (nI d) 1 = some (η1.1 140 (14 + 3 * d + 1)) from hdo, bd_s, show f_X8_replace_l38 KF 139 (nI d) (η1.1 140 (14 + 3 * d + 1)) FU η1 0 = some η2 from e3]
      rfl
    · simp (disch := omega) only [sI_no, k3]
      exact hc.1
    · obtain ⟨z1, z2, z3⟩ := cpl_dot hc hx
      show (sI (sI (sI μ1 11 d 0) 12 d 0) 13 d 0).1 11 x = _ ∧ (sI (sI (sI μ1 11 d 0) 12 d 0) 13 d 0).1 12 x = _ ∧ (sI (sI (sI μ1 11 d 0) 12 d 0) 13 d 0).1 13 x = _
      by_cases e : x = d
      · subst e
        rw [g0, g3 1 (by omega), g3 2 (by omega)]
        simp (disch := omega) only [sI_no, sI_at]
        exact ⟨trivial, trivial, trivial⟩
      · simp (disch := omega) only [sI_no, sI_of, k3]
        exact ⟨z1, z2, z3⟩
    · simp (disch := omega) only [sI_no, k3]
      exact hc.2.2.1 j hj
    · simp (disch := omega) only [sI_no, k3]
      exact hc.2.2.2.1
    · simp (disch := omega) only [sI_no]
      exact ⟨by simp (disch := omega) only [k3]; exact (hc.2.2.2.2.1 l hl).1, fun r hr => by rw [k3 _ (by omega)]; exact (hc.2.2.2.2.1 l hl).2 r hr⟩
    · simp (disch := omega) only [sI_no]
      exact hc.2.2.2.2.2.1 l hl hl'
    · simp (disch := omega) only [sI_no, k3]
      exact hc.2.2.2.2.2.2.1 k hk j hj
    · simp (disch := omega) only [sI_no]
      exact hc.2.2.2.2.2.2.2 k hk hk'
    · by_cases e : x = d
      · subst e
        rw [g0, g3 1 (by omega)]
        exact ⟨⟨0, by omega, by omega, rfl⟩, ⟨0, by omega, by omega, rfl⟩⟩
      · rw [k3 _ (by omega), k3 _ (by omega)]
        exact hwf.2.2.2.2.1 x hx
    · exact ((FrI.rfl.sI (by constructor <;> omega)).sI (by constructor <;> omega)).sI (by constructor <;> omega)
end PureM
