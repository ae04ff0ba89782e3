/-! PURE: what would be: the trial head; the best place: the class -/
section PureBest
theorem sIr_at {μ : Mm} {k : Nat} {g : Nat → Int32} : (sIr μ k g).1 k = g := upR_self _
theorem sIr_no {μ : Mm} {k a : Nat} {g : Nat → Int32} (h : a ≠ k) : (sIr μ k g).1 a = μ.1 a := upR_row _ h
theorem rf_sIr {K : Nat → Nat × Nat} {μ : Mm} {k j a c : Nat} {g : Nat → Int32} : rf K (sIr μ a g) k j c = rf K μ k j c := rfl
theorem FrI.sIr {S : Nat → Prop} {μ μ' : Mm} (h : FrI S μ μ') {k : Nat} {g : Nat → Int32} (hk : S k) : FrI S μ (sIr μ' k g) := ⟨h.1, fun a ha => (sIr_no (fun e => ha (by rw [e]; exact hk))).trans (h.2 a ha)⟩
theorem Cpl.fr {μ μ' : Mm} {b D L C : Nat} {f : Nat → Int32} (hD : L ≤ 6 ∧ C ≤ 6) (h : Cpl μ b f D L C) (e : ∀ a, b ≤ a → a ≤ b + 25 → μ'.1 a = μ.1 a) : Cpl μ' b f D L C := by
  obtain ⟨⟨h1, h1'⟩, h2, h3, ⟨h4, h4', h4''⟩, h5, h6, h7, h8⟩ := h
  refine ⟨⟨by rw [e _ (by omega) (by omega)]; exact h1, by rw [e _ (by omega) (by omega)]; exact h1'⟩, fun d hd => ?_, fun j hj => ?_, ⟨by rw [e _ (by omega) (by omega)]; exact h4, by rw [e _ (by omega) (by omega)]; exact h4', by rw [e _ (by omega) (by omega)]; exact h4''⟩, fun l hl => ?_, fun l hl hl' => ?_, fun k hk j hj => ?_, fun k hk hk' => ?_⟩
  · rw [e (b + 2) (by omega) (by omega), e (b + 3) (by omega) (by omega), e (b + 4) (by omega) (by omega)]
    exact h2 d hd
  · rw [e _ (by omega) (by omega)]
    exact h3 j hj
  · rw [e (b + 8 + 2 * l) (by omega) (by omega), e (b + 9 + 2 * l) (by omega) (by omega)]
    exact h5 l hl
  · rw [e (b + 8 + 2 * l) (by omega) (by omega), e (b + 9 + 2 * l) (by omega) (by omega)]
    exact h6 l hl hl'
  · rw [e _ (by omega) (by omega)]
    exact h7 k hk j hj
  · rw [e (b + 20 + k) (by omega) (by omega)]
    exact h8 k hk hk'
/-- what a question may change -/
def FT (μ μ' : Mm) : Prop := FrI (fun a => 5 ≤ a ∧ a ≤ 8) μ μ'
theorem CR.q {D L C : Nat} {μ μ' : Mm} {f : Nat → Int32} (h : CR D L C μ f) (h1 : FT μ μ') : CR D L C μ' f :=
  ⟨h.1.fr h1, h.2.1.fr ⟨h.2.2.2.1.2, h.2.2.2.2.1.2⟩ (fun a ha _ => h1.2 a (by intro h; have h : 5 ≤ a ∧ a ≤ 8 := h; omega)), h.2.2⟩
theorem c_takePart {μ : Mm} (hR : RF μ) {o w : Nat} (hw : o + w ≤ 24) : ∃ μ', f_X3_takePart KF μ 5 10 (nI o) (nI w) = some μ' ∧ FT μ μ' ∧ μ'.1 5 0 = nI w ∧ μ'.1 5 1 = μ.1 5 1 ∧ μ'.1 8 = μ.1 8 ∧ ∀ x, x < w → μ'.1 6 x = μ.1 11 (x + o) ∧ μ'.1 7 x = μ.1 12 (x + o) := by
  have ok : okc (nI o) (nI 0) (nI w) 24 24 := by
    refine ⟨nI_pos (by omega), nI_pos (by omega), nI_pos (by omega), ?_, ?_⟩
    · rw [ix_n (by omega), ix_n (by omega)]
      omega
    · rw [ix_n (by omega), ix_n (by omega)]
      omega
  refine ⟨sIr (sIr (sI μ 5 0 (nI w)) 6 (va_cpy (μ.1 11) (μ.1 6) o 0 w)) 7 (va_cpy (μ.1 12) (μ.1 7) o 0 w), ?_, ?_, ?_, ?_, ?_, fun x hx => ?_⟩
  · unfold f_X3_takePart
    simp (disch := omega) only [l1_s, rf_sI, rf_sIr, r_102 hR, r_103 hR, r_52 hR, r_53 hR, bd_s, K6, K7, K11, K12, L0, gd_t ok, ix_n, sI_rw, sIr_no]
  · exact ((FrI.rfl.sI (by constructor <;> omega)).sIr (by constructor <;> omega)).sIr (by constructor <;> omega)
  · rw [sIr_no (by omega), sIr_no (by omega), sI_at]
  · rw [sIr_no (by omega), sIr_no (by omega), sI_of (by omega)]
  · rw [sIr_no (by omega), sIr_no (by omega), sI_rw (by omega)]
  · constructor
    · rw [sIr_no (by omega), sIr_at]
      unfold va_cpy
      rw [if_pos (by omega), show o + (x - 0) = x + o by omega]
    · rw [sIr_at]
      unfold va_cpy
      rw [if_pos (by omega), show o + (x - 0) = x + o by omega]
/-- the numbers of a row -/
def nat (v : Int32) : Nat := v.toNatClampNeg
theorem nat_n {n : Nat} (h : n < 2147483648) : nat (nI n) = n := nI_clamp h
theorem nat_b {v : Int32} {lo hi : Nat} (h : bnd v lo hi) (hh : hi < 2147483648) : v = nI (nat v) ∧ lo ≤ nat v ∧ nat v ≤ hi := by
  obtain ⟨n, h1, h2, rfl⟩ := h
  rw [nat_n (by omega)]
  exact ⟨rfl, h1, h2⟩
def prP (f : Nat → Int32) (l : Nat) : PP := (nat (f 1), nat (f 2), nat (f 3), nat (f 4), nat (f 5), nat (f (86 + 10 * l)), 10 * nat (f (86 + 10 * l + 1)), fun r => f (86 + 10 * l + (2 + r)))
def stQ (f : Nat → Int32) : QQ := (fun d => nat (f (14 + 3 * d)), fun d => nat (f (14 + 3 * d + 1)), fun d => f (14 + 3 * d + 2), f 10, 0)
/-- cells that could not be read -/
def badN (f : Nat → Int32) (l o : Nat) : Nat := qb (PL (prP f l) o 6 (stQ f))
theorem prP_ok {f : Nat → Int32} {D L C l : Nat} (hw : WF f D L C) (hl : l < L) : PNc l (prP f l) (nat (f (86 + 10 * l + 1))) ∧ f (86 + 10 * l) = nI (pw (prP f l)) ∧ f (86 + 10 * l + 1) = nI (nat (f (86 + 10 * l + 1))) ∧ (f 1 = nI (pg (prP f l)) ∧ f 2 = nI (psm (prP f l)) ∧ f 3 = nI (plm (prP f l)) ∧ f 4 = nI (pfd (prP f l)) ∧ f 5 = nI (ptl (prP f l))) := by
  have hL := hw.2.1
  obtain ⟨⟨w, h1, h2, h3, -⟩, hb⟩ := hw.2.2.2.2.2.1 l hl
  obtain ⟨b1, b2, b3, b4, b5, -⟩ := hw.2.2.2.1
  obtain ⟨a1, -, c1⟩ := nat_b b1 (by omega)
  obtain ⟨a2, -, c2⟩ := nat_b b2 (by omega)
  obtain ⟨a3, -, c3⟩ := nat_b b3 (by omega)
  obtain ⟨a4, d4, c4⟩ := nat_b b4 (by omega)
  obtain ⟨a5, -, c5⟩ := nat_b b5 (by omega)
  obtain ⟨a6, d6, c6⟩ := nat_b hb (by omega)
  obtain ⟨a7, d7, c7⟩ := nat_b (v := f (86 + 10 * l)) ⟨w, h1, h2, h3⟩ (by omega)
  exact ⟨⟨⟨by omega, rfl⟩, ⟨d6, c6⟩, ⟨d7, c7⟩, c1, c2, c3, ⟨d4, c4⟩, c5⟩, a7, a6, a1, a2, a3, a4, a5⟩
theorem CR_PCc {D L C l : Nat} {μ : Mm} {f : Nat → Int32} (h : CR D L C μ f) (hl : l < L) : PCc l (prP f l) (nat (f (86 + 10 * l + 1))) μ := by
  obtain ⟨hR, hc, hw⟩ := h
  obtain ⟨-, p2, p3, p4, p5, p6, p7, p8⟩ := prP_ok hw hl
  obtain ⟨a1, a2, -, -⟩ := cpl_lab hc hl
  exact ⟨hR, ⟨(cpl_set hc (j := 0) (by omega)).trans p4, (cpl_set hc (j := 1) (by omega)).trans p5, (cpl_set hc (j := 2) (by omega)).trans p6, (cpl_set hc (j := 3) (by omega)).trans p7, (cpl_set hc (j := 4) (by omega)).trans p8⟩, a1.trans p2, a2.trans p3, fun r hr => cpl_row hc hl hr⟩
theorem wf_QB {f : Nat → Int32} {D L C : Nat} (hw : WF f D L C) : QB D (stQ f) := fun d hd => by
  obtain ⟨h1, h2⟩ := hw.2.2.2.2.1 d hd
  exact ⟨(nat_b h1 (by omega)).2.2, (nat_b h2 (by omega)).2.2⟩
theorem CR_HdS {D L C : Nat} {μ : Mm} {f : Nat → Int32} (h : CR D L C μ f) : HdS 10 D μ (stQ f) := by
  obtain ⟨hR, hc, hw⟩ := h
  refine ⟨hc.1.1.trans hw.1.1, fun d hd => ?_, hc.1.2⟩
  obtain ⟨y1, y2, y3⟩ := cpl_dot hc hd
  obtain ⟨b1, b2⟩ := hw.2.2.2.2.1 d hd
  exact ⟨y1.trans (nat_b b1 (by omega)).1, y2.trans (nat_b b2 (by omega)).1, y3⟩
theorem c_unread {D L C l o : Nat} {μ : Mm} {f : Nat → Int32} (h : CR D L C μ f) (hl : l < L) (how : o + nat (f (86 + 10 * l)) ≤ D) : ∃ μ', f_X5_unreadableAt KF μ 9 (nI l) (nI o) = some (nI (badN f l o), μ') ∧ FT μ μ' := by
  have h0 := h
  obtain ⟨hR, hc, hw⟩ := h
  have hD := hw.1
  have hL := hw.2.1
  obtain ⟨hN, ew, -, -⟩ := prP_ok hw hl
  have hwb := hN.2.2.1
  have how : o + pw (prP f l) ≤ D := how
  have a1 : μ.1 (17 + 2 * l) 0 = nI (pw (prP f l)) := (cpl_lab hc hl).1.trans ew
  obtain ⟨μ1, e1, t1, t2, t3, t4, t5⟩ := c_takePart hR (o := o) (w := pw (prP f l)) (by omega)
  have nμ : ∀ a, 9 ≤ a → μ1.1 a = μ.1 a := fun a ha => t1.2 a (by intro h; have h : 5 ≤ a ∧ a ≤ 8 := h; omega)
  have h1 : CR D L C μ1 f := h0.q t1
  obtain ⟨s, es⟩ : ∃ s : QQ, s = ((fun x => nat (f (14 + 3 * (x + o))), fun x => nat (f (14 + 3 * (x + o) + 1)), fun x => μ.1 8 x, μ.1 5 1, 0) : QQ) := ⟨_, rfl⟩
  have hs : HdS 5 (pw (prP f l)) μ1 s := by
    rw [es]
    refine ⟨t2, fun x hx => ?_, t3⟩
    obtain ⟨x1, x2⟩ := t5 x hx
    obtain ⟨y1, y2, -⟩ := cpl_dot hc (d := x + o) (by omega)
    obtain ⟨b1, b2⟩ := hw.2.2.2.2.1 (x + o) (by omega)
    exact ⟨(x1.trans y1).trans (nat_b b1 (by omega)).1, (x2.trans y2).trans (nat_b b2 (by omega)).1, congrFun t4 x⟩
  have hq : QB (pw (prP f l)) s := by
    rw [es]
    intro x hx
    obtain ⟨b1, b2⟩ := hw.2.2.2.2.1 (x + o) (by omega)
    exact ⟨(nat_b b1 (by omega)).2.2, (nat_b b2 (by omega)).2.2⟩
  obtain ⟨μ2, y1, -, y3⟩ := c_playP (o := 0) hN (Or.inr rfl) (CR_PCc h1 hl) hs hq (by omega) (by omega) (by rw [es]; rfl)
  have esh : SH (pw (prP f l)) o (stQ f) s := by
    rw [es]
    refine ⟨fun x hx => ⟨?_, ?_⟩, ?_⟩
    · simp only [qh, stQ]
    · simp only [qy, stQ]
    · simp only [qb, stQ]
  have eb : qb (PL (prP f l) 0 6 s) = badN f l o := by
    unfold badN
    exact (PL_sh esh 6).2
  rw [eb] at y1
  refine ⟨μ2, ?_, t1.trans y3.1⟩
  unfold f_X5_unreadableAt
  have hR1 := h1.1
  rw [← L0] at y1
  simp (disch := omega) only [r_90 hR, r_91 hR, r_93 hR, bd_s, l1_s, K15, gd_n, ix_n, r_lab hR (show l < 6 by omega), a1, e1, r_91 hR1, r_93 hR1, r_lab hR1 (show l < 6 by omega), r_92 hR1, y1]
/-- better than: fewer cells, or as many and cheaper -/
def ltO (f : Nat → Int32) (c l w i j : Nat) : Prop := badN f l i < badN f l j ∨ (badN f l i = badN f l j ∧ priV f c l i w < priV f c l j w)
def alO (f : Nat → Int32) (D C c l w i : Nat) : Prop := whyV f D C c l i w = 0
/-- the best place among those of a set -/
def BSP (f : Nat → Int32) (D C c l w : Nat) (S : Nat → Prop) (v : Int32) : Prop := (v = -1 ∧ ∀ i, i < 24 → S i → ¬ alO f D C c l w i) ∨ ∃ b, b < 24 ∧ S b ∧ v = nI b ∧ alO f D C c l w b ∧ (∀ i, i < 24 → S i → alO f D C c l w i → ¬ ltO f c l w i b) ∧ ∀ i, i < b → S i → alO f D C c l w i → ltO f c l w b i
theorem ltO.tot {f : Nat → Int32} {c l w i j : Nat} (h : ¬ ltO f c l w i j) : ltO f c l w j i ∨ (badN f l i = badN f l j ∧ priV f c l i w = priV f c l j w) := by
  by_cases h1 : badN f l j < badN f l i
  · exact Or.inl (Or.inl h1)
  · by_cases h2 : badN f l i < badN f l j
    · exact absurd (Or.inl h2) h
    · by_cases h3 : priV f c l i w < priV f c l j w
      · exact absurd (Or.inr ⟨by omega, h3⟩) h
      · by_cases h4 : priV f c l j w < priV f c l i w
        · exact Or.inl (Or.inr ⟨by omega, h4⟩)
        · exact Or.inr ⟨by omega, Int32.le_antisymm (Int32.not_lt.mp h4) (Int32.not_lt.mp h3)⟩
theorem ltO.trans {f : Nat → Int32} {c l w i j k : Nat} (h : ltO f c l w i j) (h' : ltO f c l w j k) : ltO f c l w i k := by
  rcases h with h | ⟨h, g⟩
  · rcases h' with h' | ⟨h', g'⟩
    · exact Or.inl (by omega)
    · exact Or.inl (by omega)
  · rcases h' with h' | ⟨h', g'⟩
    · exact Or.inl (by omega)
    · exact Or.inr ⟨by omega, Int32.lt_trans g g'⟩
theorem ltO.irr {f : Nat → Int32} {c l w i : Nat} (h : ltO f c l w i i) : False := by
  rcases h with h | ⟨-, h⟩
  · omega
  · exact Int32.lt_irrefl h
theorem BSP.one {f : Nat → Int32} {D C c l w : Nat} {S : Nat → Prop} {v v' : Int32} (h : BSP f D C c l w S v) (h' : BSP f D C c l w S v') : v = v' := by
  rcases h with ⟨e, n⟩ | ⟨b, b1, b2, b3, b4, b5, b6⟩
  · rcases h' with ⟨e', n'⟩ | ⟨b', b1', b2', b3', b4', b5', b6'⟩
    · rw [e, e']
    · exact absurd b4' (n b' b1' b2')
  · rcases h' with ⟨e', n'⟩ | ⟨b', b1', b2', b3', b4', b5', b6'⟩
    · exact absurd b4 (n' b b1 b2)
    · rw [b3, b3']
      rcases Nat.lt_trichotomy b b' with e | e | e
      · exact absurd (b6' b e b2 b4) (b5 b' b1' b2' b4')
      · rw [e]
      · exact absurd (b6 b' e b2' b4') (b5' b b1 b2 b4)
theorem c_best {D L C c l w : Nat} {μ : Mm} {f : Nat → Int32} (h : CR D L C μ f) (hc : c < C) (hl : l < L) (ew : f (86 + 10 * l) = nI w) (hw1 : 1 ≤ w) (hw2 : w ≤ 12) :
    ∃ v μ', f_X5_bestPlace KF μ 9 (nI c) (nI l) = some (v, μ') ∧ FT μ μ' ∧ BSP f D C c l w (fun _ => True) v := by
  have nw : nat (f (86 + 10 * l)) = w := by rw [ew, nat_n (by omega)]
  obtain ⟨a, e1, z⟩ := lp (fun n o (t : Mm × Int32 × Int32 × Int32) => f_X5_bestPlace_l11 KF 9 (nI c) (nI l) n t.1 t.2.1 t.2.2.1 t.2.2.2 (nI o)) 24
    (fun o t => FT μ t.1 ∧ BSP f D C c l w (fun i => i < o) t.2.1 ∧ (t.2.1 = -1 ∨ ∃ b, b < 24 ∧ t.2.1 = nI b ∧ t.2.2.1 = nI (badN f l b) ∧ t.2.2.2 = priV f c l b w))
    (fun a => FT μ a.2 ∧ BSP f D C c l w (fun i => i < 24) a.1)
    (by
      rintro n o ⟨μ', b, u, p⟩ ho ⟨q1, q2, q3⟩
      have q1 : FT μ μ' := q1
      have q2 : BSP f D C c l w (fun i => i < o) b := q2
      have q3 : b = -1 ∨ ∃ i, i < 24 ∧ b = nI i ∧ u = nI (badN f l i) ∧ p = priV f c l i w := q3
      refine Or.inr ?_
      have h' := h.q q1
      have w1 := c_why h' hc hl ho ew hw1 hw2
      have bl : ∀ i, badN f l i ≤ 72 := fun i => by
        obtain ⟨hN, ew2, -, -⟩ := prP_ok h.2.2 hl
        rcases PL_q (P := prP f l) (o := i) (s := stQ f) 6 with g | g
        · have : qb (stQ f) = 0 := rfl
          show qb (PL (prP f l) i 6 (stQ f)) ≤ 72
          omega
        · have := hN.2.2.1.2
          omega
      simp (disch := omega) only [f_X5_bestPlace_l11, L23, ltN, if_neg (show ¬ 23 < o by omega), w1, bd_s, l1_s]
      by_cases t : whyV f D C c l o w = 0
      · rw [if_pos t]
        obtain ⟨how, -, -⟩ := whyV_0 t
        obtain ⟨μ1, y1, y3⟩ := c_unread h' hl (o := o) (by rw [nw]; exact how)
        have h1 := h'.q y3
        have z1 := c_price h1 hc hl ew hw1 hw2 how
        simp only [y1, z1, bd_s, l1_s]
        have fr := q1.trans y3
        -- the place o is taken
        have take : (∀ i, i < 24 → i < o → alO f D C c l w i → ltO f c l w o i) → BSP f D C c l w (fun i => i < o + 1) (nI o) := fun hb =>
          Or.inr ⟨o, ho, Nat.lt_succ_self o, rfl, t, fun i i1 i2 i3 i4 => by
            by_cases e : i = o
            · subst e
              exact ltO.irr i4
            · exact ltO.irr (ltO.trans (hb i i1 (by have i2 : i < o + 1 := i2; omega) i3) i4), fun i i1 i2 i3 => hb i (by omega) (by omega) i3⟩
        have own : nI o = -1 ∨ ∃ i, i < 24 ∧ nI o = nI i ∧ nI (badN f l o) = nI (badN f l i) ∧ priV f c l o w = priV f c l i w := Or.inr ⟨o, ho, rfl, rfl, rfl⟩
        rcases q2 with ⟨eb, hb⟩ | ⟨k, k1, k2, k3, k4, k5, k6⟩
        · simp only [if_pos eb, ← nI_succ o]
          exact ⟨(μ1, nI o, nI (badN f l o), priV f c l o w), rfl, fr, take (fun i i1 i2 i3 => absurd i3 (hb i i1 i2)), own⟩
        · have k2 : k < o := k2
          have nb : ¬ b = -1 := by rw [k3]; exact m1_ne (by omega)
          rcases q3 with q3 | ⟨i, i1, i2, i3, i4⟩
          · exact absurd q3 nb
          have eik : i = k := by
            rw [k3, eqN (by omega) (by omega)] at i2
            exact i2.symm
          subst eik
          have bo := bl o
          have bi := bl i
          rw [if_neg nb, i3, i4]
          simp (disch := omega) only [ltN, eqN]
          -- o is better than i: it is better than all before it
          have up : ltO f c l w o i → ∀ j, j < 24 → j < o → alO f D C c l w j → ltO f c l w o j := fun hoi j j1 j2 j3 => by
            rcases ltO.tot (k5 j j1 j2 j3) with g | ⟨g1, g2⟩
            · exact ltO.trans hoi g
            · rcases hoi with x | ⟨x, x'⟩
              · exact Or.inl (by omega)
              · exact Or.inr ⟨by omega, by rw [g2]; exact x'⟩
          -- o is not better: i stays
          have stay : ¬ ltO f c l w o i → BSP f D C c l w (fun i => i < o + 1) b := fun hn => Or.inr ⟨i, k1, by show i < o + 1; omega, k3, k4, fun j j1 j2 j3 => by
              by_cases e : j = o
              · rw [e]; exact hn
              · exact k5 j j1 (by have j2 : j < o + 1 := j2; show j < o; omega) j3, fun j j1 j2 j3 => k6 j j1 (by show j < o; omega) j3⟩
          have keep : b = -1 ∨ ∃ j, j < 24 ∧ b = nI j ∧ nI (badN f l i) = nI (badN f l j) ∧ priV f c l i w = priV f c l j w := Or.inr ⟨i, i1, k3, rfl, rfl⟩
          by_cases t2 : badN f l o < badN f l i
          · simp only [if_pos t2, ← nI_succ o]
            exact ⟨(μ1, nI o, nI (badN f l o), priV f c l o w), rfl, fr, take (up (Or.inl t2)), own⟩
          · rw [if_neg t2]
            by_cases t3 : badN f l o = badN f l i
            · rw [if_pos t3]
              by_cases t4 : priV f c l i w ≤ priV f c l o w
              · simp only [if_pos t4, ← nI_succ o]
                refine ⟨(μ1, b, nI (badN f l i), priV f c l i w), rfl, fr, stay (fun hn => ?_), keep⟩
                rcases hn with x | ⟨-, x⟩
                · exact t2 x
                · exact Int32.lt_irrefl (Int32.lt_of_lt_of_le x t4)
              · simp only [if_neg t4, ← nI_succ o]
                exact ⟨(μ1, nI o, nI (badN f l o), priV f c l o w), rfl, fr, take (up (Or.inr ⟨t3, Int32.not_le.mp t4⟩)), own⟩
            · simp only [if_neg t3, ← nI_succ o]
              refine ⟨(μ1, b, nI (badN f l i), priV f c l i w), rfl, fr, stay (fun hn => ?_), keep⟩
              rcases hn with x | ⟨x, -⟩
              · exact t2 x
              · exact t3 x
      · rw [if_neg t, ← nI_succ o]
        refine ⟨(μ', b, u, p), rfl, q1, ?_, q3⟩
        have ext : ∀ i, i < o + 1 → alO f D C c l w i → i < o := fun i hi ha => by
          by_cases e : i = o
          · rw [e] at ha
            exact absurd ha t
          · omega
        rcases q2 with ⟨eb, hb⟩ | ⟨k, k1, k2, k3, k4, k5, k6⟩
        · exact Or.inl ⟨eb, fun i i1 i2 i3 => hb i i1 (ext i i2 i3) i3⟩
        · exact Or.inr ⟨k, k1, by have k2 : k < o := k2; show k < o + 1; omega, k3, k4, fun i i1 i2 i3 => k5 i i1 (ext i i2 i3) i3, fun i i1 i2 i3 => k6 i i1 (ext i i2 i3) i3⟩)
    (by
      rintro n ⟨μ', b, u, p⟩ ⟨q1, q2, -⟩
      refine ⟨(b, μ'), ?_, q1, q2⟩
      simp (disch := omega) only [f_X5_bestPlace_l11, L23, ltN, if_pos (show 23 < 24 by omega)]) 24 0 (μ, -1, 0, 0) FU (by omega) (by unfold FU; omega) ⟨FrI.rfl, Or.inl ⟨rfl, fun i _ hi => absurd hi (Nat.not_lt_zero i)⟩, Or.inl rfl⟩
  obtain ⟨v, μ'⟩ := a
  obtain ⟨z1, z2⟩ := z
  refine ⟨v, μ', ?_, z1, ?_⟩
  · unfold f_X5_bestPlace
    rw [show f_X5_bestPlace_l11 KF 9 (nI c) (nI l) FU μ (-1) 0 0 0 = some (v, μ') from e1]
    rfl
  · rcases z2 with ⟨eb, hb⟩ | ⟨k, k1, k2, k3, k4, k5, k6⟩
    · exact Or.inl ⟨eb, fun i i1 _ => hb i i1 i1⟩
    · exact Or.inr ⟨k, k1, trivial, k3, k4, fun i i1 _ => k5 i i1 i1, fun i i1 _ => k6 i i1 (by show i < 24; omega)⟩
end PureBest
