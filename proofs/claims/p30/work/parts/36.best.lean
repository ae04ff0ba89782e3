/-! PURE: the law: the best place -/
section PureLBest
def dn (d : Nat) : Int32 := if d < 24 then nI (23 - d) else -1
theorem dn_s : ∀ d, d < 24 → nI (23 - d) + (-1) = dn (d + 1) := by decide +kernel
theorem dn_a {d : Nat} (h : d < 24) : dn d = nI (23 - d) := if_pos h
theorem m1_lt : (-1 : Int32) < 0 := by decide
theorem l_best {D L C c l w : Nat} {ν : Mm} {f : Nat → Int32} (hr : LR ν f) (hw : WF f D L C) (hc : c < C) (hl : l < L) (ew : f (86 + 10 * l) = nI w) (hw1 : 1 ≤ w) (hw2 : w ≤ 12) :
    ∃ v, f_L_best KF ν 139 140 141 143 144 (nI c) (nI l) = some v ∧ BSP f D C c l w (fun _ => True) v := by
  have nw : nat (f (86 + 10 * l)) = w := by rw [ew, nat_n (by omega)]
  have bl : ∀ i, badN f l i ≤ 72 := fun i => by
    obtain ⟨hN, ew2, -, -⟩ := prP_ok hw hl
    rcases PL_q (P := prP f l) (o := i) (s := stQ f) 6 with g | g
    · have : qb (stQ f) = 0 := rfl
      show qb (PL (prP f l) i 6 (stQ f)) ≤ 72
      omega
    · have := hN.2.2.1.2
      omega
  obtain ⟨v, e1, z⟩ := lp (fun n o (t : Int32 × Int32 × Int32) => f_L_best_l13 KF ν 139 140 141 143 144 (nI c) (nI l) n t.1 t.2.1 t.2.2 (dn o)) 24
    (fun o t => BSP f D C c l w (fun i => 23 < i + o) t.1 ∧ (t.1 = -1 ∨ ∃ b, b < 24 ∧ t.1 = nI b ∧ t.2.1 = nI (badN f l b) ∧ t.2.2 = priV f c l b w))
    (fun a => BSP f D C c l w (fun i => 23 < i + 24) a)
    (by
      rintro n d ⟨b, u, p⟩ hd ⟨q2, q3⟩
      have q2 : BSP f D C c l w (fun i => 23 < i + d) b := q2
      have q3 : b = -1 ∨ ∃ i, i < 24 ∧ b = nI i ∧ u = nI (badN f l i) ∧ p = priV f c l i w := q3
      refine Or.inr ?_
      have ho : 23 - d < 24 := by omega
      have w1 := l_why hr hw hc hl ho ew hw1 hw2
      have n0 : ¬ nI (23 - d) < 0 := nI_pos (by omega)
      simp only [dn_a hd, f_L_best_l13, if_neg n0, w1, bd_s, l1_s, dn_s d hd]
      by_cases t : whyV f D C c l (23 - d) w = 0
      · obtain ⟨how, -, -⟩ := whyV_0 t
        have y1 := l_unread hr hw hl ho (by rw [nw]; exact how)
        have z1 := l_price hr hw hc hl ew hw1 hw2 how
        simp only [if_pos t, y1, z1, bd_s, l1_s]
        have take : (∀ i, i < 24 → 23 < i + d → alO f D C c l w i → ¬ ltO f c l w i (23 - d)) → BSP f D C c l w (fun i => 23 < i + (d + 1)) (nI (23 - d)) := fun hb =>
          Or.inr ⟨23 - d, ho, by show 23 < 23 - d + (d + 1); omega, rfl, t, fun i i1 i2 i3 i4 => by
            have i2 : 23 < i + (d + 1) := i2
            by_cases e : i = 23 - d
            · subst e
              exact ltO.irr i4
            · exact hb i i1 (by omega) i3 i4, fun i i1 i2 i3 => by
            have i2 : 23 < i + (d + 1) := i2
            omega⟩
        have own : nI (23 - d) = -1 ∨ ∃ i, i < 24 ∧ nI (23 - d) = nI i ∧ nI (badN f l (23 - d)) = nI (badN f l i) ∧ priV f c l (23 - d) w = priV f c l i w := Or.inr ⟨23 - d, ho, rfl, rfl, rfl⟩
        rcases q2 with ⟨eb, hb⟩ | ⟨k, k1, k2, k3, k4, k5, k6⟩
        · simp only [if_pos (show b < 0 by rw [eb]; exact m1_lt)]
          exact ⟨(nI (23 - d), nI (badN f l (23 - d)), priV f c l (23 - d) w), rfl, take (fun i i1 i2 i3 => absurd i3 (hb i i1 i2)), own⟩
        · have k2 : 23 < k + d := k2
          have nb : ¬ b = -1 := by rw [k3]; exact m1_ne (by omega)
          have nb0 : ¬ b < 0 := by rw [k3]; exact nI_pos (by omega)
          rcases q3 with q3 | ⟨i, i1, i2, i3, i4⟩
          · exact absurd q3 nb
          have eik : i = k := by
            rw [k3, eqN (by omega) (by omega)] at i2
            exact i2.symm
          subst eik
          have bo := bl (23 - d)
          have bi := bl i
          simp only [if_neg nb0, i3, i4]
          simp (disch := omega) only [ltN, eqN]
          have keep : b = -1 ∨ ∃ j, j < 24 ∧ b = nI j ∧ nI (badN f l i) = nI (badN f l j) ∧ priV f c l i w = priV f c l j w := Or.inr ⟨i, i1, k3, rfl, rfl⟩
          have stay : ltO f c l w i (23 - d) → BSP f D C c l w (fun i => 23 < i + (d + 1)) b := fun hn => Or.inr ⟨i, k1, by show 23 < i + (d + 1); omega, k3, k4, fun j j1 j2 j3 j4 => by
              have j2 : 23 < j + (d + 1) := j2
              by_cases e : j = 23 - d
              · rw [e] at j4
                exact ltO.irr (ltO.trans hn j4)
              · exact k5 j j1 (by show 23 < j + d; omega) j3 j4, fun j j1 j2 j3 => by
              have j2 : 23 < j + (d + 1) := j2
              by_cases e : j = 23 - d
              · rw [e]
                exact hn
              · exact k6 j j1 (by show 23 < j + d; omega) j3⟩
          by_cases t2 : badN f l (23 - d) < badN f l i
          · simp only [if_pos t2]
            exact ⟨(nI (23 - d), nI (badN f l (23 - d)), priV f c l (23 - d) w), rfl, take (fun j j1 j2 j3 j4 => k5 j j1 j2 j3 (ltO.trans j4 (Or.inl t2))), own⟩
          · simp only [if_neg t2]
            by_cases t3 : badN f l (23 - d) = badN f l i
            · simp only [if_pos t3]
              by_cases t4 : priV f c l i w < priV f c l (23 - d) w
              · simp only [if_pos t4]
                exact ⟨(b, nI (badN f l i), priV f c l i w), rfl, stay (Or.inr ⟨t3.symm, t4⟩), keep⟩
              · simp only [if_neg t4]
                refine ⟨(nI (23 - d), nI (badN f l (23 - d)), priV f c l (23 - d) w), rfl, take (fun j j1 j2 j3 j4 => k5 j j1 j2 j3 ?_), own⟩
                rcases j4 with x | ⟨x, y⟩
                · exact Or.inl (by omega)
                · exact Or.inr ⟨by omega, Int32.lt_of_lt_of_le y (Int32.not_lt.mp t4)⟩
            · simp only [if_neg t3]
              exact ⟨(b, nI (badN f l i), priV f c l i w), rfl, stay (Or.inl (by omega)), keep⟩
      · simp only [if_neg t]
        refine ⟨(b, u, p), rfl, ?_, q3⟩
        have ext : ∀ i, 23 < i + (d + 1) → alO f D C c l w i → 23 < i + d := fun i hi ha => by
          by_cases e : i = 23 - d
          · rw [e] at ha
            exact absurd ha t
          · omega
        rcases q2 with ⟨eb, hb⟩ | ⟨k, k1, k2, k3, k4, k5, k6⟩
        · exact Or.inl ⟨eb, fun i i1 i2 i3 => hb i i1 (ext i i2 i3) i3⟩
        · exact Or.inr ⟨k, k1, by have k2 : 23 < k + d := k2; show 23 < k + (d + 1); omega, k3, k4, fun i i1 i2 i3 => k5 i i1 (ext i i2 i3) i3, fun i i1 i2 i3 => k6 i i1 (ext i i2 i3) i3⟩)
    (by
      rintro n ⟨b, u, p⟩ ⟨q2, -⟩
      refine ⟨b, ?_, q2⟩
      simp only [f_L_best_l13, show dn 24 = -1 from rfl, if_pos m1_lt]) 24 0 (-1, 0, 0) 25 (by omega) (by omega) ⟨Or.inl ⟨rfl, fun i hi h => absurd h (by omega)⟩, Or.inl rfl⟩
  refine ⟨v, ?_, ?_⟩
  · unfold f_L_best
    rw [show (23 : Int32) = dn 0 from rfl, show f_L_best_l13 KF ν 139 140 141 143 144 (nI c) (nI l) 25 (-1) 0 0 (dn 0) = some v from e1]
    rfl
  · rcases z with ⟨eb, hb⟩ | ⟨k, k1, k2, k3, k4, k5, k6⟩
    · exact Or.inl ⟨eb, fun i i1 _ => hb i i1 (by omega)⟩
    · exact Or.inr ⟨k, k1, trivial, k3, k4, fun i i1 _ => k5 i i1 (by omega), fun i i1 _ => k6 i i1 (by omega)⟩
end PureLBest
