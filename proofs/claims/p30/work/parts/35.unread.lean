/-! PURE: the law: what would be unread -/
section PureLUnread
def KU : Nat → Nat × Nat := ksp (ksp (ksp (ks4 KF 139 140 141 143) 4 (8, 14)) 5 (8, 24)) 6 (8, 24)
theorem KU_0 : KU 0 = (8, 14) := by decide +kernel
theorem KU_1 : KU 1 = (8, 24) := by decide +kernel
theorem KU_2 : KU 2 = (8, 24) := by decide +kernel
theorem KU_4 : KU 4 = (8, 14) := by decide +kernel
theorem KU_5 : KU 5 = (8, 24) := by decide +kernel
theorem KU_6 : KU 6 = (8, 24) := by decide +kernel
theorem KU_G : KG (ksp KU 7 (8, 24)) 4 5 6 7 3 := ⟨by decide +kernel, by decide, by decide, by decide, by decide, by decide⟩
theorem nw_no {ν : Mm} {k a : Nat} (h : a ≠ k) : (nwM ν k).1 a = ν.1 a := upR_row _ h
theorem nw_at {ν : Mm} {k j : Nat} : (nwM ν k).1 k j = 0 := by
  show upR ν.1 k (fun _ => 0) k j = 0
  rw [upR_self]
def stO (f : Nat → Int32) : QQ := (qh (stQ f), qy (stQ f), fun _ => 0, f 10, 0)
/-- the unread cells don't hang on what was burnt before -/
theorem PL_u {P : PP} {o : Nat} {s s' : QQ} (e1 : qh s = qh s') (e2 : qy s = qy s') (e3 : qb s = qb s') : qb (PL P o 6 s) = qb (PL P o 6 s') := by
  obtain ⟨t, et⟩ : ∃ t : QQ, t = ((fun x => qh s (x + o), fun x => qy s (x + o), fun _ => 0, 0, qb s) : QQ) := ⟨_, rfl⟩
  have h1 : SH (pw P) o s t := ⟨fun x _ => by rw [et]; exact ⟨Eq.refl _, Eq.refl _⟩, by rw [et]; exact Eq.refl _⟩
  have h2 : SH (pw P) o s' t := ⟨fun x _ => by rw [et, ← e1, ← e2]; exact ⟨Eq.refl _, Eq.refl _⟩, by rw [et, ← e3]; exact Eq.refl _⟩
  exact (PL_sh h1 6).2.symm.trans (PL_sh h2 6).2
theorem bad_0 {f : Nat → Int32} {P : PP} {o : Nat} : qb (PL P o 6 (stO f)) = qb (PL P o 6 (stQ f)) := PL_u rfl rfl rfl
theorem LR_LC {D L C l : Nat} {ν : Mm} {f : Nat → Int32} {G B : Nat} (hw : WF f D L C) (hl : l < L) (e1 : ∀ j, j < 14 → ν.1 G j = f j) (e2 : ∀ j, j < 60 → ν.1 B j = f (86 + j)) : LC l (prP f l) D G B ν ∧ ν.1 B (10 * l + 1) = nI (nat (f (86 + 10 * l + 1))) := by
  obtain ⟨-, z1, z2, z3, z4, z5, z6, z7⟩ := prP_ok hw hl
  have hL := hw.2.1
  refine ⟨⟨⟨?_, ?_, ?_, ?_, ?_, ?_⟩, ?_, fun r hr => ?_⟩, ?_⟩
  · rw [e1 0 (by omega)]; exact hw.1.1
  · rw [e1 1 (by omega)]; exact z3
  · rw [e1 2 (by omega)]; exact z4
  · rw [e1 3 (by omega)]; exact z5
  · rw [e1 4 (by omega)]; exact z6
  · rw [e1 5 (by omega)]; exact z7
  · rw [e2 _ (by omega)]; exact z1
  · rw [e2 _ (by omega)]
    show f (86 + (10 * l + 2 + r)) = f (86 + 10 * l + (2 + r))
    congr 1
    omega
  · rw [e2 _ (by omega)]; exact z2
theorem wf_heat {D L C d : Nat} {f : Nat → Int32} (hw : WF f D L C) (hd : d < D) : f (14 + 3 * d) = nI (qh (stQ f) d) ∧ f (14 + 3 * d + 1) = nI (qy (stQ f) d) := by
  obtain ⟨h1, h2⟩ := hw.2.2.2.2.1 d hd
  exact ⟨(nat_b h1 (by omega)).1, (nat_b h2 (by omega)).1⟩
theorem l_unread {D L C l o : Nat} {ν : Mm} {f : Nat → Int32} (hr : LR ν f) (hw : WF f D L C) (hl : l < L) (ho : o < 24) (how : o + nat (f (86 + 10 * l)) ≤ D) : f_L_unread KF ν 139 140 141 143 (nI l) (nI o) = some (nI (badN f l o)) := by
  have hD := hw.1
  obtain ⟨ok, -⟩ := prP_ok hw hl
  obtain ⟨μ1, e1, f1, c1⟩ := l_copies (K := KU) (ν := nwM (nwM (nwM (ms4 ν 139 140 141 143) 4) 5) 6) KU_0 KU_4 (by omega) (by omega)
  obtain ⟨μ2, e2, f2, c2⟩ := l_copies (K := KU) (ν := μ1) KU_1 KU_5 (by omega) (by omega)
  obtain ⟨μ3, e3, f3, c3⟩ := l_copies (K := KU) (ν := μ2) KU_2 KU_6 (by omega) (by omega)
  have m0 : ∀ a, a < 4 → (nwM (nwM (nwM (ms4 ν 139 140 141 143) 4) 5) 6).1 a = (ms4 ν 139 140 141 143).1 a := fun a ha => by
    rw [nw_no (by omega), nw_no (by omega), nw_no (by omega)]
  have m1 : ∀ a, a ≠ 4 → μ1.1 a = (nwM (nwM (nwM (ms4 ν 139 140 141 143) 4) 5) 6).1 a := f1.2
  have m2 : ∀ a, a ≠ 5 → μ2.1 a = μ1.1 a := f2.2
  have m3 : ∀ a, a ≠ 6 → μ3.1 a = μ2.1 a := f3.2
  have r3 : ∀ a, a < 4 → (nwM μ3 7).1 a = (ms4 ν 139 140 141 143).1 a := fun a ha => by
    rw [nw_no (by omega), m3 a (by omega), m2 a (by omega), m1 a (by omega), m0 a ha]
  have a4 : ∀ j, j < 14 → (nwM μ3 7).1 4 j = f j := fun j hj => by
    rw [nw_no (by omega), m3 4 (by omega), m2 4 (by omega), c1 j hj, m0 0 (by omega)]
    exact hr.1 j hj
  have a5 : ∀ j, j < 24 → (nwM μ3 7).1 5 j = f (14 + 3 * j) := fun j hj => by
    rw [nw_no (by omega), m3 5 (by omega), c2 j hj, m1 1 (by omega), m0 1 (by omega)]
    exact hr.e hj
  have a6 : ∀ j, j < 24 → (nwM μ3 7).1 6 j = f (14 + 3 * j + 1) := fun j hj => by
    rw [nw_no (by omega), c3 j hj, m2 2 (by omega), m1 2 (by omega), m0 2 (by omega)]
    exact hr.y hj
  have a3 : ∀ j, j < 60 → (nwM μ3 7).1 3 j = f (86 + j) := fun j hj => by
    rw [r3 3 (by omega)]
    exact hr.2.2.1 j hj
  obtain ⟨hC, hbk⟩ := LR_LC (ν := nwM μ3 7) (G := 4) (B := 3) hw hl a4 a3
  have hs : LHd 4 5 6 7 D (nwM μ3 7) (stO f) := by
    refine ⟨fun x hx => ⟨?_, ?_, ?_⟩, ?_⟩
    · rw [a5 x (by omega)]; exact (wf_heat hw hx).1
    · rw [a6 x (by omega)]; exact (wf_heat hw hx).2
    · exact nw_at
    · exact a4 10 (by omega)
  have hq : QB D (stO f) := fun d hd => wf_QB hw d hd
  obtain ⟨ν', e4, -, fl, -⟩ := l_lines KU_G ok hC hbk (by omega) ho how hs hq rfl
  have q0 : ∀ a, a < 4 → ν'.1 a = (ms4 ν 139 140 141 143).1 a := fun a ha => by
    rw [fl.1.2 a (by show ¬ (a = 4 ∨ a = 5 ∨ a = 6 ∨ a = 7); omega), r3 a ha]
  unfold f_L_unread
  rw [gd_t (by decide)]
  rw [show f_L_copies (ksp (ksp (ksp (ks4 KF 139 140 141 143) 4 (8, 14)) 5 (8, 24)) 6 (8, 24)) (nwM (nwM (nwM (ms4 ν 139 140 141 143) 4) 5) 6) 0 4 = some μ1 from e1, bd_s]
  rw [show f_L_copies (ksp (ksp (ksp (ks4 KF 139 140 141 143) 4 (8, 14)) 5 (8, 24)) 6 (8, 24)) μ1 1 5 = some μ2 from e2, bd_s]
  rw [show f_L_copies (ksp (ksp (ksp (ks4 KF 139 140 141 143) 4 (8, 14)) 5 (8, 24)) 6 (8, 24)) μ2 2 6 = some μ3 from e3, bd_s]
  rw [show f_L_lines (ksp (ksp (ksp (ksp (ks4 KF 139 140 141 143) 4 (8, 14)) 5 (8, 24)) 6 (8, 24)) 7 (8, 24)) (nwM μ3 7) 4 5 6 7 3 (nI l) (nI o) = _ from e4, bd_s]
  rw [@gd_t _ _ (Classical.propDecidable _) _ ⟨q0 0 (by omega), q0 1 (by omega), q0 2 (by omega), q0 3 (by omega)⟩]
  show some (nI (qb (PL (prP f l) o 6 (stO f)))) = _
  rw [bad_0]
  rfl
end PureLUnread
