/-! PURE: printing in the law's rows -/
section PureLPrinted
def bkL (ν : Mm) (c l : Nat) (p x : Int32) : Mm :=
  sI (sI (sI (sI (sI (sI (sI (sI ν 144 (6 * c + 2) (ν.1 144 (6 * c + 2) + p)) 144 (6 * c + 3) (ν.1 144 (6 * c + 3) + x * p)) 144 (6 * c + 4) (ν.1 144 (6 * c + 4) + 1)) 144 (6 * c + 5) (ν.1 144 (6 * c + 5) + x)) 143 (10 * l + 8) (ν.1 143 (10 * l + 8) + 1)) 143 (10 * l + 9) (ν.1 143 (10 * l + 9) + x)) 139 11 (ν.1 139 11 + 1)) 139 12 (ν.1 139 12 + x)
theorem bkL_v {ν : Mm} {c l : Nat} {p x : Int32} : ((bkL ν c l p x).1 144 (6 * c + 2) = ν.1 144 (6 * c + 2) + p ∧ (bkL ν c l p x).1 144 (6 * c + 3) = ν.1 144 (6 * c + 3) + x * p ∧ (bkL ν c l p x).1 144 (6 * c + 4) = ν.1 144 (6 * c + 4) + 1 ∧ (bkL ν c l p x).1 144 (6 * c + 5) = ν.1 144 (6 * c + 5) + x) ∧
    ((bkL ν c l p x).1 143 (10 * l + 8) = ν.1 143 (10 * l + 8) + 1 ∧ (bkL ν c l p x).1 143 (10 * l + 9) = ν.1 143 (10 * l + 9) + x) ∧ ((bkL ν c l p x).1 139 11 = ν.1 139 11 + 1 ∧ (bkL ν c l p x).1 139 12 = ν.1 139 12 + x) := by
  unfold bkL
  refine ⟨⟨?_, ?_, ?_, ?_⟩, ⟨?_, ?_⟩, ⟨?_, ?_⟩⟩ <;> simp (disch := omega) only [sI_no, sI_of, sI_at]
theorem bkL_o {ν : Mm} {c l : Nat} {p x : Int32} : (∀ j, j ≠ 11 → j ≠ 12 → (bkL ν c l p x).1 139 j = ν.1 139 j) ∧ (∀ j, j ≠ 10 * l + 8 → j ≠ 10 * l + 9 → (bkL ν c l p x).1 143 j = ν.1 143 j) ∧ (∀ j, (j < 6 * c + 2 ∨ 6 * c + 6 ≤ j) → (bkL ν c l p x).1 144 j = ν.1 144 j) ∧ ∀ a, a ≠ 139 → a ≠ 143 → a ≠ 144 → (bkL ν c l p x).1 a = ν.1 a := by
  unfold bkL
  refine ⟨fun j h1 h2 => ?_, fun j h1 h2 => ?_, fun j h1 => ?_, fun a h1 h2 h3 => ?_⟩
  · simp (disch := omega) only [sI_no, sI_of]
  · simp (disch := omega) only [sI_no, sI_of]
  · simp (disch := omega) only [sI_no, sI_of]
  · simp (disch := omega) only [sI_rw]
theorem FLw.s {ν ν' : Mm} (h : FLw ν ν') {k j : Nat} {v : Int32} (hk : 139 ≤ k) : FLw ν (sI ν' k j v) := FrI.sI h hk
theorem FLw.refl {ν : Mm} : FLw ν ν := FrI.rfl
theorem bkL_f {ν : Mm} {c l : Nat} {p x : Int32} : FLw ν (bkL ν c l p x) := by
  unfold bkL
  exact (((((((FLw.refl.s (by omega)).s (by omega)).s (by omega)).s (by omega)).s (by omega)).s (by omega)).s (by omega)).s (by omega)
theorem KF_G : KG KF 139 140 141 142 143 := ⟨by decide +kernel, by decide, by decide, by decide, by decide, by decide⟩
theorem l_printed {D L C c l o w : Nat} {ν : Mm} (hw : WF (RW ν) D L C) (hc : c < C) (hl : l < L) (ho : o < 24) (ew : RW ν (86 + 10 * l) = nI w) (hw1 : 1 ≤ w) (hw2 : w ≤ 12) (how : o + w ≤ D) :
    ∃ ν', f_L_printed KF ν 139 140 141 142 143 144 (nI c) (nI l) (nI o) = some (nI (badN (RW ν) l o), ν') ∧ FLw ν ν' ∧ PRT (RW ν) (RW ν') D c l (PL (prP (RW ν) l) o 6 (stQ (RW ν))) (priV (RW ν) c l o w) (if nI (badN (RW ν) l o) ≤ RW ν 6 then 0 else 1) ∧ ∀ d, D ≤ d → ν'.1 141 d = ν.1 141 d := by
  have hr := LR_RW ν
  have hD := hw.1
  have hL := hw.2.1
  have hC := hw.2.2.1
  obtain ⟨f, ef⟩ : ∃ f, f = RW ν := ⟨_, rfl⟩
  rw [← ef] at hw ew hr hD hL hC ⊢
  have e1 := l_price hr hw hc hl ew hw1 hw2 how
  obtain ⟨ok, -⟩ := prP_ok hw hl
  have epw : pw (prP f l) = w := by
    show nat (f (86 + 10 * l)) = w
    rw [ew, nat_n (by omega)]
  obtain ⟨hCC, hbk⟩ := LR_LC (ν := ν) (G := 139) (B := 143) hw hl hr.1 hr.2.2.1
  have hs : LHd 139 140 141 142 D ν (stQ f) := by
    refine ⟨fun x hx => ⟨?_, ?_, ?_⟩, ?_⟩
    · rw [hr.e (by omega)]; exact (wf_heat hw hx).1
    · rw [hr.y (by omega)]; exact (wf_heat hw hx).2
    · exact hr.u (by omega)
    · exact hr.1 10 (by omega)
  obtain ⟨ν1, e2, ⟨t1, t2⟩, fl, t13⟩ := l_lines KF_G ok hCC hbk (by omega) ho (by omega) hs (wf_QB hw) rfl
  have e2 : f_L_lines KF ν 139 140 141 142 143 (nI l) (nI o) = some (nI (badN f l o), ν1) := e2
  obtain ⟨fr, fg, fd⟩ := fl
  have fr2 : ∀ a, ¬ (a = 139 ∨ a = 140 ∨ a = 141 ∨ a = 142) → ν1.1 a = ν.1 a := fun a ha => fr.2 a ha
  generalize hss : PL (prP f l) o 6 (stQ f) = s at t1 t2
  have e6 : ν1.1 139 6 = f 6 := (fg 6 (by omega) (by omega)).trans (hr.1 6 (by omega))
  generalize hxx : (if nI (badN f l o) ≤ f 6 then (0 : Int32) else 1) = x
  obtain ⟨⟨v2, v3, v4, v5⟩, ⟨v8, v9⟩, v11, v12⟩ := bkL_v (ν := ν1) (c := c) (l := l) (p := priV f c l o w) (x := x)
  obtain ⟨o1, o2, o3, o4⟩ := bkL_o (ν := ν1) (c := c) (l := l) (p := priV f c l o w) (x := x)
  have hlw : FLw ν ν1 := fr.mono (fun a ha => by show 139 ≤ a; have ha : a = 139 ∨ a = 140 ∨ a = 141 ∨ a = 142 := ha; omega)
  have i144 : ∀ j, ν1.1 144 j = ν.1 144 j := fun j => by rw [fr2 144 (by omega)]
  have i143 : ∀ j, ν1.1 143 j = ν.1 143 j := fun j => by rw [fr2 143 (by omega)]
  refine ⟨bkL ν1 c l (priV f c l o w) x, ?_, hlw.trans bkL_f, ⟨fun d hd => ?_, ⟨?_, ?_⟩, ⟨?_, ?_, ?_, ?_⟩, ⟨?_, ?_⟩, ⟨?_, ?_⟩, fun j hj h10 h11 h12 h13 h8 h9 hcj hdj => ?_⟩, fun d hd => ?_⟩
  · unfold f_L_printed
    rw [e1, bd_s, e2, bd_s, l1_s, l1_s]
    simp (disch := omega) only [l1_s, L2, L3, L4, L5, L6, L8, L9, L10, L11, L12, pk_mul, nI_add, K139, K143, K144, gd_n, ix_n, e6, hxx, sI_no, sI_of]
    rfl
  · obtain ⟨x1, x2, x3⟩ := t1 d hd
    rw [RW_e (by omega), RW_y (by omega), RW_u (by omega), o4 140 (by omega) (by omega) (by omega), o4 141 (by omega) (by omega) (by omega), o4 142 (by omega) (by omega) (by omega)]
    exact ⟨x1, x2, x3⟩
  · rw [RW_g (by omega), o1 10 (by omega) (by omega)]
    exact t2
  · rw [RW_g (by omega), o1 13 (by omega) (by omega), t13, hr.1 13 (by omega)]
  · rw [Nat.add_assoc, RW_c, v2, i144, hr.c (show c < 6 by omega) (by omega), Nat.add_assoc]
  · rw [Nat.add_assoc, RW_c, v3, i144, hr.c (show c < 6 by omega) (by omega), Nat.add_assoc]
  · rw [Nat.add_assoc, RW_c, v4, i144, hr.c (show c < 6 by omega) (by omega), Nat.add_assoc]
  · rw [Nat.add_assoc, RW_c, v5, i144, hr.c (show c < 6 by omega) (by omega), Nat.add_assoc]
  · rw [Nat.add_assoc, RW_l (by omega), v8, i143, hr.l (show l < 6 by omega) (by omega), Nat.add_assoc]
  · rw [Nat.add_assoc, RW_l (by omega), v9, i143, hr.l (show l < 6 by omega) (by omega), Nat.add_assoc]
  · rw [RW_g (by omega), v11, fg 11 (by omega) (by omega), hr.1 11 (by omega)]
  · rw [RW_g (by omega), v12, fg 12 (by omega) (by omega), hr.1 12 (by omega)]
  · refine Eq.trans ?_ (congrFun ef j).symm
    refine RW_eq (fun h => ?_) (fun d h e => ?_) (fun d h e => ?_) (fun d h e => ?_) (fun i h e => ?_) (fun i e => ?_)
    · rw [o1 j h11 h12, fg j h10 h13]
    · rw [o4 140 (by omega) (by omega) (by omega)]
      exact (fd d (by omega)).1
    · rw [o4 141 (by omega) (by omega) (by omega)]
      exact (fd d (by omega)).2.1
    · rw [o4 142 (by omega) (by omega) (by omega)]
      exact (fd d (by omega)).2.2
    · rw [o2 i (by omega) (by omega), i143]
    · rw [o3 i (by omega), i144]
  · rw [o4 141 (by omega) (by omega) (by omega)]
    exact (fd d hd).2.1
end PureLPrinted
