/-! PURE: a call of the law: class and reference on one memory -/
section PureQ1
def oJ (ν : Mm) (v : Int32) : Mm := sJ ν 145 0 (Int32.toInt64 v)
theorem oJ_at {ν : Mm} {v : Int32} : (oJ ν v).2.2 145 0 = Int32.toInt64 v := by simp [oJ, sJ, up2]
/-- a call with a wrapper: granted alike, or refused alike -/
def LC (pl : List (Nat × Nat)) (fL fx : Option (Int32 × Mm)) (fm : Mm → Option (Int32 × Mm)) : Prop :=
  (∃ ν1 v ν2, fL = some (0, ν1) ∧ fm ν1 = some (v, ν2) ∧ ν2.1 139 7 = 0 ∧ ν2.2.2 145 0 = Int32.toInt64 v ∧ IV ν2 ν2) ∨
  (∃ ck ν1 w ν2, ck ∈ pl ∧ fx = some (nI ck.1, ν1) ∧ fm ν1 = some (w, ν2) ∧ ν2.1 139 7 = nI ck.2 ∧ IV ν2 ν2)
/-- a call without one -/
def LD {α : Type} (c : Option (α × Mm)) (fm : Mm → Option (α × Mm)) : Prop := ∃ v ν1 ν2, c = some (v, ν1) ∧ fm ν1 = some (v, ν2) ∧ IV ν2 ν2
theorem IV.rl {μ η : Mm} (h : IV μ η) : RF μ := by
  obtain ⟨_, _, _, _, _, h1, _⟩ := h
  exact h1.1
theorem IV.rr {μ η : Mm} (h : IV μ η) : RF η := by
  obtain ⟨_, _, _, _, _, h1, _⟩ := h
  exact h1.2.1
theorem IV.right {μ η η' : Mm} (h : IV μ η) (hR : RF η') (e : ∀ a, 139 ≤ a → η'.1 a = η.1 a) : IV μ η' := by
  obtain ⟨D, L, C, n, m, h1, h2, h3, h4⟩ := h
  exact ⟨D, L, C, n, m, h1.cg h1.1 hR (fun _ _ _ => rfl) (fun j _ => by rw [e 140 (by omega)]), h2.cg rfl rfl (fun _ _ _ => rfl) (by rw [e 139 (by omega)]) (e 142 (by omega)), h3.cg rfl rfl (by rw [e 139 (by omega)]) (e 143 (by omega)), by rw [e 139 (by omega)]; exact h4⟩
theorem IV.join {μ η : Mm} (h : IV μ η) (e1 : ∀ a, a < 139 → η.1 a = μ.1 a) (e2 : η.2.1 4 = μ.2.1 4) : IV η η := by
  obtain ⟨D, L, C, n, m, h1, h2, h3, h4⟩ := h
  exact ⟨D, L, C, n, m, h1.cg h1.2.1 h1.2.1 (fun a _ _ => e1 a (by omega)) (fun _ _ => rfl), h2.cg (by rw [e1 0 (by omega)]) e2 (fun a _ _ => e1 a (by omega)) rfl rfl, h3.cg (by rw [e1 1 (by omega)]) (e1 2 (by omega)) rfl rfl, h4⟩
theorem FT.row {μ μ' : Mm} (h : FT μ μ') {a : Nat} (ha : a < 5 ∨ 8 < a) : μ'.1 a = μ.1 a := h.2 a (fun e => by have e : 5 ≤ a ∧ a ≤ 8 := e; omega)
theorem FW.row {μ μ' : Mm} (h : FW μ μ') {a : Nat} (ha : a ≠ 141) : μ'.1 a = μ.1 a := h.2 a ha
theorem SV.q {n : Nat} {μ η μ' η' : Mm} (h : SV n μ η) (f : FT μ μ') (g : FW η η') : SV n μ' η' := h.cg (by rw [f.row (by omega)]) (by rw [f.1]) (fun a _ _ => f.row (by omega)) (by rw [g.row (by omega)]) (g.row (by omega))
theorem TX.q {n : Nat} {μ η μ' η' : Mm} (h : TX n μ η) (f : FT μ μ') (g : FW η η') : TX n μ' η' := h.cg (by rw [f.row (by omega)]) (f.row (by omega)) (by rw [g.row (by omega)]) (g.row (by omega))
theorem IV.q {μ η μ' η' : Mm} (h : IV μ η) (f : FT μ μ') (g : FW η η') : IV μ' η' := by
  obtain ⟨D, L, C, n, m, h1, h2, h3, h4⟩ := h
  exact ⟨D, L, C, n, m, h1.q f g, h2.q f g, h3.q f g, by rw [g.row (by omega)]; exact h4⟩
theorem IV.j7 {ν ν1 : Mm} (h : IV ν ν1) (e1 : ∀ a, a < 139 → ν1.1 a = ν.1 a) (e2 : ν1.2.1 4 = ν.2.1 4) (v : Int32) : IV (sI ν1 139 7 v) (sI ν1 139 7 v) := (h.s7 v).join (fun a ha => (sI_rw (by omega)).trans (e1 a ha)) e2
theorem lc_wish {pl : List (Nat × Nat)} {ν : Mm} (hν : IV ν ν) {why : Option Int32} {act fm : Mm → Option (Int32 × Mm)} {fL fx : Option (Int32 × Mm)} (hpl : ∀ ck ∈ pl, 0 < ck.1 ∧ ck.1 < 4) (o : ∀ D L C η, CR D L C ν η → OP D L C η pl why act (fm η))
    (eL : ∀ μ1 v μ2, why = some 0 → f_X7_save KF ν 0 = some μ1 → RF μ1 → act μ1 = some (v, μ2) → fL = some (0, oJ μ2 v)) (ex : ∀ c, why = some c → fx = some (c, ν)) : LC pl fL fx fm := by
  obtain ⟨D, L, C, n, m, h1, h2, h3, h4⟩ := id hν
  rcases o D L C ν h1 with ⟨ck, mk, e1, e2⟩ | ⟨e1, g⟩
  · exact Or.inr ⟨ck, ν, 0, sI ν 139 7 (nI ck.2), mk, ex _ e1, e2, sI_at, hν.j7 (fun _ _ => rfl) rfl _⟩
  · obtain ⟨v, μ1, μ2, η2, y1, y2, y3, y4, y5, y6, y7, y8⟩ := grant h1 h2 h3 h4 g
    have hR1 : RF (oJ μ2 v) := y5.rl
    have r1 : ∀ a, 139 ≤ a → (oJ μ2 v).1 a = ν.1 a := fun a ha => y7.1 a ha
    obtain ⟨D', L', C', n', m', k1, k2, k3, k4⟩ := hν.right hR1 r1
    rcases o D' L' C' (oJ μ2 v) k1 with ⟨ck, mk, e3, -⟩ | ⟨-, g'⟩
    · have hc := hpl ck mk
      exact absurd (Option.some.inj (e3.symm.trans e1)) (nI_ne0 (by omega) (by omega))
    · obtain ⟨v', μ1', μ2', η2', z1, z2, z3, z4, z5, z6, z7, z8⟩ := grant k1 k2 k3 k4 g'
      have em : μ1' = μ1 := Option.some.inj (z1.symm.trans y1)
      rw [em] at z3
      have ev := Prod.mk.inj (Option.some.inj (z3.symm.trans y3))
      rw [ev.1] at z4
      rw [ev.2] at z5
      exact Or.inl ⟨oJ μ2 v, v, η2', eL μ1 v μ2 e1 y1 y2 y3, z4, z6, by rw [z8.2]; exact oJ_at, z5.join (fun a ha => z8.1 a ha) (by rw [z8.2]; rfl)⟩
theorem ref_no {β : Type} {c : Nat} {k : Unit → Option β} {v : β} (h0 : 0 < c) (h4 : c < 4) (h : bd (f_X7_refuse (nI c)) k = some v) : False := by
  rcases (show c = 1 ∨ c = 2 ∨ c = 3 by omega) with rfl | rfl | rfl <;> cases h
theorem no_both {α β : Type} {A : Option α} {W : α → Option Int32} {K : α → Option β} {μ μ' : Mm} {v : β} {c : Nat} (h1 : bd A (fun b => bd (W b) fun x => bd (f_X7_refuse x) fun _ => K b) = some v) (h2 : bd A (fun b => bd (W b) fun x => some (x, μ)) = some (nI c, μ')) (h0 : 0 < c) (h4 : c < 4) : False := by
  cases hA : A with
  | none => rw [hA] at h1; cases h1
  | some b =>
    rw [hA, bd_s] at h1 h2
    cases hW : W b with
    | none => rw [hW] at h1; cases h1
    | some x =>
      rw [hW, bd_s] at h1 h2
      have e := (Prod.mk.inj (Option.some.inj h2)).1
      subst e
      exact ref_no h0 h4 h1
theorem lc_quest {pl : List (Nat × Nat)} {ν : Mm} (hν : IV ν ν) {nn : Option Int32} {fm : Mm → Option (Int32 × Mm)} {fL x : Option (Int32 × Mm)} (hpl : ∀ ck ∈ pl, 0 < ck.1 ∧ ck.1 < 4) (q : ∀ D L C m η, CR D L C ν η → TX m ν η → QU ν η pl nn x (fm η))
    (eL : ∀ v, nn = some v → fL = some (0, oJ ν v)) (nb : ∀ v c, nn = some v → x = some (nI c, ν) → 0 < c → c < 4 → False) : LC pl fL x fm := by
  obtain ⟨D, L, C, n, m, h1, h2, h3, h4⟩ := id hν
  rcases q D L C m ν h1 h3 with ⟨v, e1, -⟩ | ⟨ck, mk, e1, e2⟩
  · have hp : IV ν (oJ ν v) := hν.right hν.rl (fun _ _ => rfl)
    obtain ⟨D', L', C', n', m', k1, k2, k3, k4⟩ := id hp
    rcases q D' L' C' m' (oJ ν v) k1 k3 with ⟨v', e3, e4⟩ | ⟨ck, mk, e3, -⟩
    · have ev : v' = v := Option.some.inj (e3.symm.trans e1)
      subst ev
      exact Or.inl ⟨oJ ν v', v', sI (oJ ν v') 139 7 0, eL v' e1, e4, sI_at, oJ_at, hp.j7 (fun _ _ => rfl) rfl 0⟩
    · exact (nb v ck.1 e1 e3 (hpl ck mk).1 (hpl ck mk).2).elim
  · exact Or.inr ⟨ck, ν, 0, sI ν 139 7 (nI ck.2), mk, e1, e2, sI_at, hν.j7 (fun _ _ => rfl) rfl _⟩
theorem lc_questT {pl : List (Nat × Nat)} {ν : Mm} (hν : IV ν ν) {nn : Option (Int32 × Mm)} {fm : Mm → Option (Int32 × Mm)} {fL x : Option (Int32 × Mm)} (hpl : ∀ ck ∈ pl, 0 < ck.1 ∧ ck.1 < 4) (q : ∀ D L C m η, CR D L C ν η → TX m ν η → QT ν η pl nn x (fm η))
    (eL : ∀ v μ', nn = some (v, μ') → fL = some (0, oJ μ' v)) (nb : ∀ v c, nn = some v → x = some (nI c, ν) → 0 < c → c < 4 → False) : LC pl fL x fm := by
  obtain ⟨D, L, C, n, m, h1, h2, h3, h4⟩ := id hν
  rcases q D L C m ν h1 h3 with ⟨v, μ', η', e1, -, f1, -⟩ | ⟨ck, mk, e1, e2⟩
  · have hR0 : RF μ' := h1.1.fr f1
    have hR : RF (oJ μ' v) := hR0
    have hp : IV ν (oJ μ' v) := hν.right hR (fun a ha => f1.row (by omega))
    obtain ⟨D', L', C', n', m', k1, k2, k3, k4⟩ := id hp
    rcases q D' L' C' m' (oJ μ' v) k1 k3 with ⟨v', μ'', η'', e3, e4, f3, f4⟩ | ⟨ck, mk, e3, -⟩
    · have ev := Prod.mk.inj (Option.some.inj (e3.symm.trans e1))
      rw [ev.1] at e4
      rw [ev.2] at f3
      refine Or.inl ⟨oJ μ' v, v, η'', eL v μ' e1, e4, (by rw [f4.row (by omega)]; exact sI_at), (by rw [f4.1]; exact oJ_at), ((hp.s7 0).q f3 f4).join (fun a ha => (f4.row (by omega)).trans (sI_rw (by omega))) (by rw [f4.1]; rfl)⟩
    · exact (nb _ ck.1 e1 e3 (hpl ck mk).1 (hpl ck mk).2).elim
  · exact Or.inr ⟨ck, ν, 0, sI ν 139 7 (nI ck.2), mk, e1, e2, sI_at, hν.j7 (fun _ _ => rfl) rfl _⟩
theorem l_begin {ν : Mm} (hν : IV ν ν) (a : Int32) : LC [(2, 1)] (f_L_begin KF ν 0 a 145) (fx_X7_begin KF ν 0 a) (fun η => f_X8_begin KF η 139 a) := lc_wish hν (by decide) (fun D L C η h => o_begin h a)
  (fun μ1 v μ2 e1 e2 hR e3 => by
    unfold f_L_begin f_X7_begin
    rw [r_03 hν.rl, bd_s, e1, bd_s, ref0, bd_s, e2, bd_s, r_03 hR, bd_s, show f_X5_newHead KF μ1 9 a = some (v, μ2) from e3, bd_s, l1_s, l1_s, bd_s, l1_s, l1_s, gd_t (by decide +kernel), l1_s]
    rfl)
  (fun c e => by
    unfold fx_X7_begin
    rw [r_03 hν.rl, bd_s, e, bd_s])
theorem l_set {ν : Mm} (hν : IV ν ν) (a b : Int32) : LC [(2, 1)] (f_L_set KF ν 0 a b 145) (fx_X7_set KF ν 0 a b) (fun η => f_X8_set KF η 139 a b) := lc_wish hν (by decide) (fun D L C η h => o_set h a b)
  (fun μ1 v μ2 e1 e2 hR e3 => by
    unfold f_L_set f_X7_set
    rw [r_03 hν.rl, bd_s, e1, bd_s, ref0, bd_s, e2, bd_s, r_03 hR, bd_s, show f_X5_changeSetting KF μ1 9 a b = some (v, μ2) from e3, bd_s, l1_s, l1_s, bd_s, l1_s, l1_s, gd_t (by decide +kernel), l1_s]
    rfl)
  (fun c e => by
    unfold fx_X7_set
    rw [r_03 hν.rl, bd_s, e, bd_s])
theorem l_addLabel {ν : Mm} (hν : IV ν ν) (a b : Int32) : LC [(2, 1), (3, 2)] (f_L_addLabel KF ν 0 a b 145) (fx_X7_addLabel KF ν 0 a b) (fun η => f_X8_addLabel KF η 139 a b) := lc_wish hν (by decide) (fun D L C η h => o_addLabel h a b)
  (fun μ1 v μ2 e1 e2 hR e3 => by
    unfold f_L_addLabel f_X7_addLabel
    rw [r_03 hν.rl, bd_s, e1, bd_s, ref0, bd_s, e2, bd_s, r_03 hR, bd_s, show f_X5_newLabel KF μ1 9 a b = some (v, μ2) from e3, bd_s, l1_s, l1_s, bd_s, l1_s, l1_s, gd_t (by decide +kernel), l1_s]
    rfl)
  (fun c e => by
    unfold fx_X7_addLabel
    rw [r_03 hν.rl, bd_s, e, bd_s])
theorem l_setRow {ν : Mm} (hν : IV ν ν) (a b e : Int32) : LC [(1, 1), (2, 2)] (f_L_setRow KF ν 0 a b e 145) (fx_X7_setRow KF ν 0 a b e) (fun η => f_X8_setRow KF η 139 a b e) := lc_wish hν (by decide) (fun D L C η h => o_setRow h a b e)
  (fun μ1 v μ2 e1 e2 hR e3 => by
    unfold f_L_setRow f_X7_setRow
    rw [r_03 hν.rl, bd_s, e1, bd_s, ref0, bd_s, e2, bd_s, r_03 hR, bd_s, show f_X5_changeRow KF μ1 9 a b e = some (v, μ2) from e3, bd_s, l1_s, l1_s, bd_s, l1_s, l1_s, gd_t (by decide +kernel), l1_s]
    rfl)
  (fun c e => by
    unfold fx_X7_setRow
    rw [r_03 hν.rl, bd_s, e, bd_s])
theorem l_replace {ν : Mm} (hν : IV ν ν) (a : Int32) : LC [(1, 1)] (f_L_replace KF ν 0 a 145) (fx_X7_replace KF ν 0 a) (fun η => f_X8_replace KF η 139 a) := lc_wish hν (by decide) (fun D L C η h => o_replace h a)
  (fun μ1 v μ2 e1 e2 hR e3 => by
    unfold f_L_replace f_X7_replace
    rw [r_03 hν.rl, bd_s, e1, bd_s, ref0, bd_s, e2, bd_s, r_03 hR, bd_s, show f_X5_newDot KF μ1 9 a = some (v, μ2) from e3, bd_s, l1_s, l1_s, bd_s, l1_s, l1_s, gd_t (by decide +kernel), l1_s]
    rfl)
  (fun c e => by
    unfold fx_X7_replace
    rw [r_03 hν.rl, bd_s, e, bd_s])
theorem l_cool {ν : Mm} (hν : IV ν ν) (a : Int32) : LC [(2, 1)] (f_L_cool KF ν 0 a 145) (fx_X7_cool KF ν 0 a) (fun η => f_X8_cool KF η 139 a) := lc_wish hν (by decide) (fun D L C η h => o_cool h a)
  (fun μ1 v μ2 e1 e2 hR e3 => by
    unfold f_L_cool f_X7_cool
    rw [r_03 hν.rl, bd_s, e1, bd_s, ref0, bd_s, e2, bd_s, r_03 hR, bd_s, show f_X5_passLines KF μ1 9 a = some (v, μ2) from e3, bd_s, l1_s, l1_s, bd_s, l1_s, l1_s, gd_t (by decide +kernel), l1_s]
    rfl)
  (fun c e => by
    unfold fx_X7_cool
    rw [r_03 hν.rl, bd_s, e, bd_s])
theorem l_addCustomer {ν : Mm} (hν : IV ν ν) : LC [(3, 1)] (f_L_addCustomer KF ν 0 145) (fx_X7_addCustomer KF ν 0) (fun η => f_X8_addCustomer KF η 139) := lc_wish hν (by decide) (fun D L C η h => o_addCustomer h)
  (fun μ1 v μ2 e1 e2 hR e3 => by
    unfold f_L_addCustomer f_X7_addCustomer
    rw [r_03 hν.rl, bd_s, e1, bd_s, ref0, bd_s, e2, bd_s, r_03 hR, bd_s, show f_X5_newCustomer KF μ1 9 = some (v, μ2) from e3, bd_s, l1_s, l1_s, bd_s, l1_s, l1_s, gd_t (by decide +kernel), l1_s]
    rfl)
  (fun c e => by
    unfold fx_X7_addCustomer
    rw [r_03 hν.rl, bd_s, e, bd_s])
theorem l_rent {ν : Mm} (hν : IV ν ν) (a b e : Int32) : LC [(1, 1), (2, 2), (3, 3)] (f_L_rent KF ν 0 a b e 145) (fx_X7_rent KF ν 0 a b e) (fun η => f_X8_rent KF η 139 a b e) := lc_wish hν (by decide) (fun D L C η h => o_rent h a b e)
  (fun μ1 v μ2 e1 e2 hR e3 => by
    unfold f_L_rent f_X7_rent
    rw [r_03 hν.rl, bd_s, e1, bd_s, ref0, bd_s, e2, bd_s, r_03 hR, bd_s, show f_X5_let KF μ1 9 a b e = some (v, μ2) from e3, bd_s, l1_s, l1_s, bd_s, l1_s, l1_s, gd_t (by decide +kernel), l1_s]
    rfl)
  (fun c e => by
    unfold fx_X7_rent
    rw [r_03 hν.rl, bd_s, e, bd_s])
theorem l_endRent {ν : Mm} (hν : IV ν ν) (a : Int32) : LC [(1, 1), (3, 2)] (f_L_endRent KF ν 0 a 145) (fx_X7_endRent KF ν 0 a) (fun η => f_X8_endRent KF η 139 a) := lc_wish hν (by decide) (fun D L C η h => o_endRent h a)
  (fun μ1 v μ2 e1 e2 hR e3 => by
    unfold f_L_endRent f_X7_endRent
    rw [r_03 hν.rl, bd_s, e1, bd_s, ref0, bd_s, e2, bd_s, r_03 hR, bd_s, show f_X5_endLet KF μ1 9 a = some (v, μ2) from e3, bd_s, l1_s, l1_s, bd_s, l1_s, l1_s, gd_t (by decide +kernel), l1_s]
    rfl)
  (fun c e => by
    unfold fx_X7_endRent
    rw [r_03 hν.rl, bd_s, e, bd_s])
theorem l_print {ν : Mm} (hν : IV ν ν) (a b e : Int32) : LC [(1, 1), (2, 2), (3, 3)] (f_L_print KF ν 0 a b e 145) (fx_X7_print KF ν 0 a b e) (fun η => f_X8_print KF η 139 a b e) := lc_wish hν (by decide) (fun D L C η h => o_print h a b e)
  (fun μ1 v μ2 e1 e2 hR e3 => by
    unfold f_L_print f_X7_print
    rw [r_03 hν.rl, bd_s, e1, bd_s, ref0, bd_s, e2, bd_s, r_03 hR, bd_s, show f_X5_printAt KF μ1 9 a b e = some (v, μ2) from e3, bd_s, l1_s, l1_s, bd_s, l1_s, l1_s, gd_t (by decide +kernel), l1_s]
    rfl)
  (fun c e => by
    unfold fx_X7_print
    rw [r_03 hν.rl, bd_s, e, bd_s])
theorem l_dot {ν : Mm} (hν : IV ν ν) (a b : Int32) : LC [(1, 1), (2, 2)] (f_L_dot KF ν 0 a b 145) (fx_X7_dot KF ν 0 a b) (fun η => f_X8_dot KF η 139 a b) := lc_quest hν (by decide) (fun D L C m η h t => q_dot h a b)
  (fun v y => by
    unfold f_L_dot
    rw [y, bd_s, gd_t (by decide +kernel), l1_s]
    rfl)
  (fun v c y x h0 h4 => no_both (by unfold f_X7_dot at y; exact y) (by unfold fx_X7_dot at x; exact x) h0 h4)
theorem l_label {ν : Mm} (hν : IV ν ν) (a b : Int32) : LC [(1, 1), (2, 2)] (f_L_label KF ν 0 a b 145) (fx_X7_label KF ν 0 a b) (fun η => f_X8_label KF η 139 a b) := lc_quest hν (by decide) (fun D L C m η h t => q_label h a b)
  (fun v y => by
    unfold f_L_label
    rw [y, bd_s, gd_t (by decide +kernel), l1_s]
    rfl)
  (fun v c y x h0 h4 => no_both (by unfold f_X7_label at y; exact y) (by unfold fx_X7_label at x; exact x) h0 h4)
theorem l_row {ν : Mm} (hν : IV ν ν) (a b : Int32) : LC [(1, 1), (2, 2)] (f_L_row KF ν 0 a b 145) (fx_X7_row KF ν 0 a b) (fun η => f_X8_row KF η 139 a b) := lc_quest hν (by decide) (fun D L C m η h t => q_row h a b)
  (fun v y => by
    unfold f_L_row
    rw [y, bd_s, gd_t (by decide +kernel), l1_s]
    rfl)
  (fun v c y x h0 h4 => no_both (by unfold f_X7_row at y; exact y) (by unfold fx_X7_row at x; exact x) h0 h4)
theorem l_customer {ν : Mm} (hν : IV ν ν) (a b : Int32) : LC [(1, 1), (2, 2)] (f_L_customer KF ν 0 a b 145) (fx_X7_customer KF ν 0 a b) (fun η => f_X8_customer KF η 139 a b) := lc_quest hν (by decide) (fun D L C m η h t => q_customer h a b)
  (fun v y => by
    unfold f_L_customer
    rw [y, bd_s, gd_t (by decide +kernel), l1_s]
    rfl)
  (fun v c y x h0 h4 => no_both (by unfold f_X7_customer at y; exact y) (by unfold fx_X7_customer at x; exact x) h0 h4)
theorem l_whole {ν : Mm} (hν : IV ν ν) (a : Int32) : LC [(2, 1)] (f_L_whole KF ν 0 a 145) (fx_X7_whole KF ν 0 a) (fun η => f_X8_whole KF η 139 a) := lc_quest hν (by decide) (fun D L C m η h t => q_whole h t a)
  (fun v y => by
    unfold f_L_whole
    rw [y, bd_s, gd_t (by decide +kernel), l1_s]
    rfl)
  (fun v c y x h0 h4 => by
    unfold f_X7_whole at y
    unfold fx_X7_whole at x
    rw [l1_s] at x y
    rw [(Prod.mk.inj (Option.some.inj x)).1] at y
    exact ref_no h0 h4 y)
theorem l_reason {ν : Mm} (hν : IV ν ν) (a b e : Int32) : LC [(1, 1), (2, 2)] (f_L_reason KF ν 0 a b e 145) (fx_X7_reason KF ν 0 a b e) (fun η => f_X8_reason KF η 139 a b e) := lc_quest hν (by decide) (fun D L C m η h t => q_reason h a b e)
  (fun v y => by
    unfold f_L_reason
    rw [y, bd_s, gd_t (by decide +kernel), l1_s]
    rfl)
  (fun v c y x h0 h4 => no_both (by unfold f_X7_reason at y; exact y) (by unfold fx_X7_reason at x; exact x) h0 h4)
theorem l_price {ν : Mm} (hν : IV ν ν) (a b e : Int32) : LC [(1, 1), (2, 2)] (f_L_price KF ν 0 a b e 145) (fx_X7_price KF ν 0 a b e) (fun η => f_X8_price KF η 139 a b e) := lc_quest hν (by decide) (fun D L C m η h t => q_price h a b e)
  (fun v y => by
    unfold f_L_price
    rw [y, bd_s, gd_t (by decide +kernel), l1_s]
    rfl)
  (fun v c y x h0 h4 => no_both (by unfold f_X7_price at y; exact y) (by unfold fx_X7_price at x; exact x) h0 h4)
theorem l_unreadable {ν : Mm} (hν : IV ν ν) (a b e : Int32) : LC [(1, 1), (2, 2)] (f_L_unreadable KF ν 0 a b e 145) (fx_X7_unreadable KF ν 0 a b e) (fun η => f_X8_unreadable KF η 139 a b e) := lc_questT hν (by decide) (fun D L C m η h t => q_unreadable h a b e)
  (fun v μ' y => by
    unfold f_L_unreadable
    rw [y, bd_s, l1_s, l1_s, gd_t (by decide +kernel), l1_s]
    rfl)
  (fun v c y x h0 h4 => no_both (by unfold f_X7_unreadable at y; exact y) (by unfold fx_X7_unreadable at x; exact x) h0 h4)
theorem l_bestOffset {ν : Mm} (hν : IV ν ν) (a b : Int32) : LC [(1, 1)] (f_L_bestOffset KF ν 0 a b 145) (fx_X7_bestOffset KF ν 0 a b) (fun η => f_X8_bestOffset KF η 139 a b) := lc_questT hν (by decide) (fun D L C m η h t => q_bestOffset h a b)
  (fun v μ' y => by
    unfold f_L_bestOffset
    rw [y, bd_s, l1_s, l1_s, gd_t (by decide +kernel), l1_s]
    rfl)
  (fun v c y x h0 h4 => no_both (by unfold f_X7_bestOffset at y; exact y) (by unfold fx_X7_bestOffset at x; exact x) h0 h4)
theorem l_readableFor {ν : Mm} (hν : IV ν ν) (a b e : Int32) : LC [(1, 1), (2, 2)] (f_L_readableFor KF ν 0 a b e 145) (fx_X7_readableFor KF ν 0 a b e) (fun η => f_X8_readableFor KF η 139 a b e) := lc_questT hν (by decide) (fun D L C m η h t => q_readableFor h a b e)
  (fun v μ' y => by
    unfold f_L_readableFor
    rw [y, bd_s, l1_s, l1_s, gd_t (by decide +kernel), l1_s]
    rfl)
  (fun v c y x h0 h4 => no_both (by unfold f_X7_readableFor at y; exact y) (by unfold fx_X7_readableFor at x; exact x) h0 h4)
theorem l_printBest {ν : Mm} (hν : IV ν ν) (a b : Int32) : LC [(1, 1), (3, 2)] (f_L_printBest KF ν 0 a b 145) (fx_X7_printBest KF ν 0 a b) (fun η => f_X8_printBest KF η 139 a b) := by
  obtain ⟨D, L, C, n, m, h1, h2, h3, h4⟩ := id hν
  have hpl : ∀ ck ∈ [((1 : Nat), (1 : Nat)), (3, 2)], 0 < ck.1 ∧ ck.1 < 4 := by decide
  rcases o_printBest h1 a b with ⟨ck, μ', η', mk, e1, e2, f1, f2⟩ | ⟨μ', η', e1, f1, f2, g⟩
  · have hR : RF μ' := h1.1.fr f1
    have hp : IV ν μ' := hν.right hR (fun x hx => f1.row (by omega))
    obtain ⟨D', L', C', n', m', k1, k2, k3, k4⟩ := id hp
    rcases o_printBest k1 a b with ⟨ck', μ'', η'', mk', e3, e4, f3, f4⟩ | ⟨μ'', η'', e3, -⟩
    · have ev := Prod.mk.inj (Option.some.inj (e3.symm.trans e1))
      rw [ev.2] at f3
      refine Or.inr ⟨ck', μ', 0, sI η'' 139 7 (nI ck'.2), mk', ?_, e4, sI_at, (hp.q f3 f4).j7 (fun x hx => f4.row (by omega)) (by rw [f4.1]) _⟩
      unfold fx_X7_printBest
      rw [r_03 h1.1, bd_s, e1, bd_s, l1_s, l1_s, ev.1]
    · have hc := hpl ck mk
      exact absurd (Prod.mk.inj (Option.some.inj (e1.symm.trans e3))).1 (nI_ne0 (by omega) (by omega))
  · obtain ⟨v, μ1, μ2, η2, y1, y2, y3, y4, y5, y6, y7, y8⟩ := grant (h1.q f1 f2) (h2.q f1 f2) (h3.q f1 f2) (by rw [f2.row (by omega)]; exact h4) (fun μ1 η1 x y z => g μ1 η1 x y (z.trans (f2.row (by omega))))
    have hR1 : RF (oJ μ2 v) := y5.rl
    have hp : IV ν (oJ μ2 v) := hν.right hR1 (fun x hx => (y7.1 x hx).trans (f1.row (by omega)))
    obtain ⟨D', L', C', n', m', k1, k2, k3, k4⟩ := id hp
    rcases o_printBest k1 a b with ⟨ck, μ'', η'', mk, e3, -⟩ | ⟨μ'', η'', e3, f3, f4, g'⟩
    · have hc := hpl ck mk
      exact absurd (Prod.mk.inj (Option.some.inj (e3.symm.trans e1))).1 (nI_ne0 (by omega) (by omega))
    · have em := (Prod.mk.inj (Option.some.inj (e3.symm.trans e1))).2
      rw [em] at f3
      obtain ⟨v', μ1', μ2', η2', z1, z2, z3, z4, z5, z6, z7, z8⟩ := grant (k1.q f3 f4) (k2.q f3 f4) (k3.q f3 f4) (by rw [f4.row (by omega)]; exact k4) (fun μ1 η1 x y z => g' μ1 η1 x y (z.trans (f4.row (by omega))))
      have em : μ1' = μ1 := Option.some.inj (z1.symm.trans y1)
      rw [em] at z3
      have ev := Prod.mk.inj (Option.some.inj (z3.symm.trans y3))
      rw [ev.1] at z4
      rw [ev.2] at z5
      refine Or.inl ⟨oJ μ2 v, v, η2', ?_, z4, z6, by rw [z8.2, f4.1]; exact oJ_at, z5.join (fun x hx => (z8.1 x hx).trans (f4.row (by omega))) (by rw [z8.2, f4.1]; rfl)⟩
      unfold f_L_printBest f_X7_printBest
      rw [r_03 h1.1, bd_s, e1, bd_s, l1_s, l1_s, ref0, bd_s, y1, bd_s, r_03 y2, bd_s, show f_X5_printAtBest KF μ1 9 a b = some (v, μ2) from y3, bd_s, l1_s, l1_s, bd_s, l1_s, l1_s, gd_t (by decide +kernel), l1_s]
      rfl
theorem l_undo {ν : Mm} (hν : IV ν ν) : LC [(3, 1)] (f_L_undo KF ν 0 145) (fx_X7_undo KF ν 0) (fun η => f_X8_undo KF η 139) := by
  obtain ⟨D, L, C, n, m, h1, h2, h3, h4⟩ := id hν
  cases n with
  | zero =>
    refine Or.inr ⟨(3, 1), ν, 0, sI ν 139 7 (nI 1), List.mem_singleton.mpr rfl, ?_, ?_, sI_at, hν.j7 (fun _ _ => rfl) rfl _⟩
    · unfold fx_X7_undo
      rw [h2.1.1, if_neg (show ¬ (1 : Int32) ≤ nI 0 by decide), l1_s]
      rfl
    · show f_X8_undo KF ν 139 = _
      unfold f_X8_undo
      rw [h2.1.2.1, if_pos (show nI 0 = 0 from rfl), l1_s, th1, bd_s, l1_s, l1_s, i10]
  | succ n =>
    obtain ⟨D', L', C', μ', η', y1, -, y3, y4, ⟨y5, y5'⟩, -⟩ := b_undo h1 h2
    have hR1 : RF (oJ μ' (nI n)) := y3.1
    have r1 : ∀ x, 139 ≤ x → (oJ μ' (nI n)).1 x = ν.1 x := fun x hx => y5 x (by omega) (by omega)
    have k1 : CR D L C ν (oJ μ' (nI n)) := h1.cg h1.1 hR1 (fun _ _ _ => rfl) (fun j _ => by rw [r1 140 (by omega)])
    have k2 : SV (n + 1) ν (oJ μ' (nI n)) := h2.cg rfl rfl (fun _ _ _ => rfl) (by rw [r1 139 (by omega)]) (r1 142 (by omega))
    have k3 : TX m ν (oJ μ' (nI n)) := h3.cg rfl rfl (by rw [r1 139 (by omega)]) (r1 143 (by omega))
    obtain ⟨D2, L2, C2, μ'', η'', z1, z2, z3, z4, ⟨z5, z5'⟩, z6, z7, z8⟩ := b_undo k1 k2
    have em : μ'' = μ' := (Prod.mk.inj (Option.some.inj (z1.symm.trans y1))).2
    subst em
    have w : ∀ x, x ≠ 139 → x ≠ 140 → η''.1 x = (oJ μ'' (nI n)).1 x := fun x hx hx' => z6.2 x (fun e => by rcases e with e | e; exact hx e; exact hx' e)
    have hz : IV μ'' η'' := ⟨D2, L2, C2, n, m, z3, z4, k3.cg (by rw [z5 1 (by omega) (by omega)]) (z5 2 (by omega) (by omega)) (z7 6 (by omega) (by omega)) (w 143 (by omega) (by omega)), (z7 4 (by omega) (by omega)).trans ((congrFun (r1 139 (by omega)) 4).trans h4)⟩
    refine Or.inl ⟨oJ μ'' (nI n), nI n, η'', ?_, z2, z8, by rw [z6.1]; exact oJ_at, hz.join (fun x hx => w x (by omega) (by omega)) (by rw [z6.1]; rfl)⟩
    unfold f_L_undo
    rw [y1, bd_s, l1_s, l1_s, gd_t (by decide +kernel), l1_s]
    rfl
theorem l_type {ν : Mm} (hν : IV ν ν) (a : Int32) : LC [(2, 1), (3, 2)] (f_L_type KF ν 0 a 145) (fx_X7_type KF ν 0 a) (fun η => f_X8_type KF η 139 a) := by
  obtain ⟨D, L, C, n, m, h1, h2, h3, h4⟩ := id hν
  have hpl : ∀ ck ∈ [((2 : Nat), (1 : Nat)), (3, 2)], 0 < ck.1 ∧ ck.1 < 4 := by decide
  rcases q_type h1.1 h1.2.1 h3 a with ⟨x, hx, rfl, hm, y1, -⟩ | ⟨ck, mk, y1, y2⟩
  · let μ' := sI (sI ν 2 m (nI x)) 1 1 (nI (m + 1))
    have hR1 : RF (oJ μ' (nI (m + 1))) := h1.1
    have r1 : ∀ y, y ≠ 1 → y ≠ 2 → (oJ μ' (nI (m + 1))).1 y = ν.1 y := fun y h h' => (sI_rw h).trans (sI_rw h')
    have k3 : TX m ν (oJ μ' (nI (m + 1))) := h3.cg rfl rfl (by rw [r1 139 (by omega) (by omega)]) (r1 143 (by omega) (by omega))
    rcases q_type h1.1 hR1 k3 (nI x) with ⟨x', hx', ex, -, -, z2⟩ | ⟨ck, mk, z1, -⟩
    · let η' := sI (sI (sI (oJ μ' (nI (m + 1))) 139 7 0) 143 m (nI x)) 139 6 (nI (m + 1))
      have w : ∀ y, y ≠ 139 → y ≠ 143 → η'.1 y = (oJ μ' (nI (m + 1))).1 y := fun y h h' => (sI_rw h).trans ((sI_rw h').trans (sI_rw h))
      have w9 : ∀ j, j ≠ 6 → j ≠ 7 → η'.1 139 j = (oJ μ' (nI (m + 1))).1 139 j := fun j h h' => (sI_of h).trans ((sI_no (by omega)).trans (sI_of h'))
      have hz : IV μ' η' := by
        refine ⟨D, L, C, n, m + 1, h1.cg h1.1 hR1 (fun y _ _ => r1 y (by omega) (by omega)) (fun j _ => by rw [w 140 (by omega) (by omega), r1 140 (by omega) (by omega)]), h2.cg (by rw [show μ'.1 0 = ν.1 0 from r1 0 (by omega) (by omega)]) rfl (fun y _ _ => r1 y (by omega) (by omega)) (by rw [w9 3 (by omega) (by omega), r1 139 (by omega) (by omega)]) (by rw [w 142 (by omega) (by omega), r1 142 (by omega) (by omega)]), ⟨⟨sI_at, sI_at, by omega⟩, fun j hj => ?_⟩, by rw [w9 4 (by omega) (by omega), r1 139 (by omega) (by omega)]; exact h4⟩
        have a1 : μ'.1 2 j = (sI ν 2 m (nI x)).1 2 j := sI_no (by omega)
        have a2 : η'.1 143 j = (sI (sI (oJ μ' (nI (m + 1))) 139 7 0) 143 m (nI x)).1 143 j := sI_no (by omega)
        by_cases e : j = m
        · subst e
          rw [a1, a2, sI_at, sI_at]
          exact ⟨rfl, x, by omega, by omega, rfl⟩
        · rw [a1, a2, sI_of e, sI_of e, sI_no (by omega), r1 143 (by omega) (by omega)]
          exact h3.2 j (by omega)
      refine Or.inl ⟨oJ μ' (nI (m + 1)), nI (m + 1), η', ?_, z2, (sI_of (by omega)).trans ((sI_no (by omega)).trans sI_at), oJ_at, hz.join (fun y hy => w y (by omega) (by omega)) rfl⟩
      unfold f_L_type
      rw [y1, bd_s, l1_s, l1_s, gd_t (by decide +kernel), l1_s]
      rfl
    · exact (no_both (by unfold f_X7_type at y1; exact y1) (by unfold fx_X7_type at z1; exact z1) (hpl ck mk).1 (hpl ck mk).2).elim
  · exact Or.inr ⟨ck, ν, 0, sI ν 139 7 (nI ck.2), mk, y1, y2, sI_at, hν.j7 (fun _ _ => rfl) rfl _⟩
theorem l_clearCommands {ν : Mm} (hν : IV ν ν) : LD (f_X7_clearCommands KF ν 0) (fun η => f_X8_clearCommands KF η 139) := by
  obtain ⟨D, L, C, n, m, h1, h2, h3, h4⟩ := id hν
  have hR1 : RF (sI ν 1 1 0) := h1.1
  have r1 : ∀ y, y ≠ 1 → (sI ν 1 1 0).1 y = ν.1 y := fun y h => sI_rw h
  have k3 : TX m ν (sI ν 1 1 0) := h3.cg rfl rfl (by rw [r1 139 (by omega)]) (r1 143 (by omega))
  obtain ⟨y1, -, -⟩ := q_clear h1.1 h3
  obtain ⟨-, z2, z3⟩ := q_clear h1.1 k3
  let η' := sI (sI (sI ν 1 1 0) 139 7 0) 139 6 0
  have w : ∀ y, y ≠ 139 → η'.1 y = (sI ν 1 1 0).1 y := fun y h => (sI_rw h).trans (sI_rw h)
  have w9 : ∀ j, j ≠ 6 → j ≠ 7 → η'.1 139 j = (sI ν 1 1 0).1 139 j := fun j h h' => (sI_of h).trans (sI_of h')
  have hz : IV (sI ν 1 1 0) η' := ⟨D, L, C, n, 0, h1.cg hR1 hR1 (fun y _ _ => r1 y (by omega)) (fun j _ => by rw [w 140 (by omega), r1 140 (by omega)]), h2.cg (by rw [r1 0 (by omega)]) rfl (fun y _ _ => r1 y (by omega)) (by rw [w9 3 (by omega) (by omega), r1 139 (by omega)]) (by rw [w 142 (by omega), r1 142 (by omega)]), z3, by rw [w9 4 (by omega) (by omega), r1 139 (by omega)]; exact h4⟩
  exact ⟨nI m, sI ν 1 1 0, η', y1, z2, hz.join (fun y hy => w y (by omega)) rfl⟩
theorem l_runCommands {ν : Mm} (hν : IV ν ν) : LD (f_X7_runCommands KF ν 0) (fun η => f_X8_runCommands KF η 139) := by
  obtain ⟨v, μ', _, y1, -, y3, -, y5, -⟩ := b_run hν
  obtain ⟨v', μ'', η'', z1, z2, z3, -, -, z6⟩ := b_run (hν.right y3.rl (fun a ha => y5.1 a ha))
  have ev := Prod.mk.inj (Option.some.inj (z1.symm.trans y1))
  rw [ev.1] at z2
  rw [ev.2] at z3
  exact ⟨v, μ', η'', y1, z2, z3.join (fun a ha => z6.1 a ha) (by rw [z6.2])⟩
theorem l_mostWorn {ν : Mm} (hν : IV ν ν) : ∃ v ν2, f_X7_mostWorn KF ν 0 = some v ∧ f_X8_mostWorn KF ν 139 = some (v, ν2) ∧ IV ν2 ν2 := by
  obtain ⟨D, L, C, n, m, h1, h2, h3, h4⟩ := id hν
  obtain ⟨v, y1, y2⟩ := q_mostWorn h1
  exact ⟨v, sI ν 139 7 0, y1, y2, hν.j7 (fun _ _ => rfl) rfl 0⟩
theorem l_digest {ν : Mm} (hν : IV ν ν) : LD (f_X7_digest KF ν 0) (fun η => f_X8_digest KF η 139) := by
  obtain ⟨D, L, C, n, m, h1, h2, h3, h4⟩ := id hν
  obtain ⟨v, μ', -, y1, -, f1, -⟩ := b_digest h1 h2 h3
  have hR : RF μ' := h1.1.fr f1
  have hp : IV ν μ' := hν.right hR (fun a ha => f1.row (by omega))
  obtain ⟨D', L', C', n', m', k1, k2, k3, k4⟩ := id hp
  obtain ⟨v', μ'', η'', z1, z2, f3, f4⟩ := b_digest k1 k2 k3
  have ev := Prod.mk.inj (Option.some.inj (z1.symm.trans y1))
  rw [ev.1] at z2
  rw [ev.2] at f3
  exact ⟨v, μ', η'', y1, z2, ((hp.s7 0).q f3 f4).join (fun a ha => (f4.row (by omega)).trans (sI_rw (by omega))) (by rw [f4.1]; rfl)⟩
end PureQ1
