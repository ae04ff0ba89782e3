/-! PURE: reading the command text: spaces, letters, digits -/
section PureP1
/-- a byte between two others stands at a place of the text -/
def atP (T : Nat → Int32) (m p : Nat) (lo hi : Int32) : Prop := p < m ∧ ¬ T p < lo ∧ ¬ hi < T p
/-- from p on such bytes stand, up to q -/
def SE (T : Nat → Int32) (m : Nat) (lo hi : Int32) (p q : Nat) : Prop := (p ≤ q ∧ q ≤ m) ∧ (∀ j, p ≤ j → j < q → atP T m j lo hi) ∧ ¬ atP T m q lo hi
theorem SE.one {T : Nat → Int32} {m p q q' : Nat} {lo hi : Int32} (h : SE T m lo hi p q) (h' : SE T m lo hi p q') : q = q' := by
  rcases Nat.lt_trichotomy q q' with e | e | e
  · exact absurd (h'.2.1 q h.1.1 e) h.2.2
  · exact e
  · exact absurd (h.2.1 q' h'.1.1 e) h'.2.2
theorem SE.here {T : Nat → Int32} {m p : Nat} {lo hi : Int32} (hp : p ≤ m) (h : ¬ atP T m p lo hi) : SE T m lo hi p p := ⟨⟨Nat.le_refl p, hp⟩, fun j h1 h2 => absurd h2 (by omega), h⟩
theorem SE.stay {T : Nat → Int32} {m p q : Nat} {lo hi : Int32} (h : SE T m lo hi p q) (hn : ¬ atP T m p lo hi) : q = p := h.one (SE.here (by have := h.1; omega) hn)
theorem SE.more {T : Nat → Int32} {m p q : Nat} {lo hi : Int32} (h : SE T m lo hi p q) (hn : atP T m p lo hi) : p < q := by
  rcases Nat.lt_or_ge p q with e | e
  · exact e
  · have e : p = q := by have := h.1; omega
    subst e
    exact absurd hn h.2.2
theorem SE.again {T : Nat → Int32} {m p q : Nat} {lo hi : Int32} (h : SE T m lo hi p q) : SE T m lo hi q q := SE.here h.1.2 h.2.2
/-- what reading changes: on the class's side, on the reference's -/
def PF (μ μ' : Mm) : Prop := (∀ a, a ≠ 1 → a ≠ 3 → μ'.1 a = μ.1 a) ∧ (∀ j, j ≠ 2 → j ≠ 3 → μ'.1 1 j = μ.1 1 j) ∧ (∀ k j, (k ≠ 1 ∨ j ≠ 4) → μ'.2.1 k j = μ.2.1 k j) ∧ μ'.2.2 = μ.2.2
def QF (η η' : Mm) : Prop := (∀ a, a ≠ 139 → a ≠ 144 → η'.1 a = η.1 a) ∧ (∀ j, j ≠ 8 → j ≠ 9 → η'.1 139 j = η.1 139 j) ∧ η'.2 = η.2
theorem PF.rf {μ : Mm} : PF μ μ := ⟨fun _ _ _ => rfl, fun _ _ _ => rfl, fun _ _ _ => rfl, rfl⟩
theorem QF.rf {η : Mm} : QF η η := ⟨fun _ _ _ => rfl, fun _ _ _ => rfl, rfl⟩
theorem PF.trans {μ μ' μ'' : Mm} (h : PF μ μ') (h' : PF μ' μ'') : PF μ μ'' := ⟨fun a b c => (h'.1 a b c).trans (h.1 a b c), fun j b c => (h'.2.1 j b c).trans (h.2.1 j b c), fun k j b => (h'.2.2.1 k j b).trans (h.2.2.1 k j b), h'.2.2.2.trans h.2.2.2⟩
theorem QF.trans {μ μ' μ'' : Mm} (h : QF μ μ') (h' : QF μ' μ'') : QF μ μ'' := ⟨fun a b c => (h'.1 a b c).trans (h.1 a b c), fun j b c => (h'.2.1 j b c).trans (h.2.1 j b c), h'.2.2.trans h.2.2⟩
theorem PF.s1 {μ μ' : Mm} (h : PF μ μ') {j : Nat} {v : Int32} (hj : j = 2 ∨ j = 3) : PF μ (sI μ' 1 j v) := ⟨fun a b c => (sI_rw b).trans (h.1 a b c), fun i b c => (sI_of (by omega)).trans (h.2.1 i b c), h.2.2.1, h.2.2.2⟩
theorem PF.s3 {μ μ' : Mm} (h : PF μ μ') {j : Nat} {v : Int32} : PF μ (sI μ' 3 j v) := ⟨fun a b c => (sI_rw c).trans (h.1 a b c), fun i b c => (sI_no (by omega)).trans (h.2.1 i b c), h.2.2.1, h.2.2.2⟩
theorem QF.s8 {μ μ' : Mm} (h : QF μ μ') {j : Nat} {v : Int32} (hj : j = 8 ∨ j = 9) : QF μ (sI μ' 139 j v) := ⟨fun a b c => (sI_rw b).trans (h.1 a b c), fun i b c => (sI_of (by omega)).trans (h.2.1 i b c), h.2.2⟩
theorem QF.s144 {μ μ' : Mm} (h : QF μ μ') {j : Nat} {v : Int32} : QF μ (sI μ' 144 j v) := ⟨fun a b c => (sI_rw c).trans (h.1 a b c), fun i b c => (sI_no (by omega)).trans (h.2.1 i b c), h.2.2⟩
/-- the text, on both sides -/
def HC (m : Nat) (T : Nat → Int32) (μ : Mm) : Prop := RF μ ∧ μ.1 1 1 = nI m ∧ m ≤ 150 ∧ ∀ j, j < m → μ.1 2 j = T j
def HM (m : Nat) (T : Nat → Int32) (η : Mm) : Prop := RF η ∧ η.1 139 6 = nI m ∧ m ≤ 150 ∧ ∀ j, j < m → η.1 143 j = T j ∧ bnd (T j) 0 127
theorem HC.pf {m : Nat} {T : Nat → Int32} {μ μ' : Mm} (h : HC m T μ) (f : PF μ μ') : HC m T μ' :=
  ⟨h.1.cg (fun k j _ hj => f.2.2.1 k j hj), (f.2.1 1 (by omega) (by omega)).trans h.2.1, h.2.2.1, fun j hj => by rw [f.1 2 (by omega) (by omega)]; exact h.2.2.2 j hj⟩
theorem HM.qf {m : Nat} {T : Nat → Int32} {η η' : Mm} (h : HM m T η) (f : QF η η') : HM m T η' :=
  ⟨h.1.cg (fun k j _ _ => by rw [f.2.2]), (f.2.1 6 (by omega) (by omega)).trans h.2.1, h.2.2.1, fun j hj => by rw [f.1 143 (by omega) (by omega)]; exact h.2.2.2 j hj⟩
theorem i32_eq {a b : Int32} (h : ¬ a < b) (h' : ¬ b < a) : a = b := Int32.le_antisymm (Int32.not_lt.mp h') (Int32.not_lt.mp h)
/-- the class's place, fault, numbers -/
def PS1 (q : Nat) (μ ν : Mm) : Prop := ν.1 1 2 = nI q ∧ ν.1 1 3 = μ.1 1 3 ∧ ν.1 3 = μ.1 3 ∧ ν.2 = μ.2
theorem PS1.nx {q q' : Nat} {μ ν : Mm} (h : PS1 q μ ν) : PS1 q' μ (sI ν 1 2 (nI q')) := ⟨sI_at, (sI_of (by omega)).trans h.2.1, (sI_rw (by omega)).trans h.2.2.1, h.2.2.2⟩
theorem c_spaces {m p : Nat} {T : Nat → Int32} {μ : Mm} (h : HC m T μ) (hp : μ.1 1 2 = nI p) (hm : p ≤ m) : ∃ q μ', f_X1_skipSpaces KF μ 1 = some μ' ∧ PF μ μ' ∧ PS1 q μ μ' ∧ SE T m 32 32 p q := by
  have h150 := h.2.2.1
  obtain ⟨r, e, q, f1, f2, f3⟩ := lp (fun n d (ν : Mm) => f_X1_skipSpaces_l0 KF 1 n ν) m
    (fun d ν => PF μ ν ∧ PS1 d μ ν ∧ p ≤ d ∧ ∀ j, p ≤ j → j < d → atP T m j 32 32)
    (fun ν => ∃ q, PF μ ν ∧ PS1 q μ ν ∧ SE T m 32 32 p q)
    (by
      rintro n d ν hd ⟨p1, p2, p3, p4⟩
      have hν := h.pf p1
      have eT : ν.1 2 d = T d := hν.2.2.2 d hd
      have eF : f_X1_skipSpaces_l0 KF 1 (n + 1) ν = if T d = 32 then f_X1_skipSpaces_l0 KF 1 n (sI ν 1 2 (nI (d + 1))) else some ν := by
        simp (disch := omega) only [f_X1_skipSpaces_l0, hν.2.1, p2.1, leN, if_neg (Nat.not_le.mpr hd), r_10 hν.1, bd_s, l1_s, K2, gd_n, ix_n, eT, nI_1]
      by_cases c : T d = 32
      · refine Or.inr ⟨sI ν 1 2 (nI (d + 1)), by rw [eF, if_pos c], p1.s1 (Or.inl rfl), p2.nx, by omega, fun j hj hj' => ?_⟩
        by_cases e : j = d
        · subst e
          exact ⟨hd, by rw [c]; decide, by rw [c]; decide⟩
        · exact p4 j hj (by omega)
      · exact Or.inl ⟨ν, by rw [eF, if_neg c], d, p1, p2, ⟨p3, by omega⟩, p4, fun a => c (i32_eq a.2.1 a.2.2)⟩)
    (by
      rintro n ν ⟨p1, p2, p3, p4⟩
      have hν := h.pf p1
      refine ⟨ν, ?_, m, p1, p2, ⟨p3, Nat.le_refl m⟩, p4, fun a => absurd a.1 (by omega)⟩
      simp (disch := omega) only [f_X1_skipSpaces_l0, hν.2.1, p2.1, leN, if_pos (Nat.le_refl m)]) (m - p) p μ FU (by omega) (by unfold FU; omega) ⟨PF.rf, ⟨hp, rfl, rfl, rfl⟩, Nat.le_refl p, fun j a b => absurd b (by omega)⟩
  refine ⟨q, r, ?_, f1, f2, f3⟩
  unfold f_X1_skipSpaces
  rw [show f_X1_skipSpaces_l0 KF 1 FU μ = some r from e]
  rfl
theorem c_letters {m p : Nat} {T : Nat → Int32} {μ : Mm} (h : HC m T μ) (hp : μ.1 1 2 = nI p) (hm : p ≤ m) : ∃ q μ', f_X1_skipLetters KF μ 1 = some μ' ∧ PF μ μ' ∧ PS1 q μ μ' ∧ SE T m 97 122 p q := by
  have h150 := h.2.2.1
  obtain ⟨r, e, q, f1, f2, f3⟩ := lp (fun n d (ν : Mm) => f_X1_skipLetters_l0 KF 1 n ν) m
    (fun d ν => PF μ ν ∧ PS1 d μ ν ∧ p ≤ d ∧ ∀ j, p ≤ j → j < d → atP T m j 97 122)
    (fun ν => ∃ q, PF μ ν ∧ PS1 q μ ν ∧ SE T m 97 122 p q)
    (by
      rintro n d ν hd ⟨p1, p2, p3, p4⟩
      have hν := h.pf p1
      have eT : ν.1 2 d = T d := hν.2.2.2 d hd
      have eF : f_X1_skipLetters_l0 KF 1 (n + 1) ν = if T d < 97 then some ν else if 122 < T d then some ν else f_X1_skipLetters_l0 KF 1 n (sI ν 1 2 (nI (d + 1))) := by
        simp (disch := omega) only [f_X1_skipLetters_l0, hν.2.1, p2.1, leN, if_neg (Nat.not_le.mpr hd), r_10 hν.1, bd_s, l1_s, K2, gd_n, ix_n, eT, nI_1]
      by_cases c : T d < 97
      · exact Or.inl ⟨ν, by rw [eF, if_pos c], d, p1, p2, ⟨p3, by omega⟩, p4, fun a => a.2.1 c⟩
      · by_cases c' : 122 < T d
        · exact Or.inl ⟨ν, by rw [eF, if_neg c, if_pos c'], d, p1, p2, ⟨p3, by omega⟩, p4, fun a => a.2.2 c'⟩
        · refine Or.inr ⟨sI ν 1 2 (nI (d + 1)), by rw [eF, if_neg c, if_neg c'], p1.s1 (Or.inl rfl), p2.nx, by omega, fun j hj hj' => ?_⟩
          by_cases e : j = d
          · subst e
            exact ⟨hd, c, c'⟩
          · exact p4 j hj (by omega))
    (by
      rintro n ν ⟨p1, p2, p3, p4⟩
      have hν := h.pf p1
      refine ⟨ν, ?_, m, p1, p2, ⟨p3, Nat.le_refl m⟩, p4, fun a => absurd a.1 (by omega)⟩
      simp (disch := omega) only [f_X1_skipLetters_l0, hν.2.1, p2.1, leN, if_pos (Nat.le_refl m)]) (m - p) p μ FU (by omega) (by unfold FU; omega) ⟨PF.rf, ⟨hp, rfl, rfl, rfl⟩, Nat.le_refl p, fun j a b => absurd b (by omega)⟩
  refine ⟨q, r, ?_, f1, f2, f3⟩
  unfold f_X1_skipLetters
  rw [show f_X1_skipLetters_l0 KF 1 FU μ = some r from e]
  rfl
theorem m_isAt {m p : Nat} {T : Nat → Int32} {η : Mm} (h : HM m T η) (hp : η.1 139 8 = nI p) (hm : p ≤ m) (lo hi : Int32) : (atP T m p lo hi → f_X8_isAt KF η 139 lo hi = some 1) ∧ (¬ atP T m p lo hi → f_X8_isAt KF η 139 lo hi = some 0) := by
  have h150 := h.2.2.1
  by_cases c : m ≤ p
  · refine ⟨fun a => absurd a.1 (by omega), fun _ => ?_⟩
    unfold f_X8_isAt
    simp (disch := omega) only [h.2.1, hp, leN, if_pos c]
  · have eT : η.1 143 p = T p := (h.2.2.2 p (by omega)).1
    have eF : f_X8_isAt KF η 139 lo hi = bd (f_X8_in (T p) lo hi) fun x5 => lt1 (α := Int32) (if x5 = 0 then 0 else 1) fun x6 => gd (x6 = 0 ∨ x6 = 1) <| some x6 := by
      unfold f_X8_isAt
      simp (disch := omega) only [h.2.1, hp, leN, if_neg c, r_m5 h.1, bd_s, K143, gd_n, ix_n, eT]
    by_cases c1 : T p < lo
    · refine ⟨fun a => absurd c1 a.2.1, fun _ => ?_⟩
      rw [eF, in_lo c1]
      rfl
    · by_cases c2 : hi < T p
      · refine ⟨fun a => absurd c2 a.2.2, fun _ => ?_⟩
        rw [eF, in_hi c2]
        rfl
      · refine ⟨fun _ => ?_, fun a => absurd ⟨by omega, c1, c2⟩ a⟩
        rw [eF, in_in c1 c2]
        rfl
/-- the reference's place, command, numbers -/
def QS1 (q : Nat) (η ν : Mm) : Prop := ν.1 139 8 = nI q ∧ ν.1 139 9 = η.1 139 9 ∧ ν.1 144 = η.1 144
theorem QS1.nx {q q' : Nat} {μ ν : Mm} (h : QS1 q μ ν) : QS1 q' μ (sI ν 139 8 (nI q')) := ⟨sI_at, (sI_of (by omega)).trans h.2.1, (sI_rw (by omega)).trans h.2.2⟩
theorem m_skips {m p : Nat} {T : Nat → Int32} {η : Mm} (h : HM m T η) (hp : η.1 139 8 = nI p) (hm : p ≤ m) : ∃ q η', f_X8_skips KF η 139 = some η' ∧ QF η η' ∧ QS1 q η η' ∧ SE T m 32 32 p q := by
  have h150 := h.2.2.1
  obtain ⟨r, e, q, f1, f2, f3⟩ := lp (fun n d (ν : Mm) => f_X8_skips_l0 KF 139 n ν) m
    (fun d ν => QF η ν ∧ QS1 d η ν ∧ p ≤ d ∧ ∀ j, p ≤ j → j < d → atP T m j 32 32)
    (fun ν => ∃ q, QF η ν ∧ QS1 q η ν ∧ SE T m 32 32 p q)
    (by
      rintro n d ν hd ⟨p1, p2, p3, p4⟩
      obtain ⟨a1, a0⟩ := m_isAt (h.qf p1) p2.1 (by omega) 32 32
      by_cases c : atP T m d 32 32
      · refine Or.inr ⟨sI ν 139 8 (nI (d + 1)), ?_, p1.s8 (Or.inl rfl), p2.nx, by omega, fun j hj hj' => ?_⟩
        · simp only [f_X8_skips_l0, a1 c, bd_s, i10, l1_s, p2.1, nI_1]
        · by_cases e : j = d
          · subst e
            exact c
          · exact p4 j hj (by omega)
      · refine Or.inl ⟨ν, ?_, d, p1, p2, ⟨p3, by omega⟩, p4, c⟩
        simp only [f_X8_skips_l0, a0 c, bd_s, i00, if_true])
    (by
      rintro n ν ⟨p1, p2, p3, p4⟩
      obtain ⟨a1, a0⟩ := m_isAt (h.qf p1) p2.1 (by omega) 32 32
      refine ⟨ν, ?_, m, p1, p2, ⟨p3, Nat.le_refl m⟩, p4, fun a => absurd a.1 (by omega)⟩
      simp only [f_X8_skips_l0, a0 (fun a => absurd a.1 (by omega)), bd_s, i00, if_true]) (m - p) p η FU (by omega) (by unfold FU; omega) ⟨QF.rf, ⟨hp, rfl, rfl⟩, Nat.le_refl p, fun j a b => absurd b (by omega)⟩
  refine ⟨q, r, ?_, f1, f2, f3⟩
  unfold f_X8_skips
  rw [show f_X8_skips_l0 KF 139 FU η = some r from e]
  rfl
theorem m_letters {m p : Nat} {T : Nat → Int32} {η : Mm} (h : HM m T η) (hp : η.1 139 8 = nI p) (hm : p ≤ m) (x : Int32) : ∃ q η', f_X8_reads_l5 KF 139 x FU η = some η' ∧ QF η η' ∧ QS1 q η η' ∧ SE T m 97 122 p q := by
  have h150 := h.2.2.1
  obtain ⟨r, e, q, f1, f2, f3⟩ := lp (fun n d (ν : Mm) => f_X8_reads_l5 KF 139 x n ν) m
    (fun d ν => QF η ν ∧ QS1 d η ν ∧ p ≤ d ∧ ∀ j, p ≤ j → j < d → atP T m j 97 122)
    (fun ν => ∃ q, QF η ν ∧ QS1 q η ν ∧ SE T m 97 122 p q)
    (by
      rintro n d ν hd ⟨p1, p2, p3, p4⟩
      obtain ⟨a1, a0⟩ := m_isAt (h.qf p1) p2.1 (by omega) 97 122
      by_cases c : atP T m d 97 122
      · refine Or.inr ⟨sI ν 139 8 (nI (d + 1)), ?_, p1.s8 (Or.inl rfl), p2.nx, by omega, fun j hj hj' => ?_⟩
        · simp only [f_X8_reads_l5, a1 c, bd_s, i10, l1_s, p2.1, nI_1]
        · by_cases e : j = d
          · subst e
            exact c
          · exact p4 j hj (by omega)
      · refine Or.inl ⟨ν, ?_, d, p1, p2, ⟨p3, by omega⟩, p4, c⟩
        simp only [f_X8_reads_l5, a0 c, bd_s, i00, if_true])
    (by
      rintro n ν ⟨p1, p2, p3, p4⟩
      obtain ⟨a1, a0⟩ := m_isAt (h.qf p1) p2.1 (by omega) 97 122
      refine ⟨ν, ?_, m, p1, p2, ⟨p3, Nat.le_refl m⟩, p4, fun a => absurd a.1 (by omega)⟩
      simp only [f_X8_reads_l5, a0 (fun a => absurd a.1 (by omega)), bd_s, i00, if_true]) (m - p) p η FU (by omega) (by unfold FU; omega) ⟨QF.rf, ⟨hp, rfl, rfl⟩, Nat.le_refl p, fun j a b => absurd b (by omega)⟩
  exact ⟨q, r, e, f1, f2, f3⟩
/-- a number's value; how many digits stand there, four at the most -/
def vl (T : Nat → Int32) (q : Nat) : Nat → Int32 | 0 => 0 | k + 1 => 10 * vl T q k + T (q + k) - 48
def DG (T : Nat → Int32) (m q d : Nat) : Prop := (d ≤ 4 ∧ q + d ≤ m) ∧ (∀ j, j < d → atP T m (q + j) 48 57) ∧ (d = 4 ∨ ¬ atP T m (q + d) 48 57)
theorem DG.one {T : Nat → Int32} {m q d d' : Nat} (h : DG T m q d) (h' : DG T m q d') : d = d' := by
  rcases Nat.lt_trichotomy d d' with e | e | e
  · rcases h.2.2 with c | c
    · have := h'.1.1
      omega
    · exact absurd (h'.2.1 d e) c
  · exact e
  · rcases h'.2.2 with c | c
    · have := h.1.1
      omega
    · exact absurd (h.2.1 d' e) c
theorem c_digits {m q i : Nat} {T : Nat → Int32} {μ : Mm} (h : HC m T μ) (hp : μ.1 1 2 = nI q) (hm : q ≤ m) : ∃ d μ', f_X1_readNumber_l24 KF 1 (nI i) FU μ 0 0 = some (vl T q d, nI d, μ') ∧ PF μ μ' ∧ PS1 (q + d) μ μ' ∧ DG T m q d := by
  have h150 := h.2.2.1
  obtain ⟨r, e, d, e1, f1, f2, f3⟩ := lp (fun n d (s : Int32 × Mm) => f_X1_readNumber_l24 KF 1 (nI i) n s.2 s.1 (nI d)) 4
    (fun d s => s.1 = vl T q d ∧ PF μ s.2 ∧ PS1 (q + d) μ s.2 ∧ q + d ≤ m ∧ ∀ j, j < d → atP T m (q + j) 48 57)
    (fun r => ∃ d, (r.1 = vl T q d ∧ r.2.1 = nI d) ∧ PF μ r.2.2 ∧ PS1 (q + d) μ r.2.2 ∧ DG T m q d)
    (by
      rintro n d ⟨v, ν⟩ hd ⟨p0, p1, p2, p3, p4⟩
      have p0 : v = vl T q d := p0
      subst p0
      have p1 : PF μ ν := p1
      have p2 : PS1 (q + d) μ ν := p2
      have hν := h.pf p1
      by_cases c0 : m ≤ q + d
      · refine Or.inl ⟨(vl T q d, nI d, ν), ?_, d, ⟨rfl, rfl⟩, p1, p2, ⟨by omega, p3⟩, p4, Or.inr (fun a => absurd a.1 (by omega))⟩
        simp (disch := omega) only [f_X1_readNumber_l24, L4, leN, if_neg (Nat.not_le.mpr hd), hν.2.1, p2.1, if_pos c0]
      · have eT : ν.1 2 (q + d) = T (q + d) := hν.2.2.2 (q + d) (by omega)
        have eF : f_X1_readNumber_l24 KF 1 (nI i) (n + 1) ν (vl T q d) (nI d) = if T (q + d) < 48 then some (vl T q d, nI d, ν) else if 57 < T (q + d) then some (vl T q d, nI d, ν) else f_X1_readNumber_l24 KF 1 (nI i) n (sI ν 1 2 (nI (q + d + 1))) (10 * vl T q d + T (q + d) - 48) (nI (d + 1)) := by
          simp (disch := omega) only [f_X1_readNumber_l24, L4, leN, if_neg (Nat.not_le.mpr hd), hν.2.1, p2.1, if_neg c0, r_10 hν.1, bd_s, l1_s, K2, gd_n, ix_n, eT, nI_1]
        by_cases c : T (q + d) < 48
        · exact Or.inl ⟨(vl T q d, nI d, ν), by rw [eF, if_pos c], d, ⟨rfl, rfl⟩, p1, p2, ⟨by omega, p3⟩, p4, Or.inr (fun a => a.2.1 c)⟩
        · by_cases c' : 57 < T (q + d)
          · exact Or.inl ⟨(vl T q d, nI d, ν), by rw [eF, if_neg c, if_pos c'], d, ⟨rfl, rfl⟩, p1, p2, ⟨by omega, p3⟩, p4, Or.inr (fun a => a.2.2 c')⟩
          · refine Or.inr ⟨(10 * vl T q d + T (q + d) - 48, sI ν 1 2 (nI (q + d + 1))), by rw [eF, if_neg c, if_neg c'], rfl, p1.s1 (Or.inl rfl), p2.nx, by omega, fun j hj => ?_⟩
            by_cases e : j = d
            · subst e
              exact ⟨by omega, c, c'⟩
            · exact p4 j (by omega))
    (by
      rintro n ⟨v, ν⟩ ⟨p0, p1, p2, p3, p4⟩
      refine ⟨(v, nI 4, ν), ?_, 4, ⟨p0, rfl⟩, p1, p2, ⟨by omega, p3⟩, p4, Or.inl rfl⟩
      simp (disch := omega) only [f_X1_readNumber_l24, L4, leN, if_pos (Nat.le_refl 4)]) 4 0 (0, μ) FU (by omega) (by unfold FU; omega) ⟨rfl, PF.rf, ⟨hp, rfl, rfl, rfl⟩, hm, fun j hj => absurd hj (by omega)⟩
  obtain ⟨r1, r2, r3⟩ := r
  obtain ⟨e1, e2⟩ := e1
  have e1 : r1 = vl T q d := e1
  have e2 : r2 = nI d := e2
  subst e1
  subst e2
  exact ⟨d, r3, e, f1, f2, f3⟩
end PureP1
