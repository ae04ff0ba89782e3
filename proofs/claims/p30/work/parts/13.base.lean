/-! PURE: the numbers of the objects, their kinds and links; the coupling of the class's state and a row -/
section PureA
def SKs : List (Nat × Nat) := [(4, 0), (2, 0), (8, 24), (8, 24), (8, 24), (8, 7), (10, 6), (9, 6), (3, 0), (8, 6), (3, 0), (8, 6), (3, 0), (8, 6), (3, 0), (8, 6), (3, 0), (8, 6), (3, 0), (8, 6), (1, 0), (1, 0), (1, 0), (1, 0), (1, 0), (1, 0)]
def KL : List (Nat × Nat) := [(5, 0), (0, 0), (7, 150), (8, 3), (11, 4), (2, 0), (8, 24), (8, 24), (8, 24)] ++ (SKs ++ (SKs ++ (SKs ++ (SKs ++ (SKs ++ [(8, 14), (8, 24), (8, 24), (8, 24), (8, 60), (8, 36)])))))
def KF (k : Nat) : Nat × Nat := KL.getD k (99, 0)
theorem bd_s {α β : Type} (v : α) (k : α → Option β) : bd (some v) k = k v := rfl
theorem l1_s {α β : Type} (v : α) (k : α → Option β) : lt1 v k = k v := rfl
theorem gd_t {α : Type} {c : Prop} [Decidable c] {k : Option α} (h : c) : gd c k = k := if_pos h
theorem gd_n {α : Type} {d n : Nat} {k : Option α} (h : d < n) (hn : n ≤ 2000) : gd (inb (nI d) n) k = k := gd_t (nI_in h (by omega))
theorem ix_n {d : Nat} (h : d < 2147483648) : ix (nI d) = d := nI_clamp h
theorem L0 : (0 : Int32) = nI 0 := by decide +kernel
theorem L1 : (1 : Int32) = nI 1 := by decide +kernel
theorem L2 : (2 : Int32) = nI 2 := by decide +kernel
theorem L3 : (3 : Int32) = nI 3 := by decide +kernel
theorem L4 : (4 : Int32) = nI 4 := by decide +kernel
theorem L5 : (5 : Int32) = nI 5 := by decide +kernel
theorem L6 : (6 : Int32) = nI 6 := by decide +kernel
theorem L7 : (7 : Int32) = nI 7 := by decide +kernel
theorem L8 : (8 : Int32) = nI 8 := by decide +kernel
theorem L9 : (9 : Int32) = nI 9 := by decide +kernel
theorem L10 : (10 : Int32) = nI 10 := by decide +kernel
theorem L11 : (11 : Int32) = nI 11 := by decide +kernel
theorem L12 : (12 : Int32) = nI 12 := by decide +kernel
theorem L13 : (13 : Int32) = nI 13 := by decide +kernel
theorem L14 : (14 : Int32) = nI 14 := by decide +kernel
theorem L16 : (16 : Int32) = nI 16 := by decide +kernel
theorem L17 : (17 : Int32) = nI 17 := by decide +kernel
theorem L20 : (20 : Int32) = nI 20 := by decide +kernel
theorem L21 : (21 : Int32) = nI 21 := by decide +kernel
theorem L22 : (22 : Int32) = nI 22 := by decide +kernel
theorem L23 : (23 : Int32) = nI 23 := by decide +kernel
theorem L26 : (26 : Int32) = nI 26 := by decide +kernel
theorem L30 : (30 : Int32) = nI 30 := by decide +kernel
theorem L36 : (36 : Int32) = nI 36 := by decide +kernel
theorem L60 : (60 : Int32) = nI 60 := by decide +kernel
theorem L72 : (72 : Int32) = nI 72 := by decide +kernel
theorem L90 : (90 : Int32) = nI 90 := by decide +kernel
theorem L24 : (24 : Int32) = nI 24 := by decide +kernel
theorem leN {a b : Nat} (ha : a < 2147483648) (hb : b < 2147483648) : (nI a ≤ nI b) = (a ≤ b) := propext (nI_leI ha hb)
theorem ltN {a b : Nat} (ha : a < 2147483648) (hb : b < 2147483648) : (nI a < nI b) = (a < b) := propext (nI_ltI ha hb)
theorem eqN {a b : Nat} (ha : a < 2147483648) (hb : b < 2147483648) : (nI a = nI b) = (a = b) := propext (nI_eq ha hb)
theorem sI_at {μ : Mm} {k j : Nat} {v : Int32} : (sI μ k j v).1 k j = v := by simp [sI, up2]
theorem sI_of {μ : Mm} {k j b : Nat} {v : Int32} (h : b ≠ j) : (sI μ k j v).1 k b = μ.1 k b := by simp [sI, up2, h]
theorem sI_no {μ : Mm} {k j a b : Nat} {v : Int32} (h : a ≠ k) : (sI μ k j v).1 a b = μ.1 a b := by simp [sI, up2, h]
theorem sI_rw {μ : Mm} {k j a : Nat} {v : Int32} (h : a ≠ k) : (sI μ k j v).1 a = μ.1 a := by funext b; exact sI_no h
theorem sI_2 {μ : Mm} {k j : Nat} {v : Int32} : (sI μ k j v).2 = μ.2 := rfl
theorem rf_sI {K : Nat → Nat × Nat} {μ : Mm} {k j a b c : Nat} {v : Int32} : rf K (sI μ a b v) k j c = rf K μ k j c := rfl
theorem rf_of {K : Nat → Nat × Nat} {μ : Mm} {k j c h : Nat} (e : μ.2.1 k j = some h) (hk : (K h).1 = c) : rf K μ k j c = some h := by
  unfold rf
  rw [e]
  exact if_pos hk
/-- only the ints of some objects have changed -/
def FrI (S : Nat → Prop) (μ μ' : Mm) : Prop := μ'.2 = μ.2 ∧ ∀ a, ¬ S a → μ'.1 a = μ.1 a
theorem FrI.rfl {S : Nat → Prop} {μ : Mm} : FrI S μ μ := ⟨Eq.refl _, fun _ _ => Eq.refl _⟩
theorem FrI.trans {S : Nat → Prop} {μ μ' μ'' : Mm} (h : FrI S μ μ') (h' : FrI S μ' μ'') : FrI S μ μ'' := ⟨h'.1.trans h.1, fun a ha => (h'.2 a ha).trans (h.2 a ha)⟩
theorem FrI.sI {S : Nat → Prop} {μ μ' : Mm} (h : FrI S μ μ') {k j : Nat} {v : Int32} (hk : S k) : FrI S μ (sI μ' k j v) := ⟨h.1, fun a ha => (sI_rw (fun e => ha (by rw [e]; exact hk))).trans (h.2 a ha)⟩
theorem FrI.mono {S T : Nat → Prop} {μ μ' : Mm} (h : FrI S μ μ') (hS : ∀ a, S a → T a) : FrI T μ μ' := ⟨h.1, fun a ha => h.2 a (fun s => ha (hS a s))⟩
theorem rf_fr {K : Nat → Nat × Nat} {S : Nat → Prop} {μ μ' : Mm} (h : FrI S μ μ') {k j c : Nat} : rf K μ' k j c = rf K μ k j c := by
  unfold rf
  rw [h.1]
/-- a loop: a step goes on or ends -/
theorem lp {σ ρ : Type} (F : Nat → Nat → σ → Option ρ) (D : Nat) (P : Nat → σ → Prop) (Q : ρ → Prop)
    (step : ∀ n d s, d < D → P d s → (∃ r, F (n + 1) d s = some r ∧ Q r) ∨ ∃ s', F (n + 1) d s = F n (d + 1) s' ∧ P (d + 1) s')
    (fin : ∀ n s, P D s → ∃ r, F (n + 1) D s = some r ∧ Q r) : ∀ k d s n, k + d = D → k < n → P d s → ∃ r, F n d s = some r ∧ Q r := by
  intro k
  induction k with
  | zero =>
    intro d s n e hn hP
    obtain ⟨m, rfl⟩ : ∃ m, n = m + 1 := ⟨n - 1, by omega⟩
    have e : d = D := by omega
    subst e
    exact fin m s hP
  | succ k ih =>
    intro d s n e hn hP
    obtain ⟨m, rfl⟩ : ∃ m, n = m + 1 := ⟨n - 1, by omega⟩
    rcases step m d s (by omega) hP with h | ⟨s', e1, h1⟩
    · exact h
    · rw [e1]
      exact ih (d + 1) s' m (by omega) (by omega) h1
theorem lp0 {σ ρ : Type} (F : Nat → Nat → σ → Option ρ) (D : Nat) (hD : D < FU) (P : Nat → σ → Prop) (Q : ρ → Prop)
    (step : ∀ n d s, d < D → P d s → (∃ r, F (n + 1) d s = some r ∧ Q r) ∨ ∃ s', F (n + 1) d s = F n (d + 1) s' ∧ P (d + 1) s')
    (fin : ∀ n s, P D s → ∃ r, F (n + 1) D s = some r ∧ Q r) (s : σ) (h : P 0 s) : ∃ r, F FU 0 s = some r ∧ Q r := lp F D P Q step fin D 0 s FU (by omega) hD h
/-- how the objects hold on to each other -/
def SB (b : Nat) : Prop := b = 9 ∨ b = 35 ∨ b = 61 ∨ b = 87 ∨ b = 113
def HdR (μ : Mm) (h : Nat) : Prop := μ.2.1 h 2 = some (h + 1) ∧ μ.2.1 h 3 = some (h + 2) ∧ μ.2.1 h 4 = some (h + 3)
def RSt (μ : Mm) (b : Nat) : Prop := μ.2.1 b 0 = some (b + 1) ∧ HdR μ (b + 1) ∧ μ.2.1 b 1 = some 5 ∧ μ.2.1 b 2 = some (b + 5) ∧ μ.2.1 b 3 = some (b + 6) ∧ μ.2.1 b 5 = some (b + 7) ∧
  (∀ i, i < 6 → μ.2.1 (b + 6) i = some (b + 8 + 2 * i) ∧ μ.2.1 (b + 8 + 2 * i) 4 = some (b + 9 + 2 * i)) ∧ ∀ i, i < 6 → μ.2.1 (b + 7) i = some (b + 20 + i)
def RF (μ : Mm) : Prop := (∀ b, SB b → RSt μ b) ∧ HdR μ 5 ∧ (μ.2.1 0 0 = some 1 ∧ μ.2.1 0 1 = some 4 ∧ μ.2.1 0 3 = some 9) ∧ (μ.2.1 1 0 = some 2 ∧ μ.2.1 1 5 = some 3)
theorem RF.fr {S : Nat → Prop} {μ μ' : Mm} (h : RF μ) (e : FrI S μ μ') : RF μ' := by
  unfold RF RSt HdR at *
  rw [e.1]
  exact h
theorem RF.sI {μ : Mm} {k j : Nat} {v : Int32} (h : RF μ) : RF (sI μ k j v) := h
theorem sb9 : SB 9 := Or.inl rfl
/-- heads: the one that prints and the one that plays -/
def HB (h : Nat) : Prop := h = 10 ∨ h = 5
theorem HB.r {μ : Mm} {h : Nat} (hR : RF μ) (hh : HB h) : HdR μ h := by
  rcases hh with rfl | rfl
  · exact (hR.1 9 sb9).2.1
  · exact hR.2.1
theorem HB.k {h : Nat} (hh : HB h) : KF (h + 1) = (8, 24) ∧ KF (h + 2) = (8, 24) ∧ KF (h + 3) = (8, 24) := by
  rcases hh with rfl | rfl <;> exact ⟨rfl, rfl, rfl⟩
theorem r_h2 {μ : Mm} {h : Nat} (hR : RF μ) (hh : HB h) : rf KF μ h 2 8 = some (h + 1) := rf_of (hh.r hR).1 (by rw [hh.k.1])
theorem r_h3 {μ : Mm} {h : Nat} (hR : RF μ) (hh : HB h) : rf KF μ h 3 8 = some (h + 2) := rf_of (hh.r hR).2.1 (by rw [hh.k.2.1])
theorem r_h4 {μ : Mm} {h : Nat} (hR : RF μ) (hh : HB h) : rf KF μ h 4 8 = some (h + 3) := rf_of (hh.r hR).2.2 (by rw [hh.k.2.2])
theorem r_00 {μ : Mm} (hR : RF μ) : rf KF μ 0 0 0 = some 1 := rf_of hR.2.2.1.1 rfl
theorem r_01 {μ : Mm} (hR : RF μ) : rf KF μ 0 1 11 = some 4 := rf_of hR.2.2.1.2.1 rfl
theorem r_03 {μ : Mm} (hR : RF μ) : rf KF μ 0 3 4 = some 9 := rf_of hR.2.2.1.2.2 rfl
theorem r_90 {μ : Mm} (hR : RF μ) : rf KF μ 9 0 2 = some 10 := rf_of (hR.1 9 sb9).1 rfl
theorem r_91 {μ : Mm} (hR : RF μ) : rf KF μ 9 1 2 = some 5 := rf_of (hR.1 9 sb9).2.2.1 rfl
theorem r_92 {μ : Mm} (hR : RF μ) : rf KF μ 9 2 8 = some 14 := rf_of (hR.1 9 sb9).2.2.2.1 rfl
theorem r_93 {μ : Mm} (hR : RF μ) : rf KF μ 9 3 10 = some 15 := rf_of (hR.1 9 sb9).2.2.2.2.1 rfl
theorem r_95 {μ : Mm} (hR : RF μ) : rf KF μ 9 5 9 = some 16 := rf_of (hR.1 9 sb9).2.2.2.2.2.1 rfl
theorem r_102 {μ : Mm} (hR : RF μ) : rf KF μ 10 2 8 = some 11 := r_h2 hR (Or.inl rfl)
theorem r_103 {μ : Mm} (hR : RF μ) : rf KF μ 10 3 8 = some 12 := r_h3 hR (Or.inl rfl)
theorem r_104 {μ : Mm} (hR : RF μ) : rf KF μ 10 4 8 = some 13 := r_h4 hR (Or.inl rfl)
theorem r_52 {μ : Mm} (hR : RF μ) : rf KF μ 5 2 8 = some 6 := r_h2 hR (Or.inr rfl)
theorem r_53 {μ : Mm} (hR : RF μ) : rf KF μ 5 3 8 = some 7 := r_h3 hR (Or.inr rfl)
theorem r_lab {μ : Mm} (hR : RF μ) {i : Nat} (h : i < 6) : rf KF μ 15 i 3 = some (17 + 2 * i) := rf_of ((hR.1 9 sb9).2.2.2.2.2.2.1 i h).1 ((by decide : ∀ i, i < 6 → (KF (17 + 2 * i)).1 = 3) i h)
theorem r_row {μ : Mm} (hR : RF μ) {i : Nat} (h : i < 6) : rf KF μ (17 + 2 * i) 4 8 = some (18 + 2 * i) := rf_of ((hR.1 9 sb9).2.2.2.2.2.2.1 i h).2 ((by decide : ∀ i, i < 6 → (KF (18 + 2 * i)).1 = 8) i h)
theorem r_cus {μ : Mm} (hR : RF μ) {i : Nat} (h : i < 6) : rf KF μ 16 i 1 = some (29 + i) := rf_of ((hR.1 9 sb9).2.2.2.2.2.2.2 i h) ((by decide : ∀ i, i < 6 → (KF (29 + i)).1 = 1) i h)
theorem K_row : ∀ i, i < 6 → KF (18 + 2 * i) = (8, 6) := by decide
/-- a value within bounds -/
def bnd (v : Int32) (lo hi : Nat) : Prop := ∃ n, lo ≤ n ∧ n ≤ hi ∧ v = nI n
/-- what holds of the reference's row: D dots, L labels, C customers -/
def rents (f : Nat → Int32) (k d : Nat) : Prop := f (146 + 6 * k) ≠ -1 ∧ f (146 + 6 * k) ≤ nI d ∧ nI d ≤ f (146 + 6 * k + 1)
def sumL (f : Nat → Int32) (j : Nat) : Nat → Int32 | 0 => 0 | n + 1 => sumL f j n + f (86 + 10 * n + j)
def WF (f : Nat → Int32) (D L C : Nat) : Prop := (f 0 = nI D ∧ 4 ≤ D ∧ D ≤ 24) ∧ (f 8 = nI L ∧ L ≤ 6) ∧ (f 9 = nI C ∧ C ≤ 6) ∧
  (bnd (f 1) 0 30 ∧ bnd (f 2) 10 90 ∧ bnd (f 3) 0 9999 ∧ bnd (f 4) 1 100 ∧ bnd (f 5) 0 8 ∧ bnd (f 6) 0 20 ∧ bnd (f 7) 1 100) ∧
  (∀ d, d < D → bnd (f (14 + 3 * d)) 0 90 ∧ bnd (f (14 + 3 * d + 1)) 0 9999) ∧
  (∀ l, l < L → (∃ w, 1 ≤ w ∧ w ≤ 12 ∧ f (86 + 10 * l) = nI w ∧ ∀ r, r < 6 → bnd (f (86 + 10 * l + (2 + r))) 0 (2 ^ w - 1)) ∧ bnd (f (86 + 10 * l + 1)) 1 9) ∧
  (∀ k, k < C → (f (146 + 6 * k) = -1 ∧ f (146 + 6 * k + 1) = -1) ∨ ∃ a b, a ≤ b ∧ b < D ∧ f (146 + 6 * k) = nI a ∧ f (146 + 6 * k + 1) = nI b) ∧
  (∀ j k d, j < C → k < C → d < D → rents f j d → rents f k d → j = k) ∧ sumL f 8 L = f 11 ∧ sumL f 9 L = f 12
/-- the class's state of a base b holds what the row does -/
def Cpl (μ : Mm) (b : Nat) (f : Nat → Int32) (D L C : Nat) : Prop := (μ.1 (b + 1) 0 = f 0 ∧ μ.1 (b + 1) 1 = f 10) ∧
  (∀ d, d < D → μ.1 (b + 2) d = f (14 + 3 * d) ∧ μ.1 (b + 3) d = f (14 + 3 * d + 1) ∧ μ.1 (b + 4) d = f (14 + 3 * d + 2)) ∧ (∀ j, j < 7 → μ.1 (b + 5) j = f (1 + j)) ∧
  (μ.1 b 4 = f 8 ∧ μ.1 b 6 = f 9 ∧ μ.1 b 7 = f 13) ∧
  (∀ l, l < L → (μ.1 (b + 8 + 2 * l) 0 = f (86 + 10 * l) ∧ μ.1 (b + 8 + 2 * l) 1 = f (86 + 10 * l + 1) ∧ μ.1 (b + 8 + 2 * l) 2 = f (86 + 10 * l + 8) ∧ μ.1 (b + 8 + 2 * l) 3 = f (86 + 10 * l + 9)) ∧ ∀ r, r < 6 → μ.1 (b + 9 + 2 * l) r = f (86 + 10 * l + (2 + r))) ∧
  (∀ l, L ≤ l → l < 6 → (μ.1 (b + 8 + 2 * l) 2 = 0 ∧ μ.1 (b + 8 + 2 * l) 3 = 0) ∧ ∀ r, r < 6 → μ.1 (b + 9 + 2 * l) r = 0) ∧
  (∀ k, k < C → ∀ j, j < 6 → μ.1 (b + 20 + k) j = f (146 + 6 * k + j)) ∧
  ∀ k, C ≤ k → k < 6 → μ.1 (b + 20 + k) 0 = -1 ∧ μ.1 (b + 20 + k) 1 = -1 ∧ ∀ j, 2 ≤ j → j < 6 → μ.1 (b + 20 + k) j = 0
/-- the class's state holds what the row f does -/
def CR (D L C : Nat) (μ : Mm) (f : Nat → Int32) : Prop := RF μ ∧ Cpl μ 9 f D L C ∧ WF f D L C
theorem K4 : KF 4 = (11, 4) := by decide +kernel
theorem K6 : KF 6 = (8, 24) := by decide +kernel
theorem K7 : KF 7 = (8, 24) := by decide +kernel
theorem K8 : KF 8 = (8, 24) := by decide +kernel
theorem K139 : KF 139 = (8, 14) := by decide +kernel
theorem K140 : KF 140 = (8, 24) := by decide +kernel
theorem K141 : KF 141 = (8, 24) := by decide +kernel
theorem K142 : KF 142 = (8, 24) := by decide +kernel
theorem K143 : KF 143 = (8, 60) := by decide +kernel
theorem K144 : KF 144 = (8, 36) := by decide +kernel
theorem K11 : KF 11 = (8, 24) := by decide +kernel
theorem K12 : KF 12 = (8, 24) := by decide +kernel
theorem K13 : KF 13 = (8, 24) := by decide +kernel
theorem K14 : KF 14 = (8, 7) := by decide +kernel
theorem K15 : KF 15 = (10, 6) := by decide +kernel
theorem K16 : KF 16 = (9, 6) := by decide +kernel
/-- is there such a dot, label, customer -/
def has (a : Int32) (n : Nat) : Int32 := if a < 0 then 0 else if nI n ≤ a then 0 else 1
theorem has_no {a : Int32} {n : Nat} (h : has a n = 0) : a < 0 ∨ nI n ≤ a := by
  unfold has at h
  by_cases q : a < 0
  · exact Or.inl q
  · rw [if_neg q] at h
    by_cases q' : nI n ≤ a
    · exact Or.inr q'
    · rw [if_neg q'] at h
      exact absurd h (by decide)
theorem has_yes {a : Int32} {n : Nat} (h : ¬ has a n = 0) (hn : n < 1000) : ∃ j, j < n ∧ a = nI j ∧ has a n = 1 := by
  rcases pk_ix a (n := n) (by omega) with q | q | ⟨j, hj, e⟩
  · exact absurd (if_pos q) h
  · by_cases q' : a < 0
    · exact absurd (if_pos q') h
    · exact absurd (show has a n = 0 by unfold has; rw [if_neg q', if_pos q]) h
  · refine ⟨j, hj, e, ?_⟩
    subst e
    unfold has
    rw [if_neg (nI_pos (by omega)), if_neg (nI_ge hj (by omega))]
theorem has_n {j n : Nat} (h : j < n) (hn : n < 1000) : has (nI j) n = 1 := by
  unfold has
  rw [if_neg (nI_pos (by omega)), if_neg (nI_ge h (by omega))]
theorem has_01 (a : Int32) (n : Nat) : has a n = 0 ∨ has a n = 1 := by
  unfold has
  split
  · exact Or.inl rfl
  · split
    · exact Or.inl rfl
    · exact Or.inr rfl
theorem c_hasDot {D L C : Nat} {μ : Mm} {f : Nat → Int32} (h : CR D L C μ f) (a : Int32) : f_X5_hasDot KF μ 9 a = some (has a D) := by
  obtain ⟨hR, hc, hw⟩ := h
  unfold f_X5_hasDot has
  have e : μ.1 10 0 = nI D := hc.1.1.trans hw.1.1
  simp only [r_90 hR, bd_s, e, l1_s]
  split
  · rfl
  · split <;> rfl
theorem c_hasLabel {D L C : Nat} {μ : Mm} {f : Nat → Int32} (h : CR D L C μ f) (a : Int32) : f_X5_hasLabel KF μ 9 a = some (has a L) := by
  obtain ⟨hR, hc, hw⟩ := h
  unfold f_X5_hasLabel has
  have e : μ.1 9 4 = nI L := hc.2.2.2.1.1.trans hw.2.1.1
  simp only [bd_s, e, l1_s]
  split
  · rfl
  · split <;> rfl
theorem c_hasCustomer {D L C : Nat} {μ : Mm} {f : Nat → Int32} (h : CR D L C μ f) (a : Int32) : f_X5_hasCustomer KF μ 9 a = some (has a C) := by
  obtain ⟨hR, hc, hw⟩ := h
  unfold f_X5_hasCustomer has
  have e : μ.1 9 6 = nI C := hc.2.2.2.1.2.1.trans hw.2.2.1.1
  simp only [bd_s, e, l1_s]
  split
  · rfl
  · split <;> rfl
theorem r_10 {μ : Mm} (hR : RF μ) : rf KF μ 1 0 7 = some 2 := rf_of hR.2.2.2.1 rfl
end PureA
