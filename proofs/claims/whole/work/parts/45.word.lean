/-! PURE: the words of the commands -/
section PureP4
/-- word i stands at s, k letters long -/
def MT (T : Nat → Int32) (i s k : Nat) : Prop := (wT i).length = k ∧ ∀ j, j < k → T (s + j) = (wT i).getD j 0
theorem w_len : ∀ i, i < 10 → f_J0_length_8abf5 i = some (nI (wT i).length) ∧ (wT i).length ≤ 6 := by decide +kernel
theorem w_chr : ∀ i, i < 10 → ∀ j, j < 6 → j < (wT i).length → f_J0_charAt_5068e i (nI j) = some ((wT i).getD j 0) := by decide +kernel
theorem c_between {m s k i : Nat} {T : Nat → Int32} {μ : Mm} (h : HC m T μ) (hk : s + k ≤ m) (hi : i < 10) : (MT T i s k ∧ f_X1_isBetween KF μ 1 i (nI s) (nI (s + k)) = some 1) ∨ (¬ MT T i s k ∧ f_X1_isBetween KF μ 1 i (nI s) (nI (s + k)) = some 0) := by
  have h150 := h.2.2.1
  obtain ⟨hl, hl6⟩ := w_len i hi
  have es : nI (s + k) - nI s = nI k := by rw [pk_sub (by omega), Nat.add_sub_cancel_left]
  by_cases c : (wT i).length = k
  · obtain ⟨r, e, q⟩ := lp0 (fun n d (_ : Unit) => f_X1_isBetween_l15 KF μ 1 i (nI s) n (nI d)) k (by unfold FU; omega) (fun d _ => ∀ j, j < d → T (s + j) = (wT i).getD j 0)
      (fun r => (r = .inl 0 ∧ ¬ MT T i s k) ∨ (r = .inr () ∧ MT T i s k))
      (by
        intro n d _ hd hP
        have eT : μ.1 2 (s + d) = T (s + d) := h.2.2.2 (s + d) (by omega)
        have eF : f_X1_isBetween_l15 KF μ 1 i (nI s) (n + 1) (nI d) = if (wT i).getD d 0 = T (s + d) then f_X1_isBetween_l15 KF μ 1 i (nI s) n (nI (d + 1)) else some (.inl 0) := by
          simp (disch := omega) only [f_X1_isBetween_l15, hl, c, bd_s, leN, if_neg (Nat.not_le.mpr hd), w_chr i hi d (by omega) (by omega), r_10 h.1, nI_add, K2, gd_n, ix_n, eT, l1_s, nI_1]
        by_cases e : (wT i).getD d 0 = T (s + d)
        · refine Or.inr ⟨(), by rw [eF, if_pos e], fun j hj => ?_⟩
          by_cases e' : j = d
          · subst e'
            exact e.symm
          · exact hP j (by omega)
        · exact Or.inl ⟨.inl 0, by rw [eF, if_neg e], Or.inl ⟨rfl, fun M => e (M.2 d hd).symm⟩⟩)
      (by
        intro n _ hP
        refine ⟨.inr (), ?_, Or.inr ⟨rfl, c, hP⟩⟩
        simp (disch := omega) only [f_X1_isBetween_l15, hl, c, bd_s, leN, if_pos (Nat.le_refl k)]) () (fun j hj => absurd hj (by omega))
    rcases q with ⟨rfl, q⟩ | ⟨rfl, q⟩
    · refine Or.inr ⟨q, ?_⟩
      unfold f_X1_isBetween
      rw [hl, bd_s, es, if_pos (by rw [c]), show f_X1_isBetween_l15 KF μ 1 i (nI s) FU 0 = some (.inl 0) from e, bd_s]
    · refine Or.inl ⟨q, ?_⟩
      unfold f_X1_isBetween
      rw [hl, bd_s, es, if_pos (by rw [c]), show f_X1_isBetween_l15 KF μ 1 i (nI s) FU 0 = some (.inr ()) from e, bd_s]
  · refine Or.inr ⟨fun M => c M.1, ?_⟩
    unfold f_X1_isBetween
    rw [hl, bd_s, es, if_neg (by rw [eqN (by omega) (by omega)]; exact c)]
/-- which word stands there -/
def WB (T : Nat → Int32) (s k : Nat) (w : Option Nat) : Prop := (w = none ∧ ∀ i, i < 10 → ¬ MT T i s k) ∨ ∃ i, i < 10 ∧ w = some i ∧ MT T i s k
theorem c_word {m s k : Nat} {T : Nat → Int32} {μ : Mm} (h : HC m T μ) (hk : s + k ≤ m) : ∃ w, f_X1_wordBetween KF μ 1 (nI s) (nI (s + k)) = some w ∧ WB T s k w := by
  obtain ⟨r, e, q⟩ := lp0 (fun n d (_ : Unit) => f_X1_wordBetween_l11 KF μ 1 (nI s) (nI (s + k)) 10 n (nI d)) 10 (by unfold FU; omega) (fun d _ => ∀ i, i < d → ¬ MT T i s k)
    (fun r => (r = .inr () ∧ ∀ i, i < 10 → ¬ MT T i s k) ∨ ∃ i, i < 10 ∧ r = .inl (some i) ∧ MT T i s k)
    (by
      intro n d _ hd hP
      rcases c_between h hk hd with ⟨M, eb⟩ | ⟨M, eb⟩
      · refine Or.inl ⟨.inl (some d), ?_, Or.inr ⟨d, hd, rfl, M⟩⟩
        simp (disch := omega) only [f_X1_wordBetween_l11, L10, leN, if_neg (Nat.not_le.mpr hd), gd_n, ix_n, l1_s, eb, bd_s, i10]
      · refine Or.inr ⟨(), ?_, fun i hi => ?_⟩
        · simp (disch := omega) only [f_X1_wordBetween_l11, L10, leN, if_neg (Nat.not_le.mpr hd), gd_n, ix_n, l1_s, eb, bd_s, i00, if_true, nI_1]
        · by_cases e : i = d
          · subst e
            exact M
          · exact hP i (by omega))
    (by
      intro n _ hP
      refine ⟨.inr (), ?_, Or.inl ⟨rfl, hP⟩⟩
      simp (disch := omega) only [f_X1_wordBetween_l11, L10, leN, if_pos (Nat.le_refl 10)]) () (fun j hj => absurd hj (by omega))
  rcases q with ⟨rfl, q⟩ | ⟨i, hi, rfl, q⟩
  · refine ⟨none, ?_, Or.inl ⟨rfl, q⟩⟩
    unfold f_X1_wordBetween
    rw [show f_X1_wordBetween_l11 KF μ 1 (nI s) (nI (s + k)) 10 FU 0 = some (.inr ()) from e, bd_s]
  · refine ⟨some i, ?_, Or.inr ⟨i, hi, rfl, q⟩⟩
    unfold f_X1_wordBetween
    rw [show f_X1_wordBetween_l11 KF μ 1 (nI s) (nI (s + k)) 10 FU 0 = some (.inl (some i)) from e, bd_s]
/-- letters as a number -/
def wn (f : Nat → Nat) : Nat → Nat | 0 => 0 | k + 1 => 27 * wn f k + f k
theorem wn_inj {f g : Nat → Nat} : ∀ a b, (∀ j, j < a → 1 ≤ f j ∧ f j ≤ 26) → (∀ j, j < b → 1 ≤ g j ∧ g j ≤ 26) → wn f a = wn g b → a = b ∧ ∀ j, j < a → f j = g j
  | 0, 0, _, _, _ => ⟨rfl, fun j hj => absurd hj (by omega)⟩
  | 0, b + 1, _, hg, e => by
    have h2 := hg b (by omega)
    have e : 0 = 27 * wn g b + g b := e
    omega
  | a + 1, 0, hf, _, e => by
    have h1 := hf a (by omega)
    have e : 27 * wn f a + f a = 0 := e
    omega
  | a + 1, b + 1, hf, hg, e => by
    have h1 := hf a (by omega)
    have h2 := hg b (by omega)
    have e : 27 * wn f a + f a = 27 * wn g b + g b := e
    obtain ⟨e1, e2⟩ := wn_inj a b (fun j hj => hf j (by omega)) (fun j hj => hg j (by omega)) (by omega)
    subst e1
    refine ⟨rfl, fun j hj => ?_⟩
    by_cases c : j = a
    · subst c
      omega
    · exact e2 j (by omega)
theorem wn_lt {f : Nat → Nat} : ∀ a, (∀ j, j < a → f j ≤ 26) → wn f a < 27 ^ a
  | 0, _ => by
    show 0 < 27 ^ 0
    omega
  | a + 1, hf => by
    have h1 := hf a (by omega)
    have h2 := wn_lt a (fun j hj => hf j (by omega))
    show 27 * wn f a + f a < 27 ^ (a + 1)
    rw [Nat.pow_succ]
    omega
theorem wn_cong {f g : Nat → Nat} : ∀ a, (∀ j, j < a → f j = g j) → wn f a = wn g a
  | 0, _ => rfl
  | a + 1, h => by
    show 27 * wn f a + f a = 27 * wn g a + g a
    rw [wn_cong a (fun j hj => h j (by omega)), h a (by omega)]
def tD (T : Nat → Int32) (s j : Nat) : Nat := ix (T (s + j)) - 96
def dW (i j : Nat) : Nat := ix ((wT i).getD j 0) - 96
def cd (i : Nat) : Nat := wn (dW i) (wT i).length
theorem w_dig : ∀ i, i < 10 → ∀ j, j < 6 → j < (wT i).length → (1 ≤ dW i j ∧ dW i j ≤ 26) ∧ (wT i).getD j 0 = nI (dW i j + 96) := by decide +kernel
theorem cd_lt : ∀ i, i < 10 → cd i < 387420489 ∧ 0 < cd i := by decide +kernel
theorem cd_inj : ∀ i, i < 10 → ∀ j, j < 10 → cd i = cd j → i = j := by decide +kernel
theorem mt_wn {T : Nat → Int32} {i s k : Nat} (M : MT T i s k) : wn (tD T s) k = cd i := by
  obtain ⟨rfl, M⟩ := M
  unfold cd
  exact wn_cong _ (fun j hj => by unfold tD dW; rw [M j hj])
theorem mt_one {T : Nat → Int32} {i j s k : Nat} (hi : i < 10) (hj : j < 10) (M : MT T i s k) (M' : MT T j s k) : i = j := cd_inj i hi j hj ((mt_wn M).symm.trans (mt_wn M'))
theorem let_nI {T : Nat → Int32} {m p : Nat} (h : atP T m p 97 122) : ∃ t, 97 ≤ t ∧ t ≤ 122 ∧ T p = nI t := bnd_of (lo := 97) (hi := 122) (by omega) h.2.1 (by omega) h.2.2
theorem tD_let {T : Nat → Int32} {m s j : Nat} (h : atP T m (s + j) 97 122) : (1 ≤ tD T s j ∧ tD T s j ≤ 26) ∧ T (s + j) = nI (tD T s j + 96) := by
  obtain ⟨t, h1, h2, e⟩ := let_nI h
  have et : tD T s j = t - 96 := by
    unfold tD
    rw [e, ix_n (by omega)]
  rw [et, e, show t - 96 + 96 = t by omega]
  exact ⟨⟨by omega, by omega⟩, rfl⟩
theorem wn_mt {T : Nat → Int32} {m i s k : Nat} (hi : i < 10) (hl : ∀ j, j < k → atP T m (s + j) 97 122) (e : wn (tD T s) k = cd i) : MT T i s k := by
  have hl6 := (w_len i hi).2
  obtain ⟨e1, e2⟩ := wn_inj k (wT i).length (fun j hj => (tD_let (hl j hj)).1) (fun j hj => (w_dig i hi j (by omega) hj).1) e
  refine ⟨e1.symm, fun j hj => ?_⟩
  rw [(tD_let (hl j hj)).2, (w_dig i hi j (by omega) (by omega)).2, e2 j hj]
theorem J27 : (27 : Int64) = lN 27 := by decide +kernel
theorem J97 : (97 : Int64) = lN 97 := by decide +kernel
theorem m_wordOf {m s k : Nat} {T : Nat → Int32} {η : Mm} (h : HM m T η) (hk : s + k ≤ m) (hl : ∀ j, j < k → atP T m (s + j) 97 122) : f_X8_wordOf KF η 139 (nI s) (nI (s + k)) = some (if k ≤ 6 then lN (wn (tD T s) k) else 0) := by
  have h150 := h.2.2.1
  obtain ⟨r, e, q⟩ := lp (fun n d (v : Int64) => f_X8_wordOf_l5 KF η 139 (nI s) (nI (s + k)) n v (nI d)) (s + k) (fun d v => s ≤ d ∧ v = lN (wn (tD T s) (d - s))) (fun r => r = lN (wn (tD T s) k))
    (by
      rintro n d v hd ⟨p1, p2⟩
      refine Or.inr ⟨lN (wn (tD T s) (d + 1 - s)), ?_, by omega, rfl⟩
      subst p2
      obtain ⟨t, t1, t2, et⟩ := let_nI (T := T) (m := m) (p := d) (by have := hl (d - s) (by omega); rwa [show s + (d - s) = d by omega] at this)
      have eT : η.1 143 d = nI t := by rw [(h.2.2.2 d (by omega)).1, et]
      have ew : wn (tD T s) (d + 1 - s) = 27 * wn (tD T s) (d - s) + t - 97 + 1 := by
        rw [show d + 1 - s = d - s + 1 by omega]
        show 27 * wn (tD T s) (d - s) + tD T s (d - s) = _
        unfold tD
        rw [show s + (d - s) = d by omega, et, ix_n (by omega)]
        omega
      rw [ew]
      simp (disch := omega) only [f_X8_wordOf_l5, leN, if_neg (Nat.not_le.mpr hd), r_m5 h.1, bd_s, l1_s, K143, gd_n, ix_n, eT, nI_l, J27, J97, lN_mul, lN_add, lN_sub, lN_1, nI_1])
    (by
      rintro n v ⟨p1, p2⟩
      refine ⟨v, ?_, by rw [p2, Nat.add_sub_cancel_left]⟩
      simp (disch := omega) only [f_X8_wordOf_l5, leN, if_pos (Nat.le_refl (s + k))]) k s 0 FU (by omega) (by unfold FU; omega) ⟨Nat.le_refl s, by rw [Nat.sub_self]; rfl⟩
  subst q
  have es : nI (s + k) - nI s = nI k := by rw [pk_sub (by omega), Nat.add_sub_cancel_left]
  unfold f_X8_wordOf
  rw [show f_X8_wordOf_l5 KF η 139 (nI s) (nI (s + k)) FU 0 (nI s) = some _ from e, bd_s, l1_s, es]
  simp (disch := omega) only [L6, leN]
  split <;> rfl
theorem cmp0 {x y : Int64} (h : lg_cmp x y = 0) : x = y := by
  unfold lg_cmp at h
  split at h
  · exact absurd h (by decide)
  · split at h
    · assumption
    · exact absurd h (by decide)
theorem code_t : (f_X8_code 104 101 97 100 0 0 = some (lN (cd 0)) ∧ f_X8_code 108 97 98 101 108 0 = some (lN (cd 1)) ∧ f_X8_code 114 111 119 0 0 0 = some (lN (cd 2)) ∧ f_X8_code 99 108 105 101 110 116 = some (lN (cd 3)) ∧ f_X8_code 114 101 110 116 0 0 = some (lN (cd 4))) ∧
    (f_X8_code 112 114 105 110 116 0 = some (lN (cd 5)) ∧ f_X8_code 98 101 115 116 0 0 = some (lN (cd 6)) ∧ f_X8_code 99 111 111 108 0 0 = some (lN (cd 7)) ∧ f_X8_code 110 101 119 0 0 0 = some (lN (cd 8)) ∧ f_X8_code 115 101 116 0 0 0 = some (lN (cd 9))) := by decide +kernel
theorem cmd_at : ∀ i, i < 10 → f_X8_commandOf (lN (cd i)) = some (nI i) := by decide +kernel
theorem cmd_no {x : Int64} (h : ∀ i, i < 10 → x ≠ lN (cd i)) : f_X8_commandOf x = some (-1) := by
  have n : ∀ i, i < 10 → ¬ lg_cmp x (lN (cd i)) = 0 := fun i hi e => h i hi (cmp0 e)
  obtain ⟨⟨c0, c1, c2, c3, c4⟩, c5, c6, c7, c8, c9⟩ := code_t
  unfold f_X8_commandOf
  simp only [c0, c1, c2, c3, c4, c5, c6, c7, c8, c9, bd_s, l1_s, if_neg (n 0 (by decide)), if_neg (n 1 (by decide)), if_neg (n 2 (by decide)), if_neg (n 3 (by decide)), if_neg (n 4 (by decide)), if_neg (n 5 (by decide)), if_neg (n 6 (by decide)), if_neg (n 7 (by decide)), if_neg (n 8 (by decide)), if_neg (n 9 (by decide))]
def cmdI (w : Option Nat) : Int32 := match w with | none => -1 | some i => nI i
theorem m_cmd {m s k : Nat} {T : Nat → Int32} {η : Mm} {w : Option Nat} (h : HM m T η) (hk : s + k ≤ m) (hl : ∀ j, j < k → atP T m (s + j) 97 122) (hw : WB T s k w) : ∃ v, f_X8_wordOf KF η 139 (nI s) (nI (s + k)) = some v ∧ f_X8_commandOf v = some (cmdI w) := by
  refine ⟨_, m_wordOf h hk hl, ?_⟩
  rcases hw with ⟨rfl, hn⟩ | ⟨i, hi, rfl, M⟩
  · refine cmd_no (fun i hi e => ?_)
    obtain ⟨c1, c2⟩ := cd_lt i hi
    by_cases k6 : k ≤ 6
    · rw [if_pos k6] at e
      have hb := wn_lt (f := tD T s) k (fun j hj => (tD_let (hl j hj)).1.2)
      have hp : 27 ^ k ≤ 27 ^ 6 := Nat.pow_le_pow_right (by omega) k6
      have h6 : (27 : Nat) ^ 6 = 387420489 := by decide +kernel
      rw [pk_lEQ (by omega) (by omega)] at e
      exact hn i hi (wn_mt hi hl e)
    · rw [if_neg k6, show (0 : Int64) = lN 0 from rfl, pk_lEQ (by omega) (by omega)] at e
      omega
  · have hl6 := (w_len i hi).2
    have k6 : k ≤ 6 := by rw [← M.1]; exact hl6
    rw [if_pos k6, mt_wn M]
    exact cmd_at i hi
theorem WB.one {T : Nat → Int32} {s k : Nat} {w w' : Option Nat} (h : WB T s k w) (h' : WB T s k w') : w = w' := by
  rcases h with ⟨rfl, n⟩ | ⟨i, hi, rfl, M⟩
  · rcases h' with ⟨rfl, n'⟩ | ⟨j, hj, rfl, M'⟩
    · rfl
    · exact absurd M' (n j hj)
  · rcases h' with ⟨rfl, n'⟩ | ⟨j, hj, rfl, M'⟩
    · exact absurd M (n' i hi)
    · rw [mt_one hi hj M M']
end PureP4
