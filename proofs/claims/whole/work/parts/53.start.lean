/-! THE START: what the Statement gives at the law's entry -/
section StartA
def wNm (i : Nat) : String := (["HEAD", "LABEL", "ROW", "CLIENT", "RENT", "PRINT", "BEST", "COOL", "NEW", "SET"] : List String).getD i ""
def wIx (i : Nat) : Nat := ([62, 68, 71, 74, 77, 80, 83, 86, 89, 92] : List Nat).getD i 0
def tmW (i : Nat) : Term := .static "WornDots$Word" (wNm i) "LWornDots$Word;"
def tmS (i : Nat) : Term := .string "WornDots$Word" (wIx i)
def tmV (i : Nat) : Term := .field (tmS i) "java/lang/String" "value" "[B"
def NLs : List Cond := flatC (Jvm.Cond.and given_1 narrow_1)
def ixL (l : List Nat) (i : Nat) : Nat := l.getD i 0
def SAt (b : Nat) (s : State) : Prop := (∀ w ∈ NLs, w.before #[Value.ref b] s = true) ∧ ∀ w ∈ lw_tbl, w.before #[Value.ref b] s = true
theorem SAt.n {b : Nat} {s : State} (h : SAt b s) {i : Nat} {w : Cond} (e : NLs[i]? = some w) : w.before #[Value.ref b] s = true := h.1 w (List.mem_of_getElem? e)
theorem SAt.t {b : Nat} {s : State} (h : SAt b s) {w : Cond} (e : w ∈ TB) : w.before #[Value.ref b] s = true := h.2 w (TB_in e)
theorem tu1 {w : Cond} (h : w ∈ tables_1_1) : w ∈ tables_1 := List.mem_append_left _ h
theorem tu2 {w : Cond} (h : w ∈ tables_1_2) : w ∈ tables_1 := List.mem_append_right _ (List.mem_append_left _ h)
theorem tu3 {w : Cond} (h : w ∈ tables_1_3) : w ∈ tables_1 := List.mem_append_right _ (List.mem_append_right _ (List.mem_append_left _ h))
theorem tu4 {w : Cond} (h : w ∈ tables_1_4) : w ∈ tables_1 := List.mem_append_right _ (List.mem_append_right _ (List.mem_append_right _ (List.mem_append_left _ h)))
theorem tu5 {w : Cond} (h : w ∈ tables_1_5) : w ∈ tables_1 := List.mem_append_right _ (List.mem_append_right _ (List.mem_append_right _ (List.mem_append_right _ (List.mem_append_left _ h))))
theorem tu6 {w : Cond} (h : w ∈ tables_1_6) : w ∈ tables_1 := List.mem_append_right _ (List.mem_append_right _ (List.mem_append_right _ (List.mem_append_right _ (List.mem_append_right _ h))))
theorem SAt.u {b : Nat} {s : State} (h : SAt b s) {w : Cond} (e : w ∈ tables_1) : w.before #[Value.ref b] s = true := h.2 w (List.mem_append_right _ e)
theorem nl_w : ∀ i, i < 10 → NLs[ixL ([4, 73, 78, 84, 91, 99, 108, 118, 129, 141] : List Nat) i]? = some (.exactly (tmW i) "WornDots$Word") ∧ NLs[ixL ([5, 74, 79, 85, 92, 100, 109, 119, 130, 142] : List Nat) i]? = some (.eq (.field (tmW i) "java/lang/Enum" "ordinal" "I") (.int (nI i))) ∧ NLs[ixL ([7, 76, 81, 87, 94, 102, 111, 121, 132, 144] : List Nat) i]? = some (.eq (.field (tmW i) "WornDots$Word" "numbers" "I") (.int (wN i))) ∧ NLs[ixL ([6, 75, 80, 86, 93, 101, 110, 120, 131, 143] : List Nat) i]? = some (.eq (.field (tmW i) "WornDots$Word" "letters" "Ljava/lang/String;") (tmS i)) := by decide +kernel
theorem nl_s : ∀ i, i < 10 → NLs[ixL ([324, 335, 348, 360, 376, 391, 408, 425, 443, 461] : List Nat) i]? = some (.exactly (tmS i) "java/lang/String") ∧ NLs[ixL ([325, 336, 349, 361, 377, 392, 409, 426, 444, 462] : List Nat) i]? = some (.eq (.field (tmS i) "java/lang/String" "coder" "B") (.int 0)) ∧ NLs[ixL ([326, 337, 350, 362, 378, 393, 410, 427, 445, 463] : List Nat) i]? = some (.arrayOf (tmV i) .byte) ∧ NLs[ixL ([327, 338, 351, 363, 379, 394, 411, 428, 446, 464] : List Nat) i]? = some (.eq (.length (tmV i)) (.int (Int32.ofNat (wT i).length))) ∧ (wT i).length < 10 := by decide +kernel
theorem nl_e : ∀ i, i < 10 → ∀ j, j < 6 → j < (wT i).length → NLs[ixL ([328, 339, 352, 364, 380, 395, 412, 429, 447, 465] : List Nat) i + j]? = some (.eq (.elem (tmV i) (.int (Int32.ofNat j))) (.int ((wT i).getD j 0))) := by decide +kernel
def tmT (k : Nat) : Term := .static (sC k) (sF k) "[I"
theorem nl_t : ∀ k, k < 4 → NLs[ixL ([52, 62, 9, 39] : List Nat) k]? = some (.arrayOf (tmT k) .int) ∧ NLs[ixL ([53, 63, 10, 40] : List Nat) k]? = some (.eq (.length (tmT k)) (.int (Int32.ofNat (sA k).length))) ∧ (sA k).length ≤ 10 := by decide +kernel
theorem nl_te : ∀ k, k < 4 → ∀ j, j < 10 → j < (sA k).length → NLs[ixL ([54, 64, 11, 41] : List Nat) k + j]? = some (.eq (.elem (tmT k) (.int (Int32.ofNat j))) (.int ((sA k).getD j 0))) := by decide +kernel
def tmA : Term := .static "WornDots" "WORDS" "[LWornDots$Word;"
theorem nl_a : NLs[20]? = some (.arrayOf tmA (.object "WornDots$Word")) ∧ NLs[21]? = some (.eq (.length tmA) (.int (Int32.ofNat 10))) := by decide +kernel
theorem nl_ae : ∀ j, j < 10 → NLs[23 + j]? = some (.eq (.elem tmA (.int (Int32.ofNat j))) (tmW j)) := by decide +kernel
theorem nl_o : NLs[33]? = some (.eq (.static "java/lang/String" "COMPACT_STRINGS" "Z") (.int 1)) ∧ NLs[34]? = some (.isRef (.static "jdk/internal/util/Preconditions" "SIOOBE_FORMATTER" "Ljava/util/function/BiFunction;")) ∧ NLs[71]? = some (.isRef (.static Bundle.tN "UNASSIGNED_STACK" Bundle.steD)) ∧ NLs[72]? = some (.isRef (.static Bundle.tN "SUPPRESSED_SENTINEL" Bundle.listD)) := by decide +kernel
theorem nl_n : NLs[182]? = some (.not (.castable "java/lang/IllegalArgumentException" "java/lang/IndexOutOfBoundsException")) ∧ NLs[183]? = some (.not (.castable "java/lang/IllegalStateException" "java/lang/IndexOutOfBoundsException")) ∧ NLs[163]? = some (.not (.castable "java/lang/IllegalStateException" "java/lang/IllegalArgumentException")) := by decide +kernel
theorem nl_r : NLs[220]? = some (.exactly (.string "WornDots" 251) "java/lang/String") ∧ NLs[263]? = some (.exactly (.string "WornDots" 258) "java/lang/String") ∧ NLs[295]? = some (.exactly (.string "WornDots" 263) "java/lang/String") := by decide +kernel
variable {b : Nat} {s : State} {A : Nat → Prop}
theorem st_str (h : SAt b s) (hA : ∀ a : Nat, a < s.heap.size → ¬ A a) : ∃ ad : Nat → Nat × Nat, ∀ i, i < 10 → (tmS i).eval #[Value.ref b] s none [] s = some (.ref (ad i).1) ∧ va_O "java/lang/String" (ad i).1 A s s.heap ∧ va_OF "java/lang/String" "coder" "B" (.int 0) (ad i).1 A s s.heap ∧ va_OF "java/lang/String" "value" "[B" (.ref (ad i).2) (ad i).1 A s s.heap ∧ va_T .byte (ad i).2 (wT i).length (fun j => .int ((wT i).getD j 0)) A s s.heap := by
  have h0 : ∀ i : Nat, ∃ q : Nat × Nat, i < 10 → (tmS i).eval #[Value.ref b] s none [] s = some (.ref q.1) ∧ va_O "java/lang/String" q.1 A s s.heap ∧ va_OF "java/lang/String" "coder" "B" (.int 0) q.1 A s s.heap ∧ va_OF "java/lang/String" "value" "[B" (.ref q.2) q.1 A s s.heap ∧ va_T .byte q.2 (wT i).length (fun j => .int ((wT i).getD j 0)) A s s.heap := by
    intro i
    by_cases hi : i < 10
    · obtain ⟨c1, c2, c3, c4, c5⟩ := nl_s i hi
      have hl6 := (w_len i hi).2
      have x1 := h.n c1
      obtain ⟨a, c, cA, kA, q1, -⟩ := Cond.exactly_spec (args := #[Value.ref b]) (first := s) (o := none) (s := s) (idx := []) (t := tmS i) (cls := "java/lang/String") x1
      obtain ⟨t, ht, hT⟩ := va_Tof (f := fun j => .int ((wT i).getD j 0)) (A := A) (by omega) (h.n c3) (va_eqt (h.n c4)) (fun j hj => va_eqt (h.n (nl_e i hi j (by omega) hj))) hA
      exact ⟨(a, t), fun _ => ⟨q1, va_Oof x1 q1 hA, vk_OFof q1 (va_eqt (h.n c2)) hA, vk_OFof q1 ht hA, hT⟩⟩
    · exact ⟨(0, 0), fun h => absurd h hi⟩
  exact Classical.axiomOfChoice h0
theorem st_wrd (h : SAt b s) (hA : ∀ a : Nat, a < s.heap.size → ¬ A a) : ∃ ad : Nat → Nat, ∀ i, i < 10 → (tmW i).eval #[Value.ref b] s none [] s = some (.ref (ad i)) ∧ va_O "WornDots$Word" (ad i) A s s.heap ∧ va_OF "java/lang/Enum" "ordinal" "I" (.int (nI i)) (ad i) A s s.heap ∧ va_OF "WornDots$Word" "numbers" "I" (.int (wN i)) (ad i) A s s.heap ∧
    ∀ v, (tmS i).eval #[Value.ref b] s none [] s = some v → va_OF "WornDots$Word" "letters" "Ljava/lang/String;" v (ad i) A s s.heap := by
  have h0 : ∀ i : Nat, ∃ q : Nat, i < 10 → (tmW i).eval #[Value.ref b] s none [] s = some (.ref q) ∧ va_O "WornDots$Word" q A s s.heap ∧ va_OF "java/lang/Enum" "ordinal" "I" (.int (nI i)) q A s s.heap ∧ va_OF "WornDots$Word" "numbers" "I" (.int (wN i)) q A s s.heap ∧
      ∀ v, (tmS i).eval #[Value.ref b] s none [] s = some v → va_OF "WornDots$Word" "letters" "Ljava/lang/String;" v q A s s.heap := by
    intro i
    by_cases hi : i < 10
    · obtain ⟨c1, c2, c3, c4⟩ := nl_w i hi
      have x1 := h.n c1
      obtain ⟨a, c, cA, kA, q1, -⟩ := Cond.exactly_spec (args := #[Value.ref b]) (first := s) (o := none) (s := s) (idx := []) (t := tmW i) (cls := "WornDots$Word") x1
      exact ⟨a, fun _ => ⟨q1, va_Oof x1 q1 hA, vk_OFof q1 (va_eqt (h.n c2)) hA, vk_OFof q1 (va_eqt (h.n c3)) hA, fun v hv => vk_OFof q1 (va_eqv (h.n c4) hv) hA⟩⟩
    · exact ⟨0, fun h => absurd h hi⟩
  exact Classical.axiomOfChoice h0
theorem st_tab (h : SAt b s) (hA : ∀ a : Nat, a < s.heap.size → ¬ A a) : ∃ ad : Nat → Nat, ∀ k, k < 4 → va_Z (sC k) (sF k) "[I" (.ref (ad k)) A s s.heap ∧ va_T .int (ad k) (sA k).length (fun j => .int ((sA k).getD j 0)) A s s.heap := by
  have h0 : ∀ k : Nat, ∃ q : Nat, k < 4 → va_Z (sC k) (sF k) "[I" (.ref q) A s s.heap ∧ va_T .int q (sA k).length (fun j => .int ((sA k).getD j 0)) A s s.heap := by
    intro k
    by_cases hk : k < 4
    · obtain ⟨c1, c2, c3⟩ := nl_t k hk
      obtain ⟨t, ht, hT⟩ := va_Tof (f := fun j => .int ((sA k).getD j 0)) (A := A) (by omega) (h.n c1) (va_eqt (h.n c2)) (fun j hj => va_eqt (h.n (nl_te k hk j (by omega) hj))) hA
      refine ⟨t, fun _ => ⟨?_, hT⟩⟩
      rcases (show k = 0 ∨ k = 1 ∨ k = 2 ∨ k = 3 by omega) with rfl | rfl | rfl | rfl

      · exact va_Zof (h.u (tu3 (List.mem_of_getElem? (i := 9) rfl))) (h.u (tu1 (List.mem_of_getElem? (i := 1) rfl))) ht hA
      · exact va_Zof (h.u (tu3 (List.mem_of_getElem? (i := 11) rfl))) (h.u (tu1 (List.mem_of_getElem? (i := 1) rfl))) ht hA
      · exact va_Zof (h.u (tu1 (List.mem_of_getElem? (i := 106) rfl))) (h.u (tu1 (List.mem_of_getElem? (i := 1) rfl))) ht hA
      · exact va_Zof (h.u (tu2 (List.mem_of_getElem? (i := 112) rfl))) (h.u (tu1 (List.mem_of_getElem? (i := 23) rfl))) ht hA
    · exact ⟨0, fun h => absurd h hk⟩
  exact Classical.axiomOfChoice h0
/-- the addresses: the objects that are made, then those that were there -/
def fz (n0 : Nat) (aW : Nat → Nat) (aS : Nat → Nat × Nat) (aT : Nat → Nat) (wd j : Nat) : Nat := if j < 1000 then n0 + j else if j < 2100 then aW (j - 2000) else if j < 2200 then (aS (j - 2100)).1 else if j < 2300 then (aS (j - 2200)).2 else if j < 2304 then aT (j - 2300) else wd
theorem fz_w {n0 : Nat} {aW : Nat → Nat} {aS : Nat → Nat × Nat} {aT : Nat → Nat} {wd i : Nat} (h : i < 10) : fz n0 aW aS aT wd (2000 + i) = aW i ∧ fz n0 aW aS aT wd (2100 + i) = (aS i).1 ∧ fz n0 aW aS aT wd (2200 + i) = (aS i).2 := by
  refine ⟨?_, ?_, ?_⟩
  · unfold fz
    rw [if_neg (by omega), if_pos (by omega), Nat.add_sub_cancel_left]
  · unfold fz
    rw [if_neg (by omega), if_neg (by omega), if_pos (by omega), Nat.add_sub_cancel_left]
  · unfold fz
    rw [if_neg (by omega), if_neg (by omega), if_neg (by omega), if_pos (by omega), Nat.add_sub_cancel_left]
theorem fz_t {n0 : Nat} {aW : Nat → Nat} {aS : Nat → Nat × Nat} {aT : Nat → Nat} {wd i : Nat} (h : i < 4) : fz n0 aW aS aT wd (2300 + i) = aT i := by
  unfold fz
  rw [if_neg (by omega), if_neg (by omega), if_neg (by omega), if_neg (by omega), if_pos (by omega), Nat.add_sub_cancel_left]
theorem st_ST (h : SAt b s) (hA : ∀ a : Nat, a < s.heap.size → ¬ A a) : ∃ aW aS aT wd, ∀ n0, ST (fz n0 aW aS aT wd) A s s.heap := by
  obtain ⟨aS, hS⟩ := st_str h hA
  obtain ⟨aW, hW⟩ := st_wrd h hA
  obtain ⟨aT, hT⟩ := st_tab h hA
  obtain ⟨c1, c2⟩ := nl_a
  obtain ⟨o1, o2, o3, o4⟩ := nl_o
  obtain ⟨wd, hwd, hwT⟩ := va_Tof (f := fun j => .ref (aW j)) (A := A) (N := 10) (by omega) (h.n c1) (va_eqt (h.n c2)) (fun j hj => va_eqv (h.n (nl_ae j hj)) (hW j hj).1) hA
  refine ⟨aW, aS, aT, wd, fun n0 => ⟨fun i hi => ?_, fun i hi => ?_, fun k hk => ?_, ⟨?_, ?_⟩, ?_, ⟨?_, ?_⟩, ?_, ?_⟩⟩
  · obtain ⟨e1, e2, e3⟩ := fz_w (n0 := n0) (aW := aW) (aS := aS) (aT := aT) (wd := wd) hi
    obtain ⟨-, x1, x2, x3, x4⟩ := hW i hi
    rw [e1, e2]
    exact ⟨x1, x2, x3, x4 _ (hS i hi).1⟩
  · obtain ⟨e1, e2, e3⟩ := fz_w (n0 := n0) (aW := aW) (aS := aS) (aT := aT) (wd := wd) hi
    obtain ⟨-, x⟩ := hS i hi
    rw [e2, e3]
    exact x
  · rw [fz_t hk]
    exact hT k hk
  · exact va_Zof (h.u (tu2 (List.mem_of_getElem? (i := 18) rfl))) (h.u (tu1 (List.mem_of_getElem? (i := 1) rfl))) hwd hA
  · obtain ⟨cell, y1, y2, y3, y4, y5, y6, y7⟩ := hwT
    exact ⟨cell, y1, y2, y3, y4, y5, fun j hj => by
      rw [y6 j hj]
      show some (Value.ref (aW j)) = some (Value.ref (fz n0 aW aS aT wd (2000 + j)))
      rw [(fz_w (n0 := n0) (aW := aW) (aS := aS) (aT := aT) (wd := wd) hj).1], y7⟩
  · have e : fz n0 aW aS aT wd 2000 = aW 0 := (fz_w (i := 0) (by omega)).1
    rw [e]
    exact va_Zof (h.u (tu1 (List.mem_of_getElem? (i := 39) rfl))) (h.u (tu1 (List.mem_of_getElem? (i := 4) rfl))) (hW 0 (by omega)).1 hA
  · exact va_Zof (h.u (tu2 (List.mem_of_getElem? (i := 32) rfl))) (h.u (tu1 (List.mem_of_getElem? (i := 19) rfl))) (va_eqi (h.n o1)) hA
  · exact va_Zqof (h.u (tu2 (List.mem_of_getElem? (i := 48) rfl))) (h.u (tu1 (List.mem_of_getElem? (i := 21) rfl))) (h.n o2) hA
  · exact vx_Zqof (h.u (tu3 (List.mem_of_getElem? (i := 133) rfl))) (h.u (tu1 (List.mem_of_getElem? (i := 11) rfl))) (h.n o3) hA
  · exact vx_Zqof (h.u (tu3 (List.mem_of_getElem? (i := 135) rfl))) (h.u (tu1 (List.mem_of_getElem? (i := 11) rfl))) (h.n o4) hA
theorem st_arr {ty : FieldType} (h : (Cond.arrayClass ty).before #[Value.ref b] s = true) : ∃ cA, ArrOfT s cA ty ∧ s.vm.findClass ("[" ++ ty.toString) = some cA := by
  obtain ⟨cB, kB, comp, h1, h2, h3⟩ := Cond.arrayClass_spec (args := #[Value.ref b]) (first := s) (o := none) (s := s) (idx := []) (type := ty) h
  exact ⟨cB, fun N z => ⟨(fun k h => by cases h), kB, h2, comp, h3⟩, h1⟩
theorem st_aro {n : String} (h : (Cond.arrayOver (.object n)).before #[Value.ref b] s = true) : ∃ cA, ArrOfT s cA (.object n) ∧ va_RA s cA (.object n) := by
  obtain ⟨comp, c, k, h1, h2, h3, h4, h5⟩ := Cond.arrayOver_spec (args := #[Value.ref b]) (first := s) (o := none) (s := s) (idx := []) (n := n) h
  exact ⟨c, fun N z => ⟨(fun k h => by cases h), k, h3, comp, h4⟩, ⟨k, comp, h3, h4, h1, h5⟩⟩
theorem st_K (h : SAt b s) : ∃ (dC : Nat → ClassId) (dI : Nat → Nat → Nat) (cA : Nat → ClassId), va_K (dC, dI) vwCl [(cA 0, .char), (cA 1, .int), (cA 2, .object "WornDots$Customer"), (cA 3, .object "WornDots$Label"), (cA 4, .object "WornDots$State"), (cA 5, .long)] s := by
  have ts : ∀ w ∈ TB, w.before #[Value.ref b] s = true := fun w hw => h.t hw
  obtain ⟨c0, i0, k0⟩ := u_known (C := RX1) (T := TX1) (N := 6) (n := 6) ts inTX1 (h.u (tu1 (List.mem_of_getElem? (i := 33) rfl)))
  obtain ⟨c1, i1, k1⟩ := u_known (C := RX2) (T := TX2) (N := 6) (n := 6) ts inTX2 (h.u (tu1 (List.mem_of_getElem? (i := 140) rfl)))
  obtain ⟨c2, i2, k2⟩ := u_known (C := RX3) (T := TX3) (N := 5) (n := 5) ts inTX3 (h.u (tu1 (List.mem_of_getElem? (i := 67) rfl)))
  obtain ⟨c3, i3, k3⟩ := u_known (C := RX4) (T := TX4) (N := 5) (n := 5) ts inTX4 (h.u (tu1 (List.mem_of_getElem? (i := 110) rfl)))
  obtain ⟨c4, i4, k4⟩ := u_known (C := RX5) (T := TX5) (N := 8) (n := 8) ts inTX5 (h.u (tu1 (List.mem_of_getElem? (i := 94) rfl)))
  obtain ⟨c5, i5, k5⟩ := u_known (C := RX7) (T := TX7) (N := 4) (n := 4) ts inTX7 (h.u (tu1 (List.mem_of_getElem? (i := 25) rfl)))
  obtain ⟨c6, i6, k6⟩ := u_known (C := RX8) (T := TX8) (N := 11) (n := 11) ts inTX8 (h.u (tu4 (List.mem_of_getElem? (i := 238) rfl)))
  obtain ⟨a0, b0, e0⟩ := st_arr (h.u (tu1 (List.mem_of_getElem? (i := 62) rfl)))
  obtain ⟨a1, b1, e1⟩ := st_arr (h.u (tu1 (List.mem_of_getElem? (i := 63) rfl)))
  obtain ⟨a5, b5, e5⟩ := st_arr (h.u (tu6 (List.mem_of_getElem? (i := 92) rfl)))
  obtain ⟨a2, b2, e2⟩ := st_aro (h.u (tu1 (List.mem_of_getElem? (i := 104) rfl)))
  obtain ⟨a3, b3, e3⟩ := st_aro (h.u (tu1 (List.mem_of_getElem? (i := 102) rfl)))
  obtain ⟨a4, b4, e4⟩ := st_aro (h.u (tu1 (List.mem_of_getElem? (i := 65) rfl)))
  refine ⟨fun k => if k = 0 then c0 else if k = 1 then c1 else if k = 2 then c2 else if k = 3 then c3 else if k = 4 then c4 else if k = 5 then c5 else c6, fun k => if k = 0 then i0 else if k = 1 then i1 else if k = 2 then i2 else if k = 3 then i3 else if k = 4 then i4 else if k = 5 then i5 else i6, fun k => if k = 0 then a0 else if k = 1 then a1 else if k = 2 then a2 else if k = 3 then a3 else if k = 4 then a4 else a5, fun k q hq => ?_, fun k q hq => ?_⟩
  · match k, hq with
    | 0, hq => cases hq; exact k0
    | 1, hq => cases hq; exact k1
    | 2, hq => cases hq; exact k2
    | 3, hq => cases hq; exact k3
    | 4, hq => cases hq; exact k4
    | 5, hq => cases hq; exact k5
    | 6, hq => cases hq; exact k6
    | n + 7, hq => simp [vwCl] at hq
  · match k, hq with
    | 0, hq => cases hq; exact ⟨b0, e0⟩
    | 1, hq => cases hq; exact ⟨b1, e1⟩
    | 2, hq => cases hq; exact ⟨b2, e2⟩
    | 3, hq => cases hq; exact ⟨b3, e3⟩
    | 4, hq => cases hq; exact ⟨b4, e4⟩
    | 5, hq => cases hq; exact ⟨b5, e5⟩
    | n + 6, hq => simp at hq
theorem inNF : ∀ q ∈ NF, Cond.fieldLinkNest q.1 q.2.1 q.2.2.1 q.2.2.2.1 q.2.2.2.2.1 q.2.2.2.2.2 ∈ tables_1 := by decide +kernel
theorem inNM : ∀ q ∈ NM, Cond.methodLinkNest q.1 q.2.1 q.2.2.1 q.2.2.2 ∈ tables_1 := by decide +kernel
theorem inNC : ∀ q ∈ NC, Cond.castable q.1 q.2 ∈ tables_1 := by decide +kernel
theorem inND : ∀ q ∈ ND, Cond.declares q ∈ tables_1 := by decide +kernel
theorem inSR : ∀ q ∈ SR, Cond.stringRef "WornDots" q.1 q.2 ∈ tables_1 := by decide +kernel
theorem inNA : ∀ q ∈ NA, Cond.arrayOver (.object q) ∈ tables_1 := by decide +kernel
theorem st_NW (h : SAt b s) : NW s := by
  have ts : ∀ w ∈ tables_1, w.before #[Value.ref b] s = true := fun w hw => h.2 w (List.mem_append_right _ hw)
  obtain ⟨n1, n2, n3⟩ := nl_n
  obtain ⟨r1, r2, r3⟩ := nl_r
  refine ⟨fun q hq => va_Nw.of rfl (ts _ (inNF q hq)), fun q hq => va_Nw.of rfl (ts _ (inNM q hq)), fun q hq => va_Nw.of rfl (ts _ (inNC q hq)), fun q hq => va_Nw.of rfl (ts _ (inND q hq)), fun q hq => ?_, fun q hq => ?_, fun q hq => va_AO.of (ts _ (inNA q hq))⟩
  · rcases List.mem_cons.mp hq with rfl | hq
    · exact va_Nc.of (h.n n1)
    · rcases List.mem_cons.mp hq with rfl | hq
      · exact va_Nc.of (h.n n2)
      · rcases List.mem_cons.mp hq with rfl | hq
        · exact va_Nc.of (h.n n3)
        · exact absurd hq List.not_mem_nil
  · have hs := ts _ (inSR q hq)
    have ex : ∃ a, (Term.string "WornDots" q.1).eval #[Value.ref b] s none [] s = some (.ref a) := by
      have go : ∀ {i k : Nat}, NLs[i]? = some (.exactly (.string "WornDots" k) "java/lang/String") → ∃ a, (Term.string "WornDots" k).eval #[Value.ref b] s none [] s = some (.ref a) := fun e => by
        obtain ⟨a, c, cA, kA, q1, -⟩ := Cond.exactly_spec (args := #[Value.ref b]) (first := s) (o := none) (s := s) (idx := []) (cls := "java/lang/String") (h.n e)
        exact ⟨a, q1⟩
      rcases List.mem_cons.mp hq with rfl | hq
      · exact go r1
      · rcases List.mem_cons.mp hq with rfl | hq
        · exact go r2
        · rcases List.mem_cons.mp hq with rfl | hq
          · exact go r3
          · exact absurd hq List.not_mem_nil
    obtain ⟨a, ha⟩ := ex
    exact ⟨a, vk_R.of hs ha⟩
/-- the world at the entry -/
def Z0 (n0 : Nat) (f : Nat → Nat) (dC : Nat → ClassId) (dI : Nat → Nat → Nat) (cA : Nat → ClassId) : ZZ := (n0, f, dC, dI, cA, fun _ => (99, 0), 0)
theorem st_Z (h : SAt b s) : ∃ f dC dI cA, OkZ (Z0 s.heap.size f dC dI cA) ∧ KK (Z0 s.heap.size f dC dI cA) s ∧ NW s ∧ ∀ μ, Wd (Z0 s.heap.size f dC dI cA) μ s s.heap := by
  obtain ⟨dC, dI, cA, hK⟩ := st_K h
  obtain ⟨aW, aS, aT, wd, hS⟩ := st_ST (A := fun q => s.heap.size ≤ q) h (fun a ha => Nat.not_le.mpr ha)
  refine ⟨fz s.heap.size aW aS aT wd, dC, dI, cA, ⟨Nat.zero_le _, fun i hi => if_pos hi, fun i _ => rfl⟩, hK, st_NW h, fun μ => ⟨fun k q hq => ?_, hS _⟩⟩
  have e : wl (Z0 s.heap.size (fz s.heap.size aW aS aT wd) dC dI cA) μ = [] := rfl
  rw [e] at hq
  simp at hq
end StartA
