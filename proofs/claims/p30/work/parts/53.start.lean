/-! THE START: what the Statement gives at the law's entry -/
section StartA
def NLs : List Cond := flatC (Jvm.Cond.and given_1 narrow_1)
def ixL (l : List Nat) (i : Nat) : Nat := l.getD i 0
def SAt (b : Nat) (s : State) : Prop := (∀ w ∈ NLs, w.before #[Value.ref b] s = true) ∧ ∀ w ∈ lw_tbl, w.before #[Value.ref b] s = true
theorem SAt.n {b : Nat} {s : State} (h : SAt b s) {i : Nat} {w : Cond} (e : NLs[i]? = some w) : w.before #[Value.ref b] s = true := h.1 w (List.mem_of_getElem? e)
theorem SAt.t {b : Nat} {s : State} (h : SAt b s) {w : Cond} (e : w ∈ TB) : w.before #[Value.ref b] s = true := h.2 w (TB_in e)
theorem tu1 {w : Cond} (h : w ∈ tables_1_1) : w ∈ tables_1 := List.mem_append_left _ h
theorem tu2 {w : Cond} (h : w ∈ tables_1_2) : w ∈ tables_1 := List.mem_append_right _ (List.mem_append_left _ h)
theorem tu3 {w : Cond} (h : w ∈ tables_1_3) : w ∈ tables_1 := List.mem_append_right _ (List.mem_append_right _ (List.mem_append_left _ h))
theorem tu4 {w : Cond} (h : w ∈ tables_1_4) : w ∈ tables_1 := List.mem_append_right _ (List.mem_append_right _ (List.mem_append_right _ h))
theorem SAt.u {b : Nat} {s : State} (h : SAt b s) {w : Cond} (e : w ∈ tables_1) : w.before #[Value.ref b] s = true := h.2 w (List.mem_append_right _ e)
def tmT (k : Nat) : Term := .static (sC k) (sF k) "[I"
def tmH : Term := .static "WornDots$Word" "HEAD" "LWornDots$Word;"
theorem nl_t : ∀ k, k < 3 → NLs[ixL ([20, 30, 8] : List Nat) k]? = some (.arrayOf (tmT k) .int) ∧ NLs[ixL ([21, 31, 9] : List Nat) k]? = some (.eq (.length (tmT k)) (.int (Int32.ofNat (sA k).length))) ∧ (sA k).length ≤ 10 := by decide +kernel
theorem nl_te : ∀ k, k < 3 → ∀ j, j < 10 → j < (sA k).length → NLs[ixL ([22, 32, 10] : List Nat) k + j]? = some (.eq (.elem (tmT k) (.int (Int32.ofNat j))) (.int ((sA k).getD j 0))) := by decide +kernel
theorem nl_h : NLs[4]? = some (.exactly tmH "WornDots$Word") := by decide +kernel
theorem nl_o : NLs[17]? = some (.isRef (.static Bundle.tN "UNASSIGNED_STACK" Bundle.steD)) ∧ NLs[18]? = some (.isRef (.static Bundle.tN "SUPPRESSED_SENTINEL" Bundle.listD)) := by decide +kernel
theorem nl_n : NLs[64]? = some (.not (.castable "java/lang/IllegalArgumentException" "java/lang/IndexOutOfBoundsException")) ∧ NLs[65]? = some (.not (.castable "java/lang/IllegalStateException" "java/lang/IndexOutOfBoundsException")) ∧ NLs[47]? = some (.not (.castable "java/lang/IllegalStateException" "java/lang/IllegalArgumentException")) := by decide +kernel
theorem nl_r : NLs[99]? = some (.exactly (.string "WornDots" 251) "java/lang/String") ∧ NLs[142]? = some (.exactly (.string "WornDots" 258) "java/lang/String") ∧ NLs[174]? = some (.exactly (.string "WornDots" 263) "java/lang/String") := by decide +kernel
variable {b : Nat} {s : State} {A : Nat → Prop}
theorem st_tab (h : SAt b s) (hA : ∀ a : Nat, a < s.heap.size → ¬ A a) : ∃ ad : Nat → Nat, ∀ k, k < 3 → va_Z (sC k) (sF k) "[I" (.ref (ad k)) A s s.heap ∧ va_T .int (ad k) (sA k).length (fun j => .int ((sA k).getD j 0)) A s s.heap := by
  have h0 : ∀ k : Nat, ∃ q : Nat, k < 3 → va_Z (sC k) (sF k) "[I" (.ref q) A s s.heap ∧ va_T .int q (sA k).length (fun j => .int ((sA k).getD j 0)) A s s.heap := by
    intro k
    by_cases hk : k < 3
    · obtain ⟨c1, c2, c3⟩ := nl_t k hk
      obtain ⟨t, ht, hT⟩ := va_Tof (f := fun j => .int ((sA k).getD j 0)) (A := A) (by omega) (h.n c1) (va_eqt (h.n c2)) (fun j hj => va_eqt (h.n (nl_te k hk j (by omega) hj))) hA
      refine ⟨t, fun _ => ⟨?_, hT⟩⟩
      rcases (show k = 0 ∨ k = 1 ∨ k = 2 by omega) with rfl | rfl | rfl
      · exact va_Zof (h.u (tu2 (List.mem_of_getElem? (i := 146) rfl))) (h.u (tu1 (List.mem_of_getElem? (i := 1) rfl))) ht hA
      · exact va_Zof (h.u (tu2 (List.mem_of_getElem? (i := 148) rfl))) (h.u (tu1 (List.mem_of_getElem? (i := 1) rfl))) ht hA
      · exact va_Zof (h.u (tu1 (List.mem_of_getElem? (i := 95) rfl))) (h.u (tu1 (List.mem_of_getElem? (i := 1) rfl))) ht hA
    · exact ⟨0, fun h => absurd h hk⟩
  exact Classical.axiomOfChoice h0
/-- the addresses: the objects that are made, then those that were there -/
def fz (n0 : Nat) (aT : Nat → Nat) (wd j : Nat) : Nat := if j < 1000 then n0 + j else if j < 2300 then wd else aT (j - 2300)
theorem fz_t {n0 : Nat} {aT : Nat → Nat} {wd i : Nat} : fz n0 aT wd (2300 + i) = aT i := by
  unfold fz
  rw [if_neg (by omega), if_neg (by omega), Nat.add_sub_cancel_left]
theorem fz_h {n0 : Nat} {aT : Nat → Nat} {wd : Nat} : fz n0 aT wd 2000 = wd := by
  unfold fz
  rw [if_neg (by omega), if_pos (by omega)]
theorem st_ST (h : SAt b s) (hA : ∀ a : Nat, a < s.heap.size → ¬ A a) : ∃ aT wd, ∀ n0, ST (fz n0 aT wd) A s s.heap := by
  obtain ⟨aT, hT⟩ := st_tab h hA
  obtain ⟨o3, o4⟩ := nl_o
  obtain ⟨wd, c, cA, kA, q1, -⟩ := Cond.exactly_spec (args := #[Value.ref b]) (first := s) (o := none) (s := s) (idx := []) (t := tmH) (cls := "WornDots$Word") (h.n nl_h)
  refine ⟨aT, wd, fun n0 => ⟨fun k hk => ?_, ?_, ?_, ?_⟩⟩
  · rw [fz_t]
    exact hT k hk
  · rw [fz_h]
    exact va_Zof (h.u (tu1 (List.mem_of_getElem? (i := 33) rfl))) (h.u (tu1 (List.mem_of_getElem? (i := 4) rfl))) q1 hA
  · exact vx_Zqof (h.u (tu2 (List.mem_of_getElem? (i := 14) rfl))) (h.u (tu1 (List.mem_of_getElem? (i := 10) rfl))) (h.n o3) hA
  · exact vx_Zqof (h.u (tu2 (List.mem_of_getElem? (i := 16) rfl))) (h.u (tu1 (List.mem_of_getElem? (i := 10) rfl))) (h.n o4) hA
theorem st_arr {ty : FieldType} (h : (Cond.arrayClass ty).before #[Value.ref b] s = true) : ∃ cA, ArrOfT s cA ty ∧ s.vm.findClass ("[" ++ ty.toString) = some cA := by
  obtain ⟨cB, kB, comp, h1, h2, h3⟩ := Cond.arrayClass_spec (args := #[Value.ref b]) (first := s) (o := none) (s := s) (idx := []) (type := ty) h
  exact ⟨cB, fun N z => ⟨(fun k h => by cases h), kB, h2, comp, h3⟩, h1⟩
theorem st_aro {n : String} (h : (Cond.arrayOver (.object n)).before #[Value.ref b] s = true) : ∃ cA, ArrOfT s cA (.object n) ∧ va_RA s cA (.object n) := by
  obtain ⟨comp, c, k, h1, h2, h3, h4, h5⟩ := Cond.arrayOver_spec (args := #[Value.ref b]) (first := s) (o := none) (s := s) (idx := []) (n := n) h
  exact ⟨c, fun N z => ⟨(fun k h => by cases h), k, h3, comp, h4⟩, ⟨k, comp, h3, h4, h1, h5⟩⟩
theorem st_K (h : SAt b s) : ∃ (dC : Nat → ClassId) (dI : Nat → Nat → Nat) (cA : Nat → ClassId), va_K (dC, dI) vwCl [(cA 0, .char), (cA 1, .int), (cA 2, .object "WornDots$Customer"), (cA 3, .object "WornDots$Label"), (cA 4, .object "WornDots$State")] s := by
  have ts : ∀ w ∈ TB, w.before #[Value.ref b] s = true := fun w hw => h.t hw
  obtain ⟨c0, i0, k0⟩ := u_known (C := RX1) (T := TX1) (N := 6) (n := 6) ts inTX1 (h.u (tu1 (List.mem_of_getElem? (i := 27) rfl)))
  obtain ⟨c1, i1, k1⟩ := u_known (C := RX2) (T := TX2) (N := 6) (n := 6) ts inTX2 (h.u (tu1 (List.mem_of_getElem? (i := 129) rfl)))
  obtain ⟨c2, i2, k2⟩ := u_known (C := RX3) (T := TX3) (N := 5) (n := 5) ts inTX3 (h.u (tu1 (List.mem_of_getElem? (i := 57) rfl)))
  obtain ⟨c3, i3, k3⟩ := u_known (C := RX4) (T := TX4) (N := 5) (n := 5) ts inTX4 (h.u (tu1 (List.mem_of_getElem? (i := 99) rfl)))
  obtain ⟨c4, i4, k4⟩ := u_known (C := RX5) (T := TX5) (N := 8) (n := 8) ts inTX5 (h.u (tu1 (List.mem_of_getElem? (i := 83) rfl)))
  obtain ⟨c5, i5, k5⟩ := u_known (C := RX7) (T := TX7) (N := 4) (n := 4) ts inTX7 (h.u (tu1 (List.mem_of_getElem? (i := 19) rfl)))
  obtain ⟨a0, b0, e0⟩ := st_arr (h.u (tu1 (List.mem_of_getElem? (i := 52) rfl)))
  obtain ⟨a1, b1, e1⟩ := st_arr (h.u (tu1 (List.mem_of_getElem? (i := 53) rfl)))
  obtain ⟨a2, b2, e2⟩ := st_aro (h.u (tu1 (List.mem_of_getElem? (i := 93) rfl)))
  obtain ⟨a3, b3, e3⟩ := st_aro (h.u (tu1 (List.mem_of_getElem? (i := 91) rfl)))
  obtain ⟨a4, b4, e4⟩ := st_aro (h.u (tu1 (List.mem_of_getElem? (i := 55) rfl)))
  refine ⟨fun k => if k = 0 then c0 else if k = 1 then c1 else if k = 2 then c2 else if k = 3 then c3 else if k = 4 then c4 else c5, fun k => if k = 0 then i0 else if k = 1 then i1 else if k = 2 then i2 else if k = 3 then i3 else if k = 4 then i4 else i5, fun k => if k = 0 then a0 else if k = 1 then a1 else if k = 2 then a2 else if k = 3 then a3 else a4, fun k q hq => ?_, fun k q hq => ?_⟩
  · match k, hq with
    | 0, hq => cases hq; exact k0
    | 1, hq => cases hq; exact k1
    | 2, hq => cases hq; exact k2
    | 3, hq => cases hq; exact k3
    | 4, hq => cases hq; exact k4
    | 5, hq => cases hq; exact k5
    | n + 6, hq => simp [vwCl] at hq
  · match k, hq with
    | 0, hq => cases hq; exact ⟨b0, e0⟩
    | 1, hq => cases hq; exact ⟨b1, e1⟩
    | 2, hq => cases hq; exact ⟨b2, e2⟩
    | 3, hq => cases hq; exact ⟨b3, e3⟩
    | 4, hq => cases hq; exact ⟨b4, e4⟩
    | n + 5, hq => simp at hq
theorem inNF : ∀ q ∈ NF, Cond.fieldLinkNest q.1 q.2.1 q.2.2.1 q.2.2.2.1 q.2.2.2.2.1 q.2.2.2.2.2 ∈ tables_1 := by decide +kernel
theorem inNM : ∀ q ∈ NM, Cond.methodLinkNest q.1 q.2.1 q.2.2.1 q.2.2.2 ∈ tables_1 := by decide +kernel
theorem inNC : ∀ q ∈ NC, Cond.castable q.1 q.2 ∈ tables_1 := by decide +kernel
theorem inND : ∀ q ∈ ND, Cond.declares q ∈ tables_1 := by decide +kernel
theorem inSR : ∀ q ∈ SR, Cond.stringRef "WornDots" q.1 q.2 ∈ tables_1 := by decide +kernel
theorem inNA : ∀ q ∈ NA, Cond.arrayOver (.object q) ∈ tables_1 := by decide +kernel
theorem st_NW (h : SAt b s) : NW s := by
  have ts : ∀ w ∈ tables_1, w.before #[Value.ref b] s = true := fun w hw => h.2 w (List.mem_append_right _ hw)
  obtain ⟨n1, n2, n3⟩ := nl_n
  obtain ⟨r1, r2, r3⟩ := nl_r
  refine ⟨fun q hq => va_Nw.of rfl (ts _ (inNF q hq)), fun q hq => va_Nw.of rfl (ts _ (inNM q hq)), fun q hq => va_Nw.of rfl (ts _ (inNC q hq)), fun q hq => va_Nw.of rfl (ts _ (inND q hq)), fun q hq => ?_, fun q hq => ?_, fun q hq => va_AO.of (ts _ (inNA q hq))⟩
  · rcases List.mem_cons.mp hq with rfl | hq
    · exact va_Nc.of (h.n n1)
    · rcases List.mem_cons.mp hq with rfl | hq
      · exact va_Nc.of (h.n n2)
      · rcases List.mem_cons.mp hq with rfl | hq
        · exact va_Nc.of (h.n n3)
        · exact absurd hq List.not_mem_nil
  · have hs := ts _ (inSR q hq)
    have ex : ∃ a, (Term.string "WornDots" q.1).eval #[Value.ref b] s none [] s = some (.ref a) := by
      have go : ∀ {i k : Nat}, NLs[i]? = some (.exactly (.string "WornDots" k) "java/lang/String") → ∃ a, (Term.string "WornDots" k).eval #[Value.ref b] s none [] s = some (.ref a) := fun e => by
        obtain ⟨a, c, cA, kA, q1, -⟩ := Cond.exactly_spec (args := #[Value.ref b]) (first := s) (o := none) (s := s) (idx := []) (cls := "java/lang/String") (h.n e)
        exact ⟨a, q1⟩
      rcases List.mem_cons.mp hq with rfl | hq
      · exact go r1
      · rcases List.mem_cons.mp hq with rfl | hq
        · exact go r2
        · rcases List.mem_cons.mp hq with rfl | hq
          · exact go r3
          · exact absurd hq List.not_mem_nil
    obtain ⟨a, ha⟩ := ex
    exact ⟨a, vk_R.of hs ha⟩
/-- the world at the entry -/
def Z0 (n0 : Nat) (f : Nat → Nat) (dC : Nat → ClassId) (dI : Nat → Nat → Nat) (cA : Nat → ClassId) : ZZ := (fun q => n0 ≤ q, n0, f, dC, dI, cA, fun _ => (99, 0), 0)
theorem st_Z (h : SAt b s) : ∃ f dC dI cA, OkZ (Z0 s.heap.size f dC dI cA) ∧ CT (Z0 s.heap.size f dC dI cA) ∧ KK (Z0 s.heap.size f dC dI cA) s ∧ NW s ∧ ∀ μ, Wd (Z0 s.heap.size f dC dI cA) μ s s.heap := by
  obtain ⟨dC, dI, cA, hK⟩ := st_K h
  obtain ⟨aT, wd, hS⟩ := st_ST (A := fun q => s.heap.size ≤ q) h (fun a ha => Nat.not_le.mpr ha)
  refine ⟨fz s.heap.size aT wd, dC, dI, cA, ⟨Nat.zero_le _, ⟨fun i hi => absurd hi (Nat.not_lt_zero i), fun i j hi => absurd hi (Nat.not_lt_zero i)⟩, fun i _ => rfl⟩, ⟨fun i hi => if_pos hi, fun q => Iff.rfl⟩, hK, st_NW h, fun μ => ⟨fun k q hq => ?_, hS _⟩⟩
  have e : wl (Z0 s.heap.size (fz s.heap.size aT wd) dC dI cA) μ = [] := rfl
  rw [e] at hq
  simp at hq
end StartA
