/-! cell: an int out of the script, or one beyond its end -/
section Cell
def celV (L : Nat) (sx : Nat → Int32) (k : Nat) : Int32 := if k < L then sx k else 40503 * nI (k + 3)
/-- what a call of cell finds: the world, and the script beside it -/
def Pcx (Z : ZZ) (μ : Mm) (b L : Nat) (sx : Nat → Int32) (U : State) : Prop := Pc0 Z false μ U ∧ va_X b L sx U U.heap ∧ ¬ AA Z b
theorem pcx_blind {av : List Value} {Z : ZZ} {μ : Mm} {b L : Nat} {sx : Nat → Int32} : FrameBlind (va_Pc av (Pcx Z μ b L sx)) := by
  intro a U g mk h
  obtain ⟨h1, h2, h3, h4⟩ := h
  exact ⟨h1, (pc0_blind (av := av) (Z := Z) (ex := false) (μ := μ) a U g mk ⟨h1, h2⟩).2, va_X.moved (u := U) (U := U.calling g mk a) (Vm.Alike.refl U.vm) h3, h4⟩
section
variable {l : Launch} {Z : ZZ} {ex : Bool} {X : XX} {cc : ByteArray} {own : String} {nL : Nat} {ret : Option FieldType} {b L : Nat} {sx : Nat → Int32} {μ : Mm} {cells slots pc : Nat} {lv : List (Nat × Value)} {rest : List Value}
def SX (Z : ZZ) (X : XX) (b L : Nat) (sx : Nat → Int32) : Prop := va_X b L sx (xs X) (xs X).heap ∧ b < (xs X).heap.size ∧ ¬ AA Z b ∧ L ≤ 260
theorem g_sld (C : Cx l Z ex X cc own nL ret) (H : SX Z X b L sx) {j : Nat} (hj : j < L) (hd : decode cc pc = .ok (.iaload, 1)) (k : G Z X nL cells slots (pc + 1) lv (.int (sx j) :: rest) μ) : G Z X nL cells slots pc lv (.int (nI j) :: .ref b :: rest) μ := fun Hp locs ls hW hS h => by
  obtain ⟨hX, hb, hz, hL⟩ := H
  have k2 := k Hp locs ls hW hS h
  have e : sx j = sx (nI j).toNatClampNeg := by rw [show (nI j).toNatClampNeg = j from ix_n (by omega)]
  rw [e] at k2
  exact va_sld C.exec C.code hX hb hz hS (nI_in hj (by omega)) hd k2
theorem g_slen (C : Cx l Z ex X cc own nL ret) (H : SX Z X b L sx) (hd : decode cc pc = .ok (.arraylength, 1)) (k : G Z X nL cells slots (pc + 1) lv (.int (nI L) :: rest) μ) : G Z X nL cells slots pc lv (.ref b :: rest) μ := fun Hp locs ls hW hS h => by
  obtain ⟨hX, hb, hz, hL⟩ := H
  exact va_slen C.exec C.code hX hb hz hS hd (k Hp locs ls hW hS h)
end
def qL_cell : List (Nat × Instr × Nat) := [(0, .iload_n 1, 1), (1, .aload_n 0, 1), (2, .arraylength, 1), (3, .if_icmp .ge 9, 3), (6, .aload_n 0, 1), (7, .iload_n 1, 1), (8, .iaload, 1), (9, .goto 9, 3), (12, .ldc 7, 2), (14, .iload_n 1, 1), (15, .iconst 3, 1), (16, .iadd, 1), (17, .imul, 1), (18, .ireturn, 1)]
theorem kL_cell : ∀ q ∈ qL_cell, decode cL_cell q.1 = .ok q.2 := by decide +kernel
theorem t_L_cell {l : Launch} {Z : ZZ} {X : XX} {b L k : Nat} {sx : Nat → Int32} {μ : Mm} (hk : k < 1000) (C : Cx l Z false X cL_cell RL 2 (some .int)) (E : Ex Z X 0 0 0 (some (.int (celV L sx k))) Z μ) (H : SX Z X b L sx) : G Z X 2 0 0 0 [(0, .ref b), (1, .int (nI k))] [] μ := by
  have hL := H.2.2.2
  refine g_iload_n C (i := 1) 1 rfl rfl (dk kL_cell 0 rfl) ?_
  refine g_aload_n C (i := 0) 0 rfl rfl (dk kL_cell 1 rfl) ?_
  refine g_slen C H (dk kL_cell 2 rfl) ?_
  refine g_icmp_ge C (tgt := 12) (dk kL_cell 3 rfl) (by decide) (fun c => ?_) (fun c => ?_)
  · rw [leN (by omega) (by omega)] at c
    refine g_ldc C (v := 40503) (C.w (tb1 (List.mem_of_getElem? (i := 203) rfl) rfl)) (dk kL_cell 8 rfl) ?_
    refine g_iload_n C (i := 1) 1 rfl rfl (dk kL_cell 9 rfl) ?_
    refine g_iconst C (v := nI 3) (by decide) (dk kL_cell 10 rfl) ?_
    refine g_iadd C (dk kL_cell 11 rfl) ?_
    refine g_imul C (dk kL_cell 12 rfl) ?_
    have e : celV L sx k = 40503 * (nI k + nI 3) := by
      unfold celV
      rw [if_neg (by omega), nI_add]
    rw [e] at E
    exact g_iret C E rfl rfl (by decide) (by decide) (dk kL_cell 13 rfl)
  · rw [leN (by omega) (by omega)] at c
    refine g_aload_n C (i := 0) 0 rfl rfl (dk kL_cell 4 rfl) ?_
    refine g_iload_n C (i := 1) 1 rfl rfl (dk kL_cell 5 rfl) ?_
    refine g_sld C H (j := k) (by omega) (dk kL_cell 6 rfl) ?_
    refine g_goto C (tgt := 18) (dk kL_cell 7 rfl) (by decide) ?_
    have e : celV L sx k = sx k := if_pos (by omega)
    rw [e] at E
    exact g_iret C E rfl rfl (by decide) (by decide) (dk kL_cell 13 rfl)
theorem ct_L_cell {l : Launch} {Z : ZZ} {b L k : Nat} {sx : Nat → Int32} {μ : Mm} (hL : L ≤ 260) (hk : k < 1000) : Met l yL_cell (Cond.code yL_cell cL_cell 2 (some .int) :: TB) (rmm 0 0 0) (va_Pc [.ref b, .int (nI k)] (Pcx Z μ b L sx)) (Qc0 Z (some (.int (celV L sx k))) μ) 0 0 (AA Z) := by
  refine Met.ofW (cc := cL_cell) (maxL := 2) (ret := some .int) (ws' := TB) rfl rfl ?_
  intro p e s m args below meth c s₁ B hml hv
  obtain ⟨rfl, ⟨hW, ⟨hK, hN⟩, hZ, hb, hx⟩, hX, hnA⟩ := hv
  have hts := atoms_spec (ws := Cond.code yL_cell cL_cell 2 (some .int) :: TB) B.pre
  have hown : s.vm.findClass RL = some m.cls := findClass_of_methodNamed B.named
  have hbs : b < s.heap.size := by
    obtain ⟨scr, h1, -⟩ := hX
    exact (Array.getElem?_eq_some_iff.mp h1).1
  have hg := t_L_cell (X := (p, l, e, rmm 0 0 0, s, m, ([.ref b, .int (nI k)] : List Value).toArray, below, meth, c, MQ below (Qc0 Z (some (.int (celV L sx k))) μ) ([.ref b, .int (nI k)] : List Value).toArray s 0 0 (AA Z))) (b := b) hk
    ⟨⟨B.exec, B.bytes, hml⟩, ⟨hown, fun w h => hts w (List.mem_cons_of_mem _ h), hN⟩, ⟨B.notSynchronized, B.returns⟩, ⟨hK, hZ⟩, rfl, hb, fun q => by cases q⟩ ⟨rfl, rfl⟩ ⟨hX, hbs, hnA, hL⟩
    s.heap [] _ hW va_S.rf (lv_entry ([.ref b, .int (nI k)] : List Value) (n := 2) (Nat.le_of_ble_eq_true rfl))
  rw [lg_entry_eq]
  exact hg
end Cell
