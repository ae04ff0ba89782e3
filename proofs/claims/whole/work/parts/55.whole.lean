/-! THE LAW: its loop, its start (begun with the skeleton given for pasting) -/
def R_law : String := "WornDotsLaw"
def lw_P (b : Addr) (xs : List Int32) (args : Array Value) (s : State) : Prop := args = #[.ref b] ∧ s.IntsAt b xs ∧ xs.length ≤ 2048 ∧ (Jvm.Cond.and given_1 narrow_1).before args s = true
def lw_Q (_ : Array Value) (s : State) (o : Outcome) (t : State) : Prop := o = .returned (some (.int 1)) ∧ Framed s o t [] 601024 7293034
def lw_Z (below : List Frame) (a : Array Value) (s : State) : State → Prop := fun t => ∃ o, t.status = .running ∧ Ended t below o ∧ lw_Q a s o t
/-- the law's own end, with 1 on the stack, nothing written that was there before, its room as the claim has it -/
theorem lw_ret {p : Program} {l : Launch} {e : Env} {s : State} {m : MethodId} {below : List Frame} {meth : Method} {c : Code} {b : Nat} (hx : p.tables.exec = Jvm.exec) (hb : c.code = code) (hr : meth.sig.returnType = ret) (hlocks : meth.locks = false) {pc : Nat} {H : Heap} {ls : Array Slot} (hdg : decode code pc = .ok (.ireturn, 1)) : W p l e room_1 s m #[Value.ref b] below meth c H [] 601024 7293034 (lw_Z below #[Value.ref b] s) (F0 m pc ls [.int 1]) := by
  intro T hT X
  obtain ⟨fs, hret, hrun, hended, hW, hframe⟩ := X.leave (v := some (.int 1)) (hlocks := hlocks) (fun h => by rw [hr] at h; cases h)
  have hmeth' : T.vm.method? m = some meth := X.method'
  refine ⟨T.setFrames fs, ?_, .returned (some (.int 1)), hrun, hended, rfl, ⟨_, rfl⟩, hW, hframe⟩
  jvm_step X.here [X.here.top, hx, hb, hdg, hmeth', hr, ret, narrow_b1]
  (try refine ⟨rfl, ?_⟩); (try refine ⟨rfl, ?_⟩)
  first | (intro acts; rw [hret _ acts rfl rfl rfl]) | rw [hret _ _ rfl rfl rfl]
  exact Steps.refl _
/-- what holds at the law's entry: the machine, the code, the tables' words (any of lw_tbl by 'hts w (by decide +kernel)'), the script of L ints xs at the cell b, what the Statement gives of the start (any of its parts by flat_of_before) -/
def lw_At (p : Program) (s : State) (m : MethodId) (meth : Method) (c : Code) (b L : Nat) (xs : Nat → Int32) : Prop :=
  p.tables.exec = Jvm.exec ∧ c.code = code ∧ meth.sig.returnType = ret ∧ c.maxLocals = 7 ∧ s.vm.findClass R_law = some m.cls ∧ (∀ w ∈ lw_tbl, w.before #[Value.ref b] s = true) ∧ va_X b L xs s s.heap ∧ b < s.heap.size ∧ meth.locks = false ∧ (Jvm.Cond.and given_1 narrow_1).before #[Value.ref b] s = true
section LawD
variable {l : Launch} {Z : ZZ} {X : XX} {b L : Nat} {sx : Nat → Int32} {μ μ' : Mm} {lv lv' : List (Nat × Value)} {rest : List Value}
theorem w_loop (H : LX l Z X b L sx) (fin : ∀ cells slots lv ν, cells ≤ 601024 → slots ≤ 7293034 → G Z X 7 cells slots 1748 lv [.int 1] ν) : ∀ n i ν cells slots, L ≤ i + 4 * n → i ≤ L + 4 → cells + n ≤ 601024 → slots + 6 * n ≤ 7293034 → IV ν ν → G Z X 7 cells slots 23 (lvL Z b i) [] ν := by
  have C := H.1
  have hL : L ≤ 2048 := H.2.2.2.2.2.2.2
  have out : ∀ i ν cells slots, ¬ i + 4 ≤ L → i ≤ L + 4 → cells ≤ 601024 → slots ≤ 7293034 → G Z X 7 cells slots 23 (lvL Z b i) [] ν := by
    intro i ν cells slots hi hi2 hc hs
    refine g_iload C (i := 4) 0 rfl (dk kA0 13 rfl) ?_
    refine g_aload_n C (i := 0) 4 rfl rfl (dk kA0 14 rfl) ?_
    refine g_slen H (dk kA0 15 rfl) ?_
    refine g_iconst C (v := 4) (by decide) (dk kA0 16 rfl) ?_
    refine g_isub C (dk kA0 17 rfl) ?_
    refine g_icmp_gt C (tgt := 1747) (dk kA0 18 rfl) (by decide) (fun _ => ?_) (fun z => absurd ?_ z)
    · refine g_iconst C (v := 1) (by decide) (dk kA26 21 rfl) ?_
      exact fin cells slots _ ν hc hs
    · rw [L4, Int32.lt_iff_toInt_lt, pk_sub_toInt (by omega) (by omega), nI_toInt (by omega)]
      omega
  intro n
  induction n with
  | zero =>
    intro i ν cells slots h1 h2 hc hs hν
    exact out i ν cells slots (by omega) h2 (by omega) (by omega)
  | succ n ih =>
    intro i ν cells slots h1 h2 hc hs hν
    by_cases hi : i + 4 ≤ L
    · have next : ∀ ν2, IV ν2 ν2 → G Z X 7 (cells + 1) (slots + 6) 23 (lvL Z b (i + 4)) [] ν2 := fun ν2 h => ih (i + 4) ν2 (cells + 1) (slots + 6) (by omega) (by omega) (by omega) (by omega) h
      have hcs : cells + 1 ≤ 601024 ∧ slots + 6 ≤ 7293034 := ⟨by omega, by omega⟩
      refine g_iload C (i := 4) 0 rfl (dk kA0 13 rfl) ?_
      refine g_aload_n C (i := 0) 4 rfl rfl (dk kA0 14 rfl) ?_
      refine g_slen H (dk kA0 15 rfl) ?_
      refine g_iconst C (v := 4) (by decide) (dk kA0 16 rfl) ?_
      refine g_isub C (dk kA0 17 rfl) ?_
      refine g_icmp_gt C (tgt := 1747) (dk kA0 18 rfl) (by decide) (fun z => absurd z ?_) (fun _ => ?_)
      · rw [L4, pk_sub (by omega), ltN (by omega) (by omega)]
        omega
      · refine g_aload_n C (i := 0) 4 rfl rfl (dk kA0 19 rfl) ?_
        refine g_iload C (i := 4) 0 rfl (dk kA0 20 rfl) ?_
        refine g_sld H (j := i) (by omega) (dk kA0 21 rfl) ?_
        refine g_bipush C (v := 31) (by decide) (dk kA0 22 rfl) ?_
        refine g_iand C (dk kA0 23 rfl) ?_
        obtain ⟨j, hj, ej⟩ := pk_andE (sx i) (m := 31) 5 (by decide)
        have hj : j < 32 := hj
        rw [ej]
        have ti : (nI j).toInt = (j : Int) := nI_toInt (by omega)
        by_cases h26 : 26 < j
        · refine g_tout C (tgt := 1741) (dk kA0 24 rfl) (Or.inr (by rw [ti]; omega)) (by decide) ?_
          exact w_tail H (g_widen (c1 := cells + 1) (s1 := slots + 6) (by omega) (by omega) (next ν hν))
        · have hd39 := (dk kA0 24 rfl)
          rcases (show j = 0 ∨ j = 1 ∨ j = 2 ∨ j = 3 ∨ j = 4 ∨ j = 5 ∨ j = 6 ∨ j = 7 ∨ j = 8 ∨ j = 9 ∨ j = 10 ∨ j = 11 ∨ j = 12 ∨ j = 13 ∨ j = 14 ∨ j = 15 ∨ j = 16 ∨ j = 17 ∨ j = 18 ∨ j = 19 ∨ j = 20 ∨ j = 21 ∨ j = 22 ∨ j = 23 ∨ j = 24 ∨ j = 25 ∨ j = 26 by omega) with rfl | rfl | rfl | rfl | rfl | rfl | rfl | rfl | rfl | rfl | rfl | rfl | rfl | rfl | rfl | rfl | rfl | rfl | rfl | rfl | rfl | rfl | rfl | rfl | rfl | rfl | rfl
          · exact g_tin C (off := 121) (tgt := 160) hd39 (by rw [ti]; decide) (by rw [ti]; decide) (by rw [ti]; rfl) (by decide) (w_begin H hν (by omega) hcs next)
          · exact g_tin C (off := 177) (tgt := 216) hd39 (by rw [ti]; decide) (by rw [ti]; decide) (by rw [ti]; rfl) (by decide) (w_set H hν (by omega) hcs next)
          · exact g_tin C (off := 245) (tgt := 284) hd39 (by rw [ti]; decide) (by rw [ti]; decide) (by rw [ti]; rfl) (by decide) (w_addLabel H hν (by omega) hcs next)
          · exact g_tin C (off := 313) (tgt := 352) hd39 (by rw [ti]; decide) (by rw [ti]; decide) (by rw [ti]; rfl) (by decide) (w_setRow H hν (by omega) hcs next)
          · exact g_tin C (off := 393) (tgt := 432) hd39 (by rw [ti]; decide) (by rw [ti]; decide) (by rw [ti]; rfl) (by decide) (w_replace H hν (by omega) hcs next)
          · exact g_tin C (off := 449) (tgt := 488) hd39 (by rw [ti]; decide) (by rw [ti]; decide) (by rw [ti]; rfl) (by decide) (w_cool H hν (by omega) hcs next)
          · exact g_tin C (off := 505) (tgt := 544) hd39 (by rw [ti]; decide) (by rw [ti]; decide) (by rw [ti]; rfl) (by decide) (w_addCustomer H hν (by omega) hcs next)
          · exact g_tin C (off := 549) (tgt := 588) hd39 (by rw [ti]; decide) (by rw [ti]; decide) (by rw [ti]; rfl) (by decide) (w_rent H hν (by omega) hcs next)
          · exact g_tin C (off := 629) (tgt := 668) hd39 (by rw [ti]; decide) (by rw [ti]; decide) (by rw [ti]; rfl) (by decide) (w_endRent H hν (by omega) hcs next)
          · exact g_tin C (off := 685) (tgt := 724) hd39 (by rw [ti]; decide) (by rw [ti]; decide) (by rw [ti]; rfl) (by decide) (w_print H hν (by omega) hcs next)
          · exact g_tin C (off := 765) (tgt := 804) hd39 (by rw [ti]; decide) (by rw [ti]; decide) (by rw [ti]; rfl) (by decide) (w_printBest H hν (by omega) hcs next)
          · exact g_tin C (off := 833) (tgt := 872) hd39 (by rw [ti]; decide) (by rw [ti]; decide) (by rw [ti]; rfl) (by decide) (w_dot H hν (by omega) hcs next)
          · exact g_tin C (off := 901) (tgt := 940) hd39 (by rw [ti]; decide) (by rw [ti]; decide) (by rw [ti]; rfl) (by decide) (w_label H hν (by omega) hcs next)
          · exact g_tin C (off := 969) (tgt := 1008) hd39 (by rw [ti]; decide) (by rw [ti]; decide) (by rw [ti]; rfl) (by decide) (w_row H hν (by omega) hcs next)
          · exact g_tin C (off := 1037) (tgt := 1076) hd39 (by rw [ti]; decide) (by rw [ti]; decide) (by rw [ti]; rfl) (by decide) (w_customer H hν (by omega) hcs next)
          · exact g_tin C (off := 1105) (tgt := 1144) hd39 (by rw [ti]; decide) (by rw [ti]; decide) (by rw [ti]; rfl) (by decide) (w_whole H hν (by omega) hcs next)
          · exact g_tin C (off := 1161) (tgt := 1200) hd39 (by rw [ti]; decide) (by rw [ti]; decide) (by rw [ti]; rfl) (by decide) (w_reason H hν (by omega) hcs next)
          · exact g_tin C (off := 1241) (tgt := 1280) hd39 (by rw [ti]; decide) (by rw [ti]; decide) (by rw [ti]; rfl) (by decide) (w_price H hν (by omega) hcs next)
          · exact g_tin C (off := 1321) (tgt := 1360) hd39 (by rw [ti]; decide) (by rw [ti]; decide) (by rw [ti]; rfl) (by decide) (w_unreadable H hν (by omega) hcs next)
          · exact g_tin C (off := 1401) (tgt := 1440) hd39 (by rw [ti]; decide) (by rw [ti]; decide) (by rw [ti]; rfl) (by decide) (w_bestOffset H hν (by omega) hcs next)
          · exact g_tin C (off := 1469) (tgt := 1508) hd39 (by rw [ti]; decide) (by rw [ti]; decide) (by rw [ti]; rfl) (by decide) (w_readableFor H hν (by omega) hcs next)
          · exact g_tin C (off := 1549) (tgt := 1588) hd39 (by rw [ti]; decide) (by rw [ti]; decide) (by rw [ti]; rfl) (by decide) (w_mostWorn H hν hcs next)
          · exact g_tin C (off := 1562) (tgt := 1601) hd39 (by rw [ti]; decide) (by rw [ti]; decide) (by rw [ti]; rfl) (by decide) (w_type H hν (by omega) hcs next)
          · exact g_tin C (off := 1618) (tgt := 1657) hd39 (by rw [ti]; decide) (by rw [ti]; decide) (by rw [ti]; rfl) (by decide) (w_clearCommands H hν hcs next)
          · exact g_tin C (off := 1631) (tgt := 1670) hd39 (by rw [ti]; decide) (by rw [ti]; decide) (by rw [ti]; rfl) (by decide) (w_runCommands H hν hcs next)
          · exact g_tin C (off := 1644) (tgt := 1683) hd39 (by rw [ti]; decide) (by rw [ti]; decide) (by rw [ti]; rfl) (by decide) (w_undo H hν (by omega) hcs next)
          · exact g_tin C (off := 1688) (tgt := 1727) hd39 (by rw [ti]; decide) (by rw [ti]; decide) (by rw [ti]; rfl) (by decide) (w_digest H hν hcs next)
    · exact out i ν cells slots hi h2 (by omega) (by omega)
end LawD
theorem xs_eq {X : XX} {p : Program} {l : Launch} {e : Env} {R : Room} {s : State} {m : MethodId} {a : Array Value} {below : List Frame} {meth : Method} {c : Code} {Q : State → Prop} (h : X = (p, l, e, R, s, m, a, below, meth, c, Q)) : xs X = s := by rw [h]; rfl
def KA : List (Nat × Nat) := [(5, 0)] ++ [(0, 0), (7, 150), (8, 3), (11, 4), (2, 0), (8, 24), (8, 24), (8, 24), (4, 0), (2, 0), (8, 24), (8, 24), (8, 24), (8, 7), (10, 6), (9, 6), (3, 0), (8, 6), (3, 0), (8, 6), (3, 0), (8, 6), (3, 0), (8, 6), (3, 0), (8, 6), (3, 0), (8, 6), (1, 0), (1, 0), (1, 0), (1, 0), (1, 0), (1, 0), (4, 0), (2, 0), (8, 24), (8, 24), (8, 24), (8, 7), (10, 6), (9, 6), (3, 0), (8, 6), (3, 0), (8, 6), (3, 0), (8, 6), (3, 0), (8, 6), (3, 0), (8, 6), (3, 0), (8, 6), (1, 0), (1, 0), (1, 0), (1, 0), (1, 0), (1, 0), (4, 0), (2, 0), (8, 24), (8, 24), (8, 24), (8, 7), (10, 6), (9, 6), (3, 0), (8, 6), (3, 0), (8, 6), (3, 0), (8, 6), (3, 0), (8, 6), (3, 0), (8, 6), (3, 0), (8, 6), (1, 0), (1, 0), (1, 0), (1, 0), (1, 0), (1, 0), (4, 0), (2, 0), (8, 24), (8, 24), (8, 24), (8, 7), (10, 6), (9, 6), (3, 0), (8, 6), (3, 0), (8, 6), (3, 0), (8, 6), (3, 0), (8, 6), (3, 0), (8, 6), (3, 0), (8, 6), (1, 0), (1, 0), (1, 0), (1, 0), (1, 0), (1, 0), (4, 0), (2, 0), (8, 24), (8, 24), (8, 24), (8, 7), (10, 6), (9, 6), (3, 0), (8, 6), (3, 0), (8, 6), (3, 0), (8, 6), (3, 0), (8, 6), (3, 0), (8, 6), (3, 0), (8, 6), (1, 0), (1, 0), (1, 0), (1, 0), (1, 0), (1, 0)]
theorem KA_l : KA.length = 139 := by decide +kernel
theorem KA_K : (KA ++ [(6, 0)]) ++ ([(8, 182), (8, 182), (8, 728), (8, 150), (8, 3)] ++ [(12, 1)]) = KL := by decide +kernel
set_option maxRecDepth 100000 in
set_option maxHeartbeats 8000000 in
/-- YOUR PART: from the entry, for every script of at most 2048 ints, the law comes to its end with true ('hflags': the launch's flags, for a law that throws: no stack traces) -/
theorem whole_start {p : Program} {e : Env} {s : State} {m : MethodId} {below : List Frame} {meth : Method} {c : Code} (l : Launch) (hflags : l.flags = flags0) {b L : Nat} {xs : Nat → Int32} (hL : L ≤ 2048) (C0 : lw_At p s m meth c b L xs) : W p l e room_1 s m #[Value.ref b] below meth c s.heap [] 0 0 (lw_Z below #[Value.ref b] s) (entryFrame m ([Value.ref b] : List Value).toArray 7) := by
  obtain ⟨hx, hb, hr, hml, hown, hts, hX, hbl, hlocks, hgv⟩ := id C0
  have hSA : SAt b s := ⟨flat_of_before _ hgv, hts⟩
  obtain ⟨f, dC, dI, cA, hZ, hK, hN, hWd⟩ := st_Z hSA
  obtain ⟨Z, eZ⟩ : ∃ Z : ZZ, Z = Z0 s.heap.size f dC dI cA := ⟨_, rfl⟩
  rw [← eZ] at hZ hK hWd
  have hzb : zb Z = s.heap.size := by rw [eZ]; rfl
  have hzn : zn Z = 0 := by rw [eZ]; rfl
  obtain ⟨X, eX⟩ : ∃ X : XX, X = (p, l, e, room_1, s, m, #[Value.ref b], below, meth, c, lw_Z below #[Value.ref b] s) := ⟨_, rfl⟩
  have xsX := xs_eq eX
  have E : xR X = rmm 12 601024 7293034 := by rw [eX]; rfl
  have C : Cx l Z false X cL_law RL 7 ret := by
    rw [eX]
    exact ⟨⟨hx, hb, hml⟩, ⟨hown, fun w hw => hts w (TB_in hw), hN⟩, ⟨hlocks, hr⟩, ⟨hK, hZ⟩, rfl, Nat.le_of_eq hzb, fun q => by cases q⟩
  have main : G Z X 7 0 0 0 [(0, .ref b)] [] μ0 := by
    refine g_new C E (by rw [xsX, hzb, hzn]) (by omega) (c := 5) inTX7 tyX7_ok rfl (by decide) (tb1 (List.mem_of_getElem? (i := 24) rfl) rfl) (tb1 (List.mem_of_getElem? (i := 25) rfl) rfl) (tb1 (List.mem_of_getElem? (i := 1) rfl) rfl) ob_5 ⟨by decide, by decide⟩ (dk kA0 0 rfl) ?_
    rw [hzn]
    have C1 := cx_zx (L := [(5, 0)]) C (by rw [hzn]; decide)
    have n1 : zn (zx Z [(5, 0)]) = 1 := by show zn Z + 1 = 1; rw [hzn]
    refine g_dup C1 rfl (dk kA0 1 rfl) ?_
    refine g_callI C1 E (by rw [xsX, n1]; show s.heap.size + 1 = zb Z + 1; rw [hzb]) (As := []) (rest := [.ref (za Z 0)]) 0 (ct_X7_init (a0 := 0) (by have q := zx_k1 (Z := Z) (L := [(5, 0)]) (c := 5) (n := 0) 0 rfl; rwa [hzn, Nat.zero_add] at q) (by rw [n1]; decide)) (tb1 (List.mem_of_getElem? (i := 26) rfl) rfl) (tb1 (List.mem_of_getElem? (i := 27) rfl) rfl) (tb1 (List.mem_of_getElem? (i := 1) rfl) rfl) (tb1 (List.mem_of_getElem? (i := 28) rfl) rfl) rfl ⟨by decide, by decide, by decide⟩ rfl (by decide) rfl (Nat.le_of_ble_eq_true rfl) ⟨by decide, by decide⟩ (dk kA0 2 rfl) ?_
    rw [n1]
    refine g_zeq (show _ = zx Z KA from zx_zx) ?_
    have C2 := cx_zx (L := KA) C (by rw [hzn, KA_l]; decide)
    have n2 : zn (zx Z KA) = 139 := by show zn Z + KA.length = 139; rw [hzn, KA_l]
    refine g_astore_n C2 (i := 1) (lv' := [(1, .ref (za Z 0)), (0, .ref b)]) (dk kA0 3 rfl) rfl (by decide) rfl ?_
    refine g_new C2 E (by rw [xsX, n2]; show s.heap.size + 139 = zb Z + 139; rw [hzb]) (by rw [n2]; decide) (c := 6) inTX8 tyX8_ok rfl (by decide) (tb4 (List.mem_of_getElem? (i := 237) rfl) rfl) (tb4 (List.mem_of_getElem? (i := 238) rfl) rfl) (tb1 (List.mem_of_getElem? (i := 10) rfl) rfl) ob_6 ⟨by decide, by decide⟩ (dk kA0 4 rfl) ?_
    rw [n2]
    refine g_zeq (show _ = zx Z (KA ++ [(6, 0)]) from zx_zx) ?_
    have l3 : (KA ++ [((6 : Nat), (0 : Nat))]).length = 140 := by rw [List.length_append, KA_l]; rfl
    have C3 := cx_zx (L := KA ++ [(6, 0)]) C (by rw [hzn, l3]; decide)
    have n3 : zn (zx Z (KA ++ [(6, 0)])) = 140 := by show zn Z + (KA ++ [((6 : Nat), (0 : Nat))]).length = 140; rw [hzn, l3]
    refine g_dup C3 rfl (dk kA0 5 rfl) ?_
    refine g_callI C3 E (by rw [xsX, n3]; show s.heap.size + 140 = zb Z + 140; rw [hzb]) (As := []) (rest := [.ref (za Z 139)]) 0 (ct_X8_init (a0 := 139) (by have q := zx_k1 (Z := Z) (L := KA ++ [(6, 0)]) (c := 6) (n := 0) 139 (by decide +kernel); rwa [hzn, Nat.zero_add] at q) (by rw [n3]; decide)) (tb4 (List.mem_of_getElem? (i := 239) rfl) rfl) (tb5 (List.mem_of_getElem? (i := 0) rfl) rfl) (tb1 (List.mem_of_getElem? (i := 10) rfl) rfl) (tb5 (List.mem_of_getElem? (i := 1) rfl) rfl) rfl ⟨by decide, by decide, by decide⟩ rfl (by decide) rfl (Nat.le_of_ble_eq_true rfl) ⟨by decide, by decide⟩ (dk kA0 6 rfl) ?_
    rw [n3]
    refine g_zeq (show _ = zx Z ((KA ++ [(6, 0)]) ++ [(8, 182), (8, 182), (8, 728), (8, 150), (8, 3)]) from zx_zx) ?_
    have l4 : ((KA ++ [((6 : Nat), (0 : Nat))]) ++ [(8, 182), (8, 182), (8, 728), (8, 150), (8, 3)]).length = 145 := by rw [List.length_append, l3]; rfl
    have C4 := cx_zx (L := (KA ++ [(6, 0)]) ++ [(8, 182), (8, 182), (8, 728), (8, 150), (8, 3)]) C (by rw [hzn, l4]; decide)
    have n4 : zn (zx Z ((KA ++ [(6, 0)]) ++ [(8, 182), (8, 182), (8, 728), (8, 150), (8, 3)])) = 145 := by show zn Z + ((KA ++ [((6 : Nat), (0 : Nat))]) ++ [(8, 182), (8, 182), (8, 728), (8, 150), (8, 3)]).length = 145; rw [hzn, l4]
    refine g_astore_n C4 (i := 2) (lv' := [(2, .ref (za Z 139)), (1, .ref (za Z 0)), (0, .ref b)]) (dk kA0 7 rfl) rfl (by decide) rfl ?_
    refine g_iconst C4 (v := 1) (by decide) (dk kA0 8 rfl) ?_
    refine g_newJ C4 E (by rw [xsX, n4]; show s.heap.size + 145 = zb Z + 145; rw [hzb]) (by rw [n4]; decide) 1 (tb6 (List.mem_of_getElem? (i := 92) rfl) rfl) (by decide) (by decide) (by decide) ⟨by decide, by decide⟩ (dk kA0 9 rfl) ?_
    rw [n4]
    refine g_zeq (show _ = zx Z KL from by rw [zx_zx, ← KA_K, List.append_assoc]) ?_
    have lK : KL.length = 146 := by decide +kernel
    have CF := cx_zx (L := KL) C (by rw [hzn, lK]; decide)
    refine g_astore_n CF (i := 3) (lv' := [(3, .ref (za Z 145)), (2, .ref (za Z 139)), (1, .ref (za Z 0)), (0, .ref b)]) (dk kA0 10 rfl) rfl (by decide) rfl ?_
    refine g_iconst CF (v := 0) (by decide) (dk kA0 11 rfl) ?_
    refine g_istore CF (i := 4) (lv' := lvL (zx Z KL) b 0) (dk kA0 12 rfl) (by decide) rfl ?_
    have zkF : zk (zx Z KL) = KF := by
      funext i
      show (if i < zn Z then zk Z i else KL.getD (i - zn Z) (99, 0)) = KL.getD i (99, 0)
      rw [hzn, if_neg (by omega), Nat.sub_zero]
    have hst : l.stackTraces = false := by
      unfold Launch.stackTraces
      rw [hflags]
      first | decide | rfl | decide +kernel
    have H : LX l (zx Z KL) X b L xs := ⟨CF, E, zkF, hst, by rw [xsX]; exact hX, by rw [xsX]; exact hbl, by rw [xsX]; exact hzb, hL⟩
    refine w_loop H (fun cells slots lv ν hc hs => ?_) 512 0 μS _ _ (by omega) (by omega) (by decide) (by decide) b_IV
    rw [eX]
    intro Hp locs ls hW hS h
    exact va_forget (fun q hq => by have z : zb Z ≤ q.base := hS.2.2 q hq; rw [hzb] at z; exact z) (W.widen hc hs (lw_ret hx hb hr hlocks (dk kA26 22 rfl)))
  have hl := lv_entry ([.ref b]) (n := 7) (Nat.le_of_ble_eq_true rfl)
  rw [lg_entry_eq]
  rw [eX] at main
  exact main s.heap [] _ (hWd μ0) va_S.rf hl
set_option maxHeartbeats 4000000 in
theorem lw_walk (l : Launch) (hflags : l.flags = flags0) (b : Addr) (xs : List Int32) : MetFree l x (headSpec (Jvm.Cond.code x code maxLocals ret :: tables_1) room_1) (lw_P b xs) (fun _ _ _ _ _ => True) lw_Q := by
  refine MetFree.of_bodyS (code := code) (maxLocals := maxLocals) (ret := ret) (by decide) ?_ ?_
  · intro args s m h hn
    obtain ⟨meth, c, h1, h2, h3, h4, h5, h6, -, -⟩ := Cond.code_spec hn (atoms_spec (ws := Jvm.Cond.code x code maxLocals ret :: tables_1) h _ List.mem_cons_self)
    exact ⟨meth, c, h1, h2, h3, h4, h5, h6⟩
  · intro p e s m args below meth c s₁ B hml0 hP _
    obtain ⟨rfl, hx, hbd, hgv⟩ := hP
    obtain ⟨scr, harrAt, hlist, hof, hsmall⟩ := hx
    obtain ⟨hcb, hkn, -, -⟩ := State.arrayAt?_spec harrAt
    have hown : s.vm.findClass R_law = some m.cls := findClass_of_methodNamed B.named
    have hts0 : ∀ c ∈ (Jvm.Cond.code x code maxLocals ret :: tables_1), c.before #[Value.ref b] s = true := atoms_spec (ws := Jvm.Cond.code x code maxLocals ret :: tables_1) B.pre
    have hts : ∀ w ∈ lw_tbl, w.before #[Value.ref b] s = true := k2_hts_sels lw_privs (fun w hw => hts0 w (List.mem_cons_of_mem _ hw)) lw_privs_ok
    have hml : c.maxLocals = 7 := B.maxLocals_eq (hts0 _ List.mem_cons_self)
    have X₀ : Stand p l e room_1 s m #[Value.ref b] below meth c s₁ [] 0 0 := Stand.of_body B
    have hh0 : s₁.heap = s.heap := by rw [B.state]; rfl
    have hsz : scr.slots.size = xs.length := by rw [← Array.length_toList, hlist, List.length_map]
    have hval : ∀ j : Nat, j < xs.length → scr.slots[j]? = some (.int (xs.getD j 0)) := fun j hj => by
      rw [← Array.getElem?_toList, hlist]
      simp [hj]
    have hbl : b < s.heap.size := (Array.getElem?_eq_some_iff.mp hcb).1
    have hX : va_X b xs.length (fun j => xs.getD j 0) s s.heap := ⟨scr, hcb, hof, hkn, hsz, hval⟩
    have K : W p l e room_1 s m #[Value.ref b] below meth c s₁.heap [] 0 0 (lw_Z below #[Value.ref b] s) (entryFrame m ([Value.ref b] : List Value).toArray 7) := by
      rw [hh0]
      exact whole_start l hflags hbd ⟨B.exec, B.bytes, B.returns, hml, hown, hts, hX, hbl, B.notSynchronized, hgv⟩
    obtain ⟨t, a1, o, b1, b2, b3⟩ := K s₁ rfl X₀
    exact ⟨t, o, a1, b1, b2, b3⟩
theorem lw_pre_spec {args : Array Value} {s : State} (h : (Jvm.Cond.and given_1 narrow_1).before args s = true) (hr : rest_1_c.before args s = true) : ∃ (b : Addr) (xs : List Int32), lw_P b xs args s := by
  have hs := flat_of_before _ h
  have hq := flat_of_before _ hr
  have hc : (Cond.count 1).before args s = true := hs _ (by decide +kernel)
  have harr : (Cond.arrayOf (.arg 0) .int).before args s = true := hs _ (by decide +kernel)
  have hle : (Cond.le (.length (.arg 0)) (.int 2048)).before args s = true := hs _ (by decide +kernel)
  have hlen : (Cond.isInt (.length (.arg 0))).before args s = true := hq _ (by decide +kernel)
  have hall : (Cond.all (.arg 0) (.isInt (.elem (.arg 0) (.index 0)))).before args s = true := hq _ (by decide +kernel)
  obtain ⟨b, xs, hb, hx⟩ := State.ints_of_pre rfl harr hlen hall
  have hsm : xs.length < 2 ^ 31 := hx.choose_spec.2.2.2
  have hev : (Term.length (.arg 0)).eval args s none [] s = some (.int xs.length.toInt32) := hx.length_eval hb
  have hv := Cond.le_ints hev (show (Term.int 2048).eval args s none [] s = some (.int 2048) from rfl)
  have hd : xs.length.toInt32 ≤ 2048 := by
    simpa [Cond.before, Cond.holds, hv] using hle
  have hN : xs.length ≤ 2048 := (Int32.ofNat_le_ofNat hsm (by decide)).mp (show Int32.ofNat xs.length ≤ Int32.ofNat 2048 from hd)
  exact ⟨b, xs, Cond.one_arg hc (show args[0]? = some (.ref b) from hb), hx, hN, h⟩
theorem lw_comes (l : Launch) (hflags : l.flags = flags0) : Comes l x (Jvm.Cond.code x code maxLocals ret :: tables_1) room_1 (fun tb e args s => Calls_1 tb e args s ∧ rest_1 tb e args s ∧ Pre_1 tb e args s)
    (fun _ _ args s o t => lw_Q args s o t) := by
  intro p e ha hc hk s m args below hf hfit hheap happ hpre
  obtain ⟨b, xs, hP⟩ := lw_pre_spec hpre.2.2 hpre.2.1
  obtain ⟨k, o, h1, h2, h3, hQ⟩ := lw_walk l hflags b xs p e ha hc hk s m args below hf ((Spec.applies_iff_loose hf).mp happ).1 hP trivial
  exact ⟨k, o, h1, h2, h3, hQ⟩
theorem lw_frame {s t : State} {o : Outcome} {args : Array Value} (h : Framed s o t [] 601024 7293034) :
    Framed s o t (fieldLocs frame_1_writes args s ++ arrayLocs frame_1_arrays args s ++ staticLocs frame_1_statics s) 601024 7293034 := h
theorem lw_limb (L : Cond) (hL : ∀ (args : Array Value) (s t : State), L.after args s (.returned (some (.int 1))) t = true) :
    ArmFor flags0 classFile x code maxLocals ret World_1 tables_1 room_1 Calls_1 rest_1 Pre_1
      (fun tb e a s o t => postC L tb e a s o t ∧ Framed s o t (fieldLocs frame_1_writes a s ++ arrayLocs frame_1_arrays a s ++ staticLocs frame_1_statics s) 601024 7293034) := by
  intro l hflags _ _ p e ha hc hk s m args below hf hfit hheap happ hpre
  obtain ⟨k, o, h1, h2, h3, rfl, hF⟩ := lw_comes l hflags p e ha hc hk s m args below hf hfit hheap happ hpre
  exact ⟨k, _, h1, h2, h3, hL args s _, lw_frame hF⟩
theorem i_vc : Claimed_1_1 ∧ Claimed_1_2 := ⟨lw_limb limb_1_1 (fun args s t => by simp [limb_1_1, Cond.after, Cond.holds, Cond.value]), lw_limb limb_1_2 (fun args s t => Cond.after_iff.mpr (by
  first | (rw [show limb_1_2 = Cond.eq .result (.int 1) from rfl, Cond.eq_ints (x := 1) (y := 1) rfl rfl]; simp; done) | (simp [limb_1_2, Cond.value, Term.eval]; done)))⟩
