/-! THE LAW: its start (begun with the skeleton given for pasting) -/
def R_law : String := "WornDotsLaw"
def lw_P (b : Addr) (xs : List Int32) (args : Array Value) (s : State) : Prop := args = #[.ref b] ∧ s.IntsAt b xs ∧ xs.length ≤ 260 ∧ (Jvm.Cond.and given_1 narrow_1).before args s = true
def lw_Q (_ : Array Value) (s : State) (o : Outcome) (t : State) : Prop := o = .returned (some (.int 1)) ∧ Framed s o t [] 600130 7301080
def lw_Z (below : List Frame) (a : Array Value) (s : State) : State → Prop := fun t => ∃ o, t.status = .running ∧ Ended t below o ∧ lw_Q a s o t
/-- the law's own end, with 1 on the stack, nothing written that was there before, its room as the claim has it -/
theorem lw_ret {p : Program} {l : Launch} {e : Env} {s : State} {m : MethodId} {below : List Frame} {meth : Method} {c : Code} {b : Nat} (hx : p.tables.exec = Jvm.exec) (hb : c.code = code) (hr : meth.sig.returnType = ret) (hlocks : meth.locks = false) {pc : Nat} {H : Heap} {ls : Array Slot} (hdg : decode code pc = .ok (.ireturn, 1)) : W p l e room_1 s m #[Value.ref b] below meth c H [] 600130 7301080 (lw_Z below #[Value.ref b] s) (F0 m pc ls [.int 1]) := by
  intro T hT X
  obtain ⟨fs, hret, hrun, hended, hW, hframe⟩ := X.leave (v := some (.int 1)) (hlocks := hlocks) (fun h => by rw [hr] at h; cases h)
  have hmeth' : T.vm.method? m = some meth := X.method'
  refine ⟨T.setFrames fs, ?_, .returned (some (.int 1)), hrun, hended, rfl, ⟨_, rfl⟩, hW, hframe⟩
  jvm_step X.here [X.here.top, hx, hb, hdg, hmeth', hr, ret, narrow_b1]
  (try refine ⟨rfl, ?_⟩); (try refine ⟨rfl, ?_⟩)
  first | (intro acts; rw [hret _ acts rfl rfl rfl]) | rw [hret _ _ rfl rfl rfl]
  exact Steps.refl _
/-- what holds at the law's entry: the machine, the code, the tables' words (any of lw_tbl by 'hts w (by decide +kernel)'), the script of L ints xs at the cell b, what the Statement gives of the start (any of its parts by flat_of_before) -/
def lw_At (p : Program) (s : State) (m : MethodId) (meth : Method) (c : Code) (b L : Nat) (xs : Nat → Int32) : Prop :=
  p.tables.exec = Jvm.exec ∧ c.code = code ∧ meth.sig.returnType = ret ∧ c.maxLocals = 11 ∧ s.vm.findClass R_law = some m.cls ∧ (∀ w ∈ lw_tbl, w.before #[Value.ref b] s = true) ∧ va_X b L xs s s.heap ∧ b < s.heap.size ∧ meth.locks = false ∧ (Jvm.Cond.and given_1 narrow_1).before #[Value.ref b] s = true
theorem xs_eq {X : XX} {p : Program} {l : Launch} {e : Env} {R : Room} {s : State} {m : MethodId} {a : Array Value} {below : List Frame} {meth : Method} {c : Code} {Q : State → Prop} (h : X = (p, l, e, R, s, m, a, below, meth, c, Q)) : xs X = s := by rw [h]; rfl
def KA0 : List (Nat × Nat) := [(5, 0)] ++ [(0, 0), (7, 150), (8, 3), (11, 4), (2, 0), (8, 24), (8, 24), (8, 24), (4, 0), (2, 0), (8, 24), (8, 24), (8, 24), (8, 7), (10, 6), (9, 6), (3, 0), (8, 6), (3, 0), (8, 6), (3, 0), (8, 6), (3, 0), (8, 6), (3, 0), (8, 6), (3, 0), (8, 6), (1, 0), (1, 0), (1, 0), (1, 0), (1, 0), (1, 0), (4, 0), (2, 0), (8, 24), (8, 24), (8, 24), (8, 7), (10, 6), (9, 6), (3, 0), (8, 6), (3, 0), (8, 6), (3, 0), (8, 6), (3, 0), (8, 6), (3, 0), (8, 6), (3, 0), (8, 6), (1, 0), (1, 0), (1, 0), (1, 0), (1, 0), (1, 0), (4, 0), (2, 0), (8, 24), (8, 24), (8, 24), (8, 7), (10, 6), (9, 6), (3, 0), (8, 6), (3, 0), (8, 6), (3, 0), (8, 6), (3, 0), (8, 6), (3, 0), (8, 6), (3, 0), (8, 6), (1, 0), (1, 0), (1, 0), (1, 0), (1, 0), (1, 0), (4, 0), (2, 0), (8, 24), (8, 24), (8, 24), (8, 7), (10, 6), (9, 6), (3, 0), (8, 6), (3, 0), (8, 6), (3, 0), (8, 6), (3, 0), (8, 6), (3, 0), (8, 6), (3, 0), (8, 6), (1, 0), (1, 0), (1, 0), (1, 0), (1, 0), (1, 0), (4, 0), (2, 0), (8, 24), (8, 24), (8, 24), (8, 7), (10, 6), (9, 6), (3, 0), (8, 6), (3, 0), (8, 6), (3, 0), (8, 6), (3, 0), (8, 6), (3, 0), (8, 6), (3, 0), (8, 6), (1, 0), (1, 0), (1, 0), (1, 0), (1, 0), (1, 0)]
def KA1 : List (Nat × Nat) := KA0 ++ [(8, 14)]
def KA2 : List (Nat × Nat) := KA1 ++ [(8, 24)]
def KA3 : List (Nat × Nat) := KA2 ++ [(8, 24)]
def KA4 : List (Nat × Nat) := KA3 ++ [(8, 24)]
def KA5 : List (Nat × Nat) := KA4 ++ [(8, 60)]
def KA6 : List (Nat × Nat) := KA5 ++ [(8, 36)]
theorem KA0_l : KA0.length = 139 := by decide +kernel
theorem KA1_l : KA1.length = 140 := by decide +kernel
theorem KA2_l : KA2.length = 141 := by decide +kernel
theorem KA3_l : KA3.length = 142 := by decide +kernel
theorem KA4_l : KA4.length = 143 := by decide +kernel
theorem KA5_l : KA5.length = 144 := by decide +kernel
theorem KA6_l : KA6.length = 145 := by decide +kernel
theorem KA6_K : KA6 = KL := by decide +kernel
set_option maxRecDepth 100000 in
set_option maxHeartbeats 8000000 in
/-- YOUR PART: from the entry, for every script of at most 260 ints, the law comes to its end with true ('hflags': the launch's flags, for a law that throws: no stack traces) -/
theorem whole_start {p : Program} {e : Env} {s : State} {m : MethodId} {below : List Frame} {meth : Method} {c : Code} (l : Launch) (hflags : l.flags = flags0) {b L : Nat} {xs : Nat → Int32} (hL : L ≤ 260) (C0 : lw_At p s m meth c b L xs) : W p l e room_1 s m #[Value.ref b] below meth c s.heap [] 0 0 (lw_Z below #[Value.ref b] s) (entryFrame m ([Value.ref b] : List Value).toArray 11) := by
  obtain ⟨hx, hb, hr, hml, hown, hts, hX, hbl, hlocks, hgv⟩ := id C0
  have hSA : SAt b s := ⟨flat_of_before _ hgv, hts⟩
  obtain ⟨f, dC, dI, cA, hZ, hCT, hK, hN, hWd⟩ := st_Z hSA
  obtain ⟨Z, eZ⟩ : ∃ Z : ZZ, Z = Z0 s.heap.size f dC dI cA := ⟨_, rfl⟩
  rw [← eZ] at hZ hCT hK hWd
  have hzb : zb Z = s.heap.size := by rw [eZ]; rfl
  have hzn : zn Z = 0 := by rw [eZ]; rfl
  have hAA : ∀ q, AA Z q → s.heap.size ≤ q := fun q hq => by rw [← hzb]; exact (hCT.2 q).mp hq
  have hAB : ∀ q, s.heap.size ≤ q → AA Z q := fun q hq => (hCT.2 q).mpr (by rw [hzb]; exact hq)
  obtain ⟨X, eX⟩ : ∃ X : XX, X = (p, l, e, room_1, s, m, #[Value.ref b], below, meth, c, lw_Z below #[Value.ref b] s) := ⟨_, rfl⟩
  have xsX := xs_eq eX
  have E : xR X = rmm 13 600130 7301080 := by rw [eX]; rfl
  have C : Cx l Z false X cL_law RL 11 ret := by
    rw [eX]
    exact ⟨⟨hx, hb, hml⟩, ⟨hown, fun w hw => hts w (TB_in hw), hN⟩, ⟨hlocks, hr⟩, ⟨hK, hZ⟩, rfl, hAB, fun q => by cases q⟩
  have ct : ∀ M, CT (zx Z M) := fun M => hCT
  have main : G Z X 11 0 0 0 [(0, .ref b)] [] μ0 := by
    refine g_new C E ⟨hCT, by rw [xsX, hzb, hzn]⟩ (by omega) (c := 5) inTX7 tyX7_ok rfl (by decide) (tb1 (List.mem_of_getElem? (i := 18) rfl) rfl) (tb1 (List.mem_of_getElem? (i := 19) rfl) rfl) (tb1 (List.mem_of_getElem? (i := 1) rfl) rfl) ob_5 ⟨by decide, by decide⟩ (dk kA0 0 rfl) ?_
    rw [hzn]
    have C1 := cx_zx (L := [(5, 0)]) hCT C (by rw [hzn]; decide)
    have n1 : zn (zx Z [(5, 0)]) = 1 := by show zn Z + 1 = 1; rw [hzn]
    refine g_dup C1 rfl (dk kA0 1 rfl) ?_
    refine g_callI C1 E ⟨ct _, by rw [xsX, n1]; show s.heap.size + 1 = zb Z + 1; rw [hzb]⟩ (As := []) (rest := [.ref (za Z 0)]) 0 (ct_X7_init (a0 := 0) (by have q := zx_k1 (Z := Z) (L := [(5, 0)]) (c := 5) (n := 0) 0 rfl; rwa [hzn, Nat.zero_add] at q) (by rw [n1]; decide)) (tb1 (List.mem_of_getElem? (i := 20) rfl) rfl) (tb1 (List.mem_of_getElem? (i := 21) rfl) rfl) (tb1 (List.mem_of_getElem? (i := 1) rfl) rfl) (tb1 (List.mem_of_getElem? (i := 22) rfl) rfl) rfl ⟨by decide, by decide, by decide⟩ rfl (by decide) rfl (Nat.le_of_ble_eq_true rfl) ⟨by decide, by decide⟩ (dk kA0 2 rfl) ?_
    rw [n1]
    refine g_zeq (show _ = zx Z KA0 from zx_zx) ?_
    have C2 := cx_zx (L := KA0) hCT C (by rw [hzn, KA0_l]; decide)
    have m0 : zn (zx Z KA0) = 139 := by show zn Z + KA0.length = 139; rw [hzn, KA0_l]
    refine g_astore_n C2 (i := 1) (lv' := [(1, .ref (za Z 0)), (0, .ref b)]) (dk kA0 3 rfl) rfl (by decide) rfl ?_
    refine g_bipush C2 (v := 14) (by decide) (dk kA0 4 rfl) ?_
    refine g_newI C2 E ⟨ct _, by rw [xsX, m0]; show s.heap.size + 139 = zb Z + 139; rw [hzb]⟩ (by rw [m0]; decide) 14 (tb1 (List.mem_of_getElem? (i := 53) rfl) rfl) (by decide) (by decide) (by decide) ⟨by decide, by decide⟩ (dk kA0 5 rfl) ?_
    rw [m0]
    refine g_zeq (show _ = zx Z KA1 from zx_zx) ?_
    have D1 := cx_zx (L := KA1) hCT C (by rw [hzn, KA1_l]; decide)
    have m1 : zn (zx Z KA1) = 140 := by show zn Z + KA1.length = 140; rw [hzn, KA1_l]
    refine g_astore_n D1 (i := 2) (lv' := [(2, .ref (za Z 139)), (1, .ref (za Z 0)), (0, .ref b)]) (dk kA0 6 rfl) rfl (by decide) rfl ?_
    refine g_bipush D1 (v := 24) (by decide) (dk kA0 7 rfl) ?_
    refine g_newI D1 E ⟨ct _, by rw [xsX, m1]; show s.heap.size + 140 = zb Z + 140; rw [hzb]⟩ (by rw [m1]; decide) 24 (tb1 (List.mem_of_getElem? (i := 53) rfl) rfl) (by decide) (by decide) (by decide) ⟨by decide, by decide⟩ (dk kA0 8 rfl) ?_
    rw [m1]
    refine g_zeq (show _ = zx Z KA2 from zx_zx) ?_
    have D2 := cx_zx (L := KA2) hCT C (by rw [hzn, KA2_l]; decide)
    have m2 : zn (zx Z KA2) = 141 := by show zn Z + KA2.length = 141; rw [hzn, KA2_l]
    refine g_astore_n D2 (i := 3) (lv' := [(3, .ref (za Z 140)), (2, .ref (za Z 139)), (1, .ref (za Z 0)), (0, .ref b)]) (dk kA0 9 rfl) rfl (by decide) rfl ?_
    refine g_bipush D2 (v := 24) (by decide) (dk kA0 10 rfl) ?_
    refine g_newI D2 E ⟨ct _, by rw [xsX, m2]; show s.heap.size + 141 = zb Z + 141; rw [hzb]⟩ (by rw [m2]; decide) 24 (tb1 (List.mem_of_getElem? (i := 53) rfl) rfl) (by decide) (by decide) (by decide) ⟨by decide, by decide⟩ (dk kA0 11 rfl) ?_
    rw [m2]
    refine g_zeq (show _ = zx Z KA3 from zx_zx) ?_
    have D3 := cx_zx (L := KA3) hCT C (by rw [hzn, KA3_l]; decide)
    have m3 : zn (zx Z KA3) = 142 := by show zn Z + KA3.length = 142; rw [hzn, KA3_l]
    refine g_astore D3 (i := 4) (lv' := [(4, .ref (za Z 141)), (3, .ref (za Z 140)), (2, .ref (za Z 139)), (1, .ref (za Z 0)), (0, .ref b)]) (dk kA0 12 rfl) (by decide) rfl ?_
    refine g_bipush D3 (v := 24) (by decide) (dk kA0 13 rfl) ?_
    refine g_newI D3 E ⟨ct _, by rw [xsX, m3]; show s.heap.size + 142 = zb Z + 142; rw [hzb]⟩ (by rw [m3]; decide) 24 (tb1 (List.mem_of_getElem? (i := 53) rfl) rfl) (by decide) (by decide) (by decide) ⟨by decide, by decide⟩ (dk kA0 14 rfl) ?_
    rw [m3]
    refine g_zeq (show _ = zx Z KA4 from zx_zx) ?_
    have D4 := cx_zx (L := KA4) hCT C (by rw [hzn, KA4_l]; decide)
    have m4 : zn (zx Z KA4) = 143 := by show zn Z + KA4.length = 143; rw [hzn, KA4_l]
    refine g_astore D4 (i := 5) (lv' := [(5, .ref (za Z 142)), (4, .ref (za Z 141)), (3, .ref (za Z 140)), (2, .ref (za Z 139)), (1, .ref (za Z 0)), (0, .ref b)]) (dk kA0 15 rfl) (by decide) rfl ?_
    refine g_bipush D4 (v := 60) (by decide) (dk kA0 16 rfl) ?_
    refine g_newI D4 E ⟨ct _, by rw [xsX, m4]; show s.heap.size + 143 = zb Z + 143; rw [hzb]⟩ (by rw [m4]; decide) 60 (tb1 (List.mem_of_getElem? (i := 53) rfl) rfl) (by decide) (by decide) (by decide) ⟨by decide, by decide⟩ (dk kA0 17 rfl) ?_
    rw [m4]
    refine g_zeq (show _ = zx Z KA5 from zx_zx) ?_
    have D5 := cx_zx (L := KA5) hCT C (by rw [hzn, KA5_l]; decide)
    have m5 : zn (zx Z KA5) = 144 := by show zn Z + KA5.length = 144; rw [hzn, KA5_l]
    refine g_astore D5 (i := 6) (lv' := [(6, .ref (za Z 143)), (5, .ref (za Z 142)), (4, .ref (za Z 141)), (3, .ref (za Z 140)), (2, .ref (za Z 139)), (1, .ref (za Z 0)), (0, .ref b)]) (dk kA0 18 rfl) (by decide) rfl ?_
    refine g_bipush D5 (v := 36) (by decide) (dk kA0 19 rfl) ?_
    refine g_newI D5 E ⟨ct _, by rw [xsX, m5]; show s.heap.size + 144 = zb Z + 144; rw [hzb]⟩ (by rw [m5]; decide) 36 (tb1 (List.mem_of_getElem? (i := 53) rfl) rfl) (by decide) (by decide) (by decide) ⟨by decide, by decide⟩ (dk kA0 20 rfl) ?_
    rw [m5]
    refine g_zeq (show _ = zx Z KA6 from zx_zx) ?_
    have D6 := cx_zx (L := KA6) hCT C (by rw [hzn, KA6_l]; decide)
    have m6 : zn (zx Z KA6) = 145 := by show zn Z + KA6.length = 145; rw [hzn, KA6_l]
    refine g_astore D6 (i := 7) (lv' := [(7, .ref (za Z 144)), (6, .ref (za Z 143)), (5, .ref (za Z 142)), (4, .ref (za Z 141)), (3, .ref (za Z 140)), (2, .ref (za Z 139)), (1, .ref (za Z 0)), (0, .ref b)]) (dk kA0 21 rfl) (by decide) rfl ?_
    refine g_zeq (show _ = zx Z KL by rw [KA6_K]) ?_
    have lK : KL.length = 145 := by decide +kernel
    have CF := cx_zx (L := KL) hCT C (by rw [hzn, lK]; decide)
    have zkF : zk (zx Z KL) = KF := by
      funext i
      show (if i < zn Z then zk Z i else KL.getD (i - zn Z) (99, 0)) = KL.getD i (99, 0)
      rw [hzn, if_neg (by omega), Nat.sub_zero]
    have hst : l.stackTraces = false := by
      unfold Launch.stackTraces
      rw [hflags]
      first | decide | rfl | decide +kernel
    have H : LX l (zx Z KL) X b L xs := ⟨CF, E, zkF, hst, by rw [xsX]; exact hX, by rw [xsX]; exact hbl, fun q => absurd (hAA b q) (by omega), hL⟩
    obtain ⟨k0, k1, k2, k3, k4, k5, k6⟩ := Hk H
    have kg : zk (zx Z KL) 139 = (8, 14) := by rw [zkF]; rfl
    refine g_zeq (Z1 := zx Z KL) (Z2 := zx Z KL) rfl ?_
    refine g_aload_n CF (i := 2) 5 rfl rfl (dk kA0 22 rfl) ?_
    refine g_iconst CF (v := 0) (by decide) (dk kA0 23 rfl) ?_
    refine g_bipush CF (v := 12) (by decide) (dk kA0 24 rfl) ?_
    refine g_iast CF (a := 139) k1 (by rw [kg]; decide) rfl (dk kA0 25 rfl) ?_
    refine g_aload_n CF (i := 2) 5 rfl rfl (dk kA0 26 rfl) ?_
    refine g_iconst CF (v := 1) (by decide) (dk kA0 27 rfl) ?_
    refine g_bipush CF (v := 8) (by decide) (dk kA0 28 rfl) ?_
    refine g_iast CF (a := 139) k1 (by rw [kg]; decide) rfl (dk kA0 29 rfl) ?_
    refine g_aload_n CF (i := 2) 5 rfl rfl (dk kA0 30 rfl) ?_
    refine g_iconst CF (v := 2) (by decide) (dk kA0 31 rfl) ?_
    refine g_bipush CF (v := 60) (by decide) (dk kA0 32 rfl) ?_
    refine g_iast CF (a := 139) k1 (by rw [kg]; decide) rfl (dk kA0 33 rfl) ?_
    refine g_aload_n CF (i := 2) 5 rfl rfl (dk kA0 34 rfl) ?_
    refine g_iconst CF (v := 3) (by decide) (dk kA0 35 rfl) ?_
    refine g_bipush CF (v := 100) (by decide) (dk kA0 36 rfl) ?_
    refine g_iast CF (a := 139) k1 (by rw [kg]; decide) rfl (dk kA0 37 rfl) ?_
    refine g_aload_n CF (i := 2) 5 rfl rfl (dk kA0 38 rfl) ?_
    refine g_iconst CF (v := 4) (by decide) (dk kA0 39 rfl) ?_
    refine g_bipush CF (v := 20) (by decide) (dk kA1 0 rfl) ?_
    refine g_iast CF (a := 139) k1 (by rw [kg]; decide) rfl (dk kA1 1 rfl) ?_
    refine g_aload_n CF (i := 2) 5 rfl rfl (dk kA1 2 rfl) ?_
    refine g_iconst CF (v := 5) (by decide) (dk kA1 3 rfl) ?_
    refine g_iconst CF (v := 1) (by decide) (dk kA1 4 rfl) ?_
    refine g_iast CF (a := 139) k1 (by rw [kg]; decide) rfl (dk kA1 5 rfl) ?_
    refine g_aload_n CF (i := 2) 5 rfl rfl (dk kA1 6 rfl) ?_
    refine g_bipush CF (v := 6) (by decide) (dk kA1 7 rfl) ?_
    refine g_iconst CF (v := 2) (by decide) (dk kA1 8 rfl) ?_
    refine g_iast CF (a := 139) k1 (by rw [kg]; decide) rfl (dk kA1 9 rfl) ?_
    refine g_aload_n CF (i := 2) 5 rfl rfl (dk kA1 10 rfl) ?_
    refine g_bipush CF (v := 7) (by decide) (dk kA1 11 rfl) ?_
    refine g_iconst CF (v := 5) (by decide) (dk kA1 12 rfl) ?_
    refine g_iast CF (a := 139) k1 (by rw [kg]; decide) rfl (dk kA1 13 rfl) ?_
    refine g_eq (μ1 := μS) rfl ?_
    refine g_aload_n CF (i := 1) 6 rfl rfl (dk kA1 14 rfl) ?_
    refine g_aload_n CF (i := 2) 5 rfl rfl (dk kA1 15 rfl) ?_
    refine g_aload_n CF (i := 3) 4 rfl rfl (dk kA1 16 rfl) ?_
    refine g_aload CF (i := 4) 3 rfl (dk kA1 17 rfl) ?_
    refine g_aload CF (i := 5) 2 rfl (dk kA1 18 rfl) ?_
    refine g_aload CF (i := 6) 1 rfl (dk kA1 19 rfl) ?_
    refine g_aload CF (i := 7) 0 rfl (dk kA1 20 rfl) ?_
    refine g_callS CF E (As := [.ref (za Z 0), .ref (za Z 139), .ref (za Z 140), .ref (za Z 141), .ref (za Z 142), .ref (za Z 143), .ref (za Z 144)]) (rest := []) 7 (ct_L_isSo (r := 1) k0 k1 k2 k3 k4 k5 k6 hst (by rw [zkF]; exact b_IV.isSo)) (tb3 (List.mem_of_getElem? (i := 238) rfl) rfl) ⟨(tb3 (List.mem_of_getElem? (i := 239) rfl) rfl), (tb1 (List.mem_of_getElem? (i := 0) rfl) rfl), (tb4 (List.mem_of_getElem? (i := 0) rfl) rfl)⟩ ⟨by decide, by decide, by decide⟩ rfl (by decide) rfl (Nat.le_of_ble_eq_true rfl) ⟨by decide, by decide⟩ (dk kA1 21 rfl) ?_
    refine g_istore CF (i := 8) (lv' := [(8, .int 1), (7, .ref (za Z 144)), (6, .ref (za Z 143)), (5, .ref (za Z 142)), (4, .ref (za Z 141)), (3, .ref (za Z 140)), (2, .ref (za Z 139)), (1, .ref (za Z 0)), (0, .ref b)]) (dk kA1 22 rfl) (by decide) rfl ?_
    refine g_iconst CF (v := nI 0) (by decide) (dk kA1 23 rfl) ?_
    refine g_istore CF (i := 9) (lv' := lvA (zx Z KL) b 0) (dk kA1 24 rfl) (by decide) rfl ?_
    refine g_widen (c1 := 1000) (s1 := 10000) (by decide) (by decide) ?_
    refine w_all H b_IV ⟨by decide, by decide⟩ (fun cells slots lv ν hc hs => ?_)
    rw [eX]
    intro Hp locs ls hW hS h
    exact va_forget (fun q hq => hAA _ (hS.2.2 q hq)) (W.widen hc hs (lw_ret hx hb hr hlocks (dk kA4 18 rfl)))
  have hl := lv_entry ([.ref b]) (n := 11) (Nat.le_of_ble_eq_true rfl)
  rw [lg_entry_eq]
  rw [eX] at main
  exact main s.heap [] _ (hWd μ0) va_S.rf hl
set_option maxHeartbeats 4000000 in
theorem lw_walk (l : Launch) (hflags : l.flags = flags0) (b : Addr) (xs : List Int32) : MetFree l x (headSpec (Jvm.Cond.code x code maxLocals ret :: tables_1) room_1) (lw_P b xs) (fun _ _ _ _ _ => True) lw_Q := by
  refine MetFree.of_bodyS (code := code) (maxLocals := maxLocals) (ret := ret) (by decide) ?_ ?_
  · intro args s m h hn
    obtain ⟨meth, c, h1, h2, h3, h4, h5, h6, -, -⟩ := Cond.code_spec hn (atoms_spec (ws := Jvm.Cond.code x code maxLocals ret :: tables_1) h _ List.mem_cons_self)
    exact ⟨meth, c, h1, h2, h3, h4, h5, h6⟩
  · intro p e s m args below meth c s₁ B hml0 hP _
    obtain ⟨rfl, hx, hbd, hgv⟩ := hP
    obtain ⟨scr, harrAt, hlist, hof, hsmall⟩ := hx
    obtain ⟨hcb, hkn, -, -⟩ := State.arrayAt?_spec harrAt
    have hown : s.vm.findClass R_law = some m.cls := findClass_of_methodNamed B.named
    have hts0 : ∀ c ∈ (Jvm.Cond.code x code maxLocals ret :: tables_1), c.before #[Value.ref b] s = true := atoms_spec (ws := Jvm.Cond.code x code maxLocals ret :: tables_1) B.pre
    have hts : ∀ w ∈ lw_tbl, w.before #[Value.ref b] s = true := k2_hts_sels lw_privs (fun w hw => hts0 w (List.mem_cons_of_mem _ hw)) lw_privs_ok
    have hml : c.maxLocals = 11 := B.maxLocals_eq (hts0 _ List.mem_cons_self)
    have X₀ : Stand p l e room_1 s m #[Value.ref b] below meth c s₁ [] 0 0 := Stand.of_body B
    have hh0 : s₁.heap = s.heap := by rw [B.state]; rfl
    have hsz : scr.slots.size = xs.length := by rw [← Array.length_toList, hlist, List.length_map]
    have hval : ∀ j : Nat, j < xs.length → scr.slots[j]? = some (.int (xs.getD j 0)) := fun j hj => by
      rw [← Array.getElem?_toList, hlist]
      simp [hj]
    have hbl : b < s.heap.size := (Array.getElem?_eq_some_iff.mp hcb).1
    have hX : va_X b xs.length (fun j => xs.getD j 0) s s.heap := ⟨scr, hcb, hof, hkn, hsz, hval⟩
    have K : W p l e room_1 s m #[Value.ref b] below meth c s₁.heap [] 0 0 (lw_Z below #[Value.ref b] s) (entryFrame m ([Value.ref b] : List Value).toArray 11) := by
      rw [hh0]
      exact whole_start l hflags hbd ⟨B.exec, B.bytes, B.returns, hml, hown, hts, hX, hbl, B.notSynchronized, hgv⟩
    obtain ⟨t, a1, o, b1, b2, b3⟩ := K s₁ rfl X₀
    exact ⟨t, o, a1, b1, b2, b3⟩
theorem lw_pre_spec {args : Array Value} {s : State} (h : (Jvm.Cond.and given_1 narrow_1).before args s = true) (hr : rest_1_c.before args s = true) : ∃ (b : Addr) (xs : List Int32), lw_P b xs args s := by
  have hs := flat_of_before _ h
  have hq := flat_of_before _ hr
  have hc : (Cond.count 1).before args s = true := hs _ (by decide +kernel)
  have harr : (Cond.arrayOf (.arg 0) .int).before args s = true := hs _ (by decide +kernel)
  have hle : (Cond.le (.length (.arg 0)) (.int 260)).before args s = true := hs _ (by decide +kernel)
  have hlen : (Cond.isInt (.length (.arg 0))).before args s = true := hq _ (by decide +kernel)
  have hall : (Cond.all (.arg 0) (.isInt (.elem (.arg 0) (.index 0)))).before args s = true := hq _ (by decide +kernel)
  obtain ⟨b, xs, hb, hx⟩ := State.ints_of_pre rfl harr hlen hall
  have hsm : xs.length < 2 ^ 31 := hx.choose_spec.2.2.2
  have hev : (Term.length (.arg 0)).eval args s none [] s = some (.int xs.length.toInt32) := hx.length_eval hb
  have hv := Cond.le_ints hev (show (Term.int 260).eval args s none [] s = some (.int 260) from rfl)
  have hd : xs.length.toInt32 ≤ 260 := by
    simpa [Cond.before, Cond.holds, hv] using hle
  have hN : xs.length ≤ 260 := (Int32.ofNat_le_ofNat hsm (by decide)).mp (show Int32.ofNat xs.length ≤ Int32.ofNat 260 from hd)
  exact ⟨b, xs, Cond.one_arg hc (show args[0]? = some (.ref b) from hb), hx, hN, h⟩
theorem lw_comes (l : Launch) (hflags : l.flags = flags0) : Comes l x (Jvm.Cond.code x code maxLocals ret :: tables_1) room_1 (fun tb e args s => Calls_1 tb e args s ∧ rest_1 tb e args s ∧ Pre_1 tb e args s)
    (fun _ _ args s o t => lw_Q args s o t) := by
  intro p e ha hc hk s m args below hf hfit hheap happ hpre
  obtain ⟨b, xs, hP⟩ := lw_pre_spec hpre.2.2 hpre.2.1
  obtain ⟨k, o, h1, h2, h3, hQ⟩ := lw_walk l hflags b xs p e ha hc hk s m args below hf ((Spec.applies_iff_loose hf).mp happ).1 hP trivial
  exact ⟨k, o, h1, h2, h3, hQ⟩
theorem lw_frame {s t : State} {o : Outcome} {args : Array Value} (h : Framed s o t [] 600130 7301080) :
    Framed s o t (fieldLocs frame_1_writes args s ++ arrayLocs frame_1_arrays args s ++ staticLocs frame_1_statics s) 600130 7301080 := h
theorem lw_limb (L : Cond) (hL : ∀ (args : Array Value) (s t : State), L.after args s (.returned (some (.int 1))) t = true) :
    ArmFor flags0 classFile x code maxLocals ret World_1 tables_1 room_1 Calls_1 rest_1 Pre_1
      (fun tb e a s o t => postC L tb e a s o t ∧ Framed s o t (fieldLocs frame_1_writes a s ++ arrayLocs frame_1_arrays a s ++ staticLocs frame_1_statics s) 600130 7301080) := by
  intro l hflags _ _ p e ha hc hk s m args below hf hfit hheap happ hpre
  obtain ⟨k, o, h1, h2, h3, rfl, hF⟩ := lw_comes l hflags p e ha hc hk s m args below hf hfit hheap happ hpre
  exact ⟨k, _, h1, h2, h3, hL args s _, lw_frame hF⟩
theorem i_vc : Claimed_1_1 ∧ Claimed_1_2 := ⟨lw_limb limb_1_1 (fun args s t => by simp [limb_1_1, Cond.after, Cond.holds, Cond.value]), lw_limb limb_1_2 (fun args s t => Cond.after_iff.mpr (by
  first | (rw [show limb_1_2 = Cond.eq .result (.int 1) from rfl, Cond.eq_ints (x := 1) (y := 1) rfl rfl]; simp; done) | (simp [limb_1_2, Cond.value, Term.eval]; done)))⟩
