/-! EXCEPTIONS: a method that throws for sure (its memory stays), what a caller makes of it -/
section Exc
def XC0 (Z : ZZ) (E : String) (μ : Mm) : String → State → State → Prop := fun E' st t => E' = E ∧ Wd Z μ t t.heap ∧ va_F (AA Z) st t
def NoQ : Array Value → State → Outcome → State → Prop := fun _ _ _ _ => False
def CtX (l : Launch) (Z : ZZ) (y : MethodName) (bytes : ByteArray) (maxL : Nat) (rt : Option FieldType) (d mc ms : Nat) (av : List Value) (μ : Mm) (E : String) (μ' : Mm) : Prop :=
  vx_Met l y (Cond.code y bytes maxL rt :: TB) (rmm d mc ms) (va_Pc av (Pc0 Z false μ)) NoQ (XC0 Z E μ') mc ms (AA Z)
/-- the end of a body that throws -/
def EX (Z : ZZ) (X : XX) (d mc ms : Nat) (E : String) (μ : Mm) : Prop := xQ X = vx_MQ (xb X) NoQ (XC0 Z E μ) (xa X) (xs X) mc ms (AA Z) ∧ xR X = rmm d mc ms ∧ ∀ x ∈ (xc X).exceptionTable.toList, False
variable {l : Launch} {Z Z' : ZZ} {ex : Bool} {X : XX} {cc : ByteArray} {own : String} {nL : Nat} {ret : Option FieldType} {d mc ms : Nat} {o : Option Value} {μ μ' : Mm} {cells slots pc : Nat} {lv lv' : List (Nat × Value)} {rest : List Value} {E : String}
theorem ctx_of {y : MethodName} {av : List Value} (hy : plainName y.cls = true) (ho : y.cls = own) (hlen : (lg_sl av).length ≤ nL)
    (body : ∀ X : XX, Cx l Z false X cc own nL ret → EX Z X d mc ms E μ' → G Z X nL 0 0 0 (lv_args 0 av) [] μ) : CtX l Z y cc nL ret d mc ms av μ E μ' := by
  refine vx_ofW (cc := cc) (maxL := nL) (ret := ret) (ws' := TB) hy rfl ?_
  intro p e s m args below meth c s₁ B hml hno hv
  obtain ⟨rfl, hW, ⟨hK, hN⟩, hZ, hb, hx⟩ := hv
  have hts := atoms_spec (ws := Cond.code y cc nL ret :: TB) B.pre
  have hown : s.vm.findClass own = some m.cls := by rw [← ho]; exact findClass_of_methodNamed B.named
  have hg := body (p, l, e, rmm d mc ms, s, m, av.toArray, below, meth, c, vx_MQ below NoQ (XC0 Z E μ') av.toArray s mc ms (AA Z))
    ⟨⟨B.exec, B.bytes, hml⟩, ⟨hown, fun w h => hts w (List.mem_cons_of_mem _ h), hN⟩, ⟨B.notSynchronized, B.returns⟩, ⟨hK, hZ⟩, rfl, hb, hx⟩ ⟨rfl, rfl, hno⟩
    s.heap [] _ hW va_S.rf (lv_entry av hlen)
  rw [lg_entry_eq]
  exact hg
theorem xc_at (C : Cx l Z ex X cc own nL ret) {H : Heap} {locs : List Loc} (hW : Wd Z μ (xs X) H) (hS : va_S (AA Z) (xs X).heap H locs) (t : State) (hA : (xs X).vm.Alike t.vm) (h1 : H.size ≤ t.heap.size) (h2 : ∀ q : Nat, q < H.size → t.heap[q]? = H[q]?) : XC0 Z E μ E (xs X) t :=
  ⟨rfl, ⟨va_P.kept hW.1 (fun k q hq => h2 q.1 ((hW.1 k q hq).lt)), ST.moved hA (ST.kept hW.2 (fun a ha _ => h2 a ha))⟩, Nat.le_trans hS.1 h1, fun q hq hn => (h2 q (Nat.lt_of_lt_of_le hq hS.1)).trans (hS.2.1 q hq hn)⟩
theorem hat_of (C : Cx l Z ex X cc own nL ret) (L B : List Cond) (h1 : L.all (fun w => !goodWord w || decide (w ∈ lw_tbl)) = true) (h2 : L.all (fun w => goodWord w || decide (w ∈ B)) = true) (hB : ∀ w ∈ B, w.before (xa X) (xs X) = true) : ∀ w ∈ L, w.before (xa X) (xs X) = true := by
  intro w hw
  have a1 := List.all_eq_true.mp h1 w hw
  have a2 := List.all_eq_true.mp h2 w hw
  by_cases hg : goodWord w = true
  · rw [hg] at a1
    have hm : w ∈ lw_tbl := by simpa using a1
    exact C.ts w (List.mem_filter.mpr ⟨hm, hg⟩)
  · have hg : goodWord w = false := by simpa using hg
    rw [hg] at a2
    have hm : w ∈ B := by simpa using a2
    exact hB w hm
def XB (c : String) : List Cond := [.castable c c, .declares ⟨"java/lang/RuntimeException", "<init>", "(Ljava/lang/String;)V"⟩, .declares ⟨"java/lang/Exception", "<init>", "(Ljava/lang/String;)V"⟩, .declares ⟨"java/lang/Throwable", "<init>", "(Ljava/lang/String;)V"⟩]
theorem xb_ok (C : Cx l Z ex X cc own nL ret) {c : String} (hc : (c, c) ∈ NC) : ∀ w ∈ XB c, w.before (xa X) (xs X) = true := by
  intro w hw
  simp only [XB, List.mem_cons, List.not_mem_nil, or_false] at hw
  rcases hw with rfl | rfl | rfl | rfl
  · exact va_Nw.use rfl (C.nw.2.2.1 (c, c) hc)
  · exact va_Nw.use rfl (C.nw.2.2.2.1 _ (List.mem_of_getElem? (i := 0) rfl))
  · exact va_Nw.use rfl (C.nw.2.2.2.1 _ (List.mem_of_getElem? (i := 1) rfl))
  · exact va_Nw.use rfl (C.nw.2.2.2.1 _ (List.mem_of_getElem? (i := 2) rfl))
def XNs : List String := ["java/lang/RuntimeException", "java/lang/Exception"]
theorem xns_fit : ∀ n ∈ XNs, Bundle.fit n = true := by decide +kernel
theorem gx_throwS (C : Cx l Z false X cc RX7 nL ret) (hl : l.stackTraces = false) (EE : EX Z X d mc ms E μ) {text : String} {ik is ic : Nat} (hfit : Bundle.fit E = true) (w1 : Cond.classLink RX7 ik E ∈ TB) (w2 : Cond.initialized E ∈ TB) (hsr : (is, text) ∈ SR) (hc : (E, E) ∈ NC)
    (h1 : (vx_atS RX7 ic E XNs).all (fun w => !goodWord w || decide (w ∈ lw_tbl)) = true) (h2 : (vx_atS RX7 ic E XNs).all (fun w => goodWord w || decide (w ∈ XB E)) = true) (h3 : (Cond.classLink RX7 ik E :: Cond.initialized E :: vx_atS RX7 ic E XNs).all vx_ot = true)
    (d0 : decode cc pc = .ok (.new ik, 3)) (d3 : decode cc (pc + 3) = .ok (.dup, 1)) (d4 : decode cc (pc + 4) = .ok (.ldc is, 2)) (d6 : decode cc (pc + 6) = .ok (.invokespecial ic, 3)) (d9 : decode cc (pc + 9) = .ok (.athrow, 1)) (hd : 6 ≤ d) (hro : (rest.map fun v => v.category).sum ≤ 8) (hcs : cells + 1 ≤ mc ∧ slots + 6 ≤ ms) : G Z X nL cells slots pc lv rest μ := fun H locs ls hW hS h => by
  obtain ⟨sa, hsa⟩ := C.nw.2.2.2.2.2.1 _ hsr
  have hst := st0 C hW hS
  rw [EE.1]
  exact vx_throwS C.exec C.code (by rw [C.ln]; exact hl) C.ow hfit xns_fit (C.w w1) (C.w w2) hsa (hat_of C _ _ h1 h2 (xb_ok C hc)) (fun w hw => List.all_eq_true.mp h3 w hw) hst.2.2.1 hst.2.2.2 hS (h.1.trans C.ml.symm) d0 d3 d4 d6 d9 (fun x hx => (EE.2.2 x hx).elim)
    (by rw [EE.2.1]; show 2 + 3 < d; omega) (by rw [EE.2.1]; show _ + 82 ≤ 40 * d + 4; omega) (by rw [EE.2.1]; exact hcs.1) (by rw [EE.2.1]; exact hcs.2) C.locks (fun t a b c => xc_at C hW hS t a b c) hS.2.2 hcs.1 hcs.2
theorem gx_throwSW (C : Cx l Z false X cc RX7 nL ret) (hl : l.stackTraces = false) (EE : EX Z X d mc ms E μ) {text : String} {ik is ic : Nat} (hfit : Bundle.fit E = true) (w1 : Cond.classLink RX7 ik E ∈ TB) (w2 : Cond.initialized E ∈ TB) (hsr : (is, text) ∈ SR) (hc : (E, E) ∈ NC)
    (h1 : (vx_atS RX7 ic E XNs).all (fun w => !goodWord w || decide (w ∈ lw_tbl)) = true) (h2 : (vx_atS RX7 ic E XNs).all (fun w => goodWord w || decide (w ∈ XB E)) = true) (h3 : (Cond.classLink RX7 ik E :: Cond.initialized E :: vx_atS RX7 ic E XNs).all vx_ot = true)
    (d0 : decode cc pc = .ok (.new ik, 3)) (d3 : decode cc (pc + 3) = .ok (.dup, 1)) (d4 : decode cc (pc + 4) = .ok (.ldc_w is, 3)) (d7 : decode cc (pc + 7) = .ok (.invokespecial ic, 3)) (d10 : decode cc (pc + 10) = .ok (.athrow, 1)) (hd : 6 ≤ d) (hro : (rest.map fun v => v.category).sum ≤ 8) (hcs : cells + 1 ≤ mc ∧ slots + 6 ≤ ms) : G Z X nL cells slots pc lv rest μ := fun H locs ls hW hS h => by
  obtain ⟨sa, hsa⟩ := C.nw.2.2.2.2.2.1 _ hsr
  have hst := st0 C hW hS
  rw [EE.1]
  exact vx_throwSW C.exec C.code (by rw [C.ln]; exact hl) C.ow hfit xns_fit (C.w w1) (C.w w2) hsa (hat_of C _ _ h1 h2 (xb_ok C hc)) (fun w hw => List.all_eq_true.mp h3 w hw) hst.2.2.1 hst.2.2.2 hS (h.1.trans C.ml.symm) d0 d3 d4 d7 d10 (fun x hx => (EE.2.2 x hx).elim)
    (by rw [EE.2.1]; show 2 + 3 < d; omega) (by rw [EE.2.1]; show _ + 82 ≤ 40 * d + 4; omega) (by rw [EE.2.1]; exact hcs.1) (by rw [EE.2.1]; exact hcs.2) C.locks (fun t a b c => xc_at C hW hS t a b c) hS.2.2 hcs.1 hcs.2
/-- a static callee that throws: it goes on to the caller -/
theorem gx_callS (C : Cx l Z false X cc own nL ret) (EE : EX Z X d mc ms E μ) {y : MethodName} {bytes : ByteArray} {maxL d1 mc1 ms1 index : Nat} {rt : Option FieldType} {As st0 : List Value} (n : Nat) (hM : CtX l Z y bytes maxL rt d1 mc1 ms1 As μ E μ) (m1 : Cond.methodLink own index y ∈ TB) (mm : Cond.static y ∈ TB ∧ Cond.initialized y.cls ∈ TB ∧ Cond.code y bytes maxL rt ∈ TB)
    (hd1 : y.cls ≠ "java/lang/invoke/MethodHandle" ∧ y.cls ≠ "java/lang/invoke/VarHandle" ∧ (parseMethodDescriptor y.desc).map (fun d => d.parameters.length) = some n) (hn : As.length = n) (hR : d1 + 1 ≤ d ∧ maxL + 19 + 40 * d1 ≤ 40 * d) (hst : st0 = As.reverse ++ rest)
    (hro : (rest.map fun v => v.category).sum ≤ 8) (hcs : cells + mc1 ≤ mc ∧ slots + ms1 ≤ ms) (hdg : decode cc pc = .ok (.invokestatic index, 3)) : G Z X nL cells slots pc lv st0 μ := by
  subst hst
  intro H locs ls hW hS h
  have hM' : vx_Met (xl X) y (Cond.code y bytes maxL rt :: TB) (rmm d1 mc1 ms1) (va_Pc As (Pc0 Z false μ)) NoQ (XC0 Z E μ) mc1 ms1 (AA Z) := by rw [C.ln]; exact hM
  have hr : vx_Run (xp X) (xl X) (xe X) (xR X) (xs X) (xm X) (xa X) (xb X) (xh X) (xc X) H locs cells slots mc1 ms1 (F0 (xm X) pc ls (As.reverse ++ rest)) rest (NoQ As.toArray) (XC0 Z E μ) (AA Z) := vx_runS (As := As) (rest := rest) C.fix hM' (va_cwS n C.ts (goodS m1 mm.1 mm.2.1 mm.2.2) rfl rfl rfl hd1 (by rw [EE.2.1]; exact ⟨hR.1, by show 8 + (maxL + 11) + (40 * d1 + 4) ≤ 40 * d + 4; omega⟩)) ⟨pc0_blind, pc0_at C hW hS⟩ rfl hn h.1 rfl (lv_room hro) hdg (by rw [EE.2.1]; exact hcs)
  rw [EE.1]
  intro T hT X1
  rcases hr T hT X1 with ⟨v, st₀, t, T', L, h0, X', hL, e1, e2, hq, st⟩ | ⟨q, st₀, t, T', L, E9, ce, h0, X', hL, e1, e2, ⟨hE, hb, hF⟩, hce, hcv, hcl, st⟩
  · exact hq.elim
  · subst hE
    obtain ⟨k1, k2, k3⟩ := vx_keep h0 e1 hS (fun q _ h => h) (fun q h => h) hL hF
    have hW1 : Wd Z μ (xs X) T'.heap := by
      rw [e1]
      exact ⟨hb.1, ST.moved (Vm.Alike.symm (by rw [← e2]; exact X'.warmed.alike)) hb.2⟩
    obtain ⟨t2, a1, b1⟩ := vx_out (pc := pc) (rest := rest) (ls := ls) (Qc := NoQ) (XC := XC0 Z E9 μ) (free := AA Z) (mc := mc) (ms := ms) (cells := cells + mc1) (slots := slots + ms1) (H := T'.heap) (fun x hx => (EE.2.2 x hx).elim) C.locks (by rw [e1]; exact hce) hcv hcl (fun t9 ht9 hA9 => xc_at C hW1 k3 t9 hA9 (by rw [ht9]; exact Nat.le_refl _) (fun q _ => by rw [ht9])) k3.2.2 hcs.1 hcs.2 T' rfl X'
    exact ⟨t2, st.trans a1, b1⟩
/-- a method with a table of its own -/
def CtW (l : Launch) (Z : ZZ) (y : MethodName) (bytes : ByteArray) (maxL : Nat) (rt : Option FieldType) (hh : List (Nat × Nat × Nat × Nat)) (d mc ms : Nat) (av : List Value) (μ : Mm) (o : Option Value) (Z' : ZZ) (μ' : Mm) : Prop :=
  Met l y (Cond.codeWith y bytes maxL rt hh :: TB) (rmm d mc ms) (va_Pc av (Pc0 Z false μ)) (Qc0 Z' o μ') mc ms (AA Z)
def tabOf (hh : List (Nat × Nat × Nat × Nat)) : List ExceptionTableEntry := hh.map (fun q => ⟨q.1, q.2.1, q.2.2.1, q.2.2.2⟩)
theorem tab_eq {L : List ExceptionTableEntry} {hh : List (Nat × Nat × Nat × Nat)} (h : L.map (fun h => (h.startPc, h.endPc, h.handlerPc, h.catchType)) = hh) : L = tabOf hh := by
  subst hh
  simp [tabOf, Function.comp_def]
theorem ctw_of {y : MethodName} {av : List Value} {hh : List (Nat × Nat × Nat × Nat)} (hy : plainName y.cls = true) (ho : y.cls = own) (hlen : (lg_sl av).length ≤ nL)
    (body : ∀ X : XX, Cx l Z false X cc own nL ret → Ex Z X d mc ms o Z' μ' → (xc X).exceptionTable.toList = tabOf hh → G Z X nL 0 0 0 (lv_args 0 av) [] μ) : CtW l Z y cc nL ret hh d mc ms av μ o Z' μ' := by
  unfold CtW Met
  refine MetFree.of_bodyS (code := cc) (maxLocals := nL) (ret := ret) hy ?_ ?_
  · intro args s m h hn
    obtain ⟨m9, meth, c, hn9, h1, h2, h3, h4, -, h5, h6, -⟩ := Cond.codeWith_spec (atoms_spec (ws := Cond.codeWith y cc nL ret hh :: TB) h _ List.mem_cons_self)
    cases hn.symm.trans hn9
    exact ⟨meth, c, h1, h2, h3, h4, h5, h6⟩
  · intro p e s m args below meth c s₁ B hml0 hv _
    obtain ⟨rfl, hW, ⟨hK, hN⟩, hZ, hb, hx⟩ := hv
    have hts := atoms_spec (ws := Cond.codeWith y cc nL ret hh :: TB) B.pre
    obtain ⟨m9, meth9, c9, hn9, g1, g2, g3, g4, g5, g6, g7, g8⟩ := Cond.codeWith_spec (hts _ List.mem_cons_self)
    have em : m9 = m := Option.some.inj (hn9.symm.trans B.named)
    subst em
    have X₀ : Stand p l e (rmm d mc ms) s m9 av.toArray below meth c s₁ [] 0 0 := Stand.of_body B
    have emeth : meth9 = meth := Option.some.inj (g1.symm.trans X₀.method)
    subst emeth
    have ec : c9 = c := Option.some.inj (g2.symm.trans X₀.code)
    subst ec
    have hown : s.vm.findClass own = some m9.cls := by rw [← ho]; exact findClass_of_methodNamed B.named
    have hg := body (p, l, e, rmm d mc ms, s, m9, av.toArray, below, meth9, c9, MQ below (Qc0 Z' o μ') av.toArray s mc ms (AA Z))
      ⟨⟨B.exec, B.bytes, g4⟩, ⟨hown, fun w h => hts w (List.mem_cons_of_mem _ h), hN⟩, ⟨B.notSynchronized, B.returns⟩, ⟨hK, hZ⟩, rfl, hb, hx⟩ ⟨rfl, rfl⟩ (tab_eq g5)
      s.heap [] _ hW va_S.rf (lv_entry av hlen)
    have hh0 : s₁.heap = s.heap := by rw [B.state]; rfl
    rw [← lg_entry_eq] at hg
    obtain ⟨t, a1, o9, b1, b2, b3⟩ := hg s₁ hh0 X₀
    exact ⟨t, o9, a1, b1, b2, ⟨b3.1, b3.2⟩⟩
/-- a callee that throws, and the handler that takes it -/
theorem gx_catchV (C : Cx l Z false X cc own nL ret) (ER : xR X = rmm d mc ms) {y : MethodName} {bytes : ByteArray} {maxL N d1 mc1 ms1 index b ci : Nat} {rt : Option FieldType} {CN : String} {T : u_T} {As st0 : List Value} (n : Nat) (hM : CtX l Z y bytes maxL rt d1 mc1 ms1 (.ref (za Z b) :: As) μ E μ') (m1 : Cond.methodLink own index y ∈ TB) (mm : Cond.instanceMethod y ∈ TB ∧ Cond.selects CN y y ∈ TB ∧ Cond.initialized CN ∈ TB ∧ Cond.code y bytes maxL rt ∈ TB)
    (hd1 : y.cls = CN ∧ y.cls ≠ "java/lang/invoke/MethodHandle" ∧ y.cls ≠ "java/lang/invoke/VarHandle" ∧ (parseMethodDescriptor y.desc).map (fun d => d.parameters.length) = some n) (hn : As.length = n) (hR : d1 + 1 ≤ d ∧ maxL + 19 + 40 * d1 ≤ 40 * d) (hb : (zk Z b).1 = ci) (hci : ci < 7) (hcl : vwCl[ci]? = some (CN, T, N)) (hst : st0 = As.reverse ++ .ref (za Z b) :: rest)
    (hro : (rest.map fun v => v.category).sum ≤ 8) (hcs : cells + mc1 ≤ mc ∧ slots + ms1 ≤ ms) (hdg : decode cc pc = .ok (.invokevirtual index, 3))
    {hh : List (Nat × Nat × Nat × Nat)} (htab : (xc X).exceptionTable.toList = tabOf hh) (pre suf : List ExceptionTableEntry) (x : ExceptionTableEntry) (hsplit : tabOf hh = pre ++ x :: suf) (hpass : ∀ z ∈ pre, z.catchType ≠ 0 ∧ ∃ nm : String, Cond.classLink own z.catchType nm ∈ TB ∧ (E, nm) ∈ NN) (hx : covers x pc = true) (h0 : x.catchType ≠ 0) (wl9 : Cond.classLink own x.catchType E ∈ TB) (hc : (E, E) ∈ NC)
    (k : ∀ q : Nat, G Z X nL (cells + mc1) (slots + ms1) x.handlerPc lv [.ref q] μ') : G Z X nL cells slots pc lv st0 μ := by
  subst hst
  intro H locs ls hW hS h
  have hM' : vx_Met (xl X) y (Cond.code y bytes maxL rt :: TB) (rmm d1 mc1 ms1) (va_Pc (.ref (za Z b) :: As) (Pc0 Z false μ)) NoQ (XC0 Z E μ') mc1 ms1 (AA Z) := by rw [C.ln]; exact hM
  have hr : vx_Run (xp X) (xl X) (xe X) (xR X) (xs X) (xm X) (xa X) (xb X) (xh X) (xc X) H locs cells slots mc1 ms1 (F0 (xm X) pc ls (As.reverse ++ .ref (za Z b) :: rest)) rest (NoQ (Value.ref (za Z b) :: As).toArray) (XC0 Z E μ') (AA Z) := vx_runV (C := CN) (b := za Z b) (As := As) (rest := rest) C.fix hM' (cwV n C.ts (goodV m1 mm.1 mm.2.1 mm.2.2.1 mm.2.2.2) rfl rfl rfl hd1 (by rw [ER]; exact ⟨hR.1, by show 8 + (maxL + 11) + (40 * d1 + 4) ≤ 40 * d + 4; omega⟩)) ⟨pc0_blind, va_recv (q := (CN, T, N)) C.K hW.1 hcl (wl_get (zk_lt C.ok hb (by omega)) |>.trans (by rw [ce_obj hb hci])), pc0_at C hW hS⟩ rfl hn h.1 rfl (lv_room hro) hdg (by rw [ER]; exact hcs)
  intro T0 hT X1
  rcases hr T0 hT X1 with ⟨v, st₀, t, T', L, h00, X', hL, e1, e2, hq, st⟩ | ⟨q, st₀, t, T', L, E9, ce, h00, X', hL, e1, e2, ⟨hE, hb9, hF⟩, hce, hcv, hcl9, st⟩
  · exact hq.elim
  · subst hE
    obtain ⟨k1, k2, k3⟩ := vx_keep h00 e1 hS (fun q _ h => h) (fun q h => h) hL hF
    have hW1 : Wd Z μ' (xs X) T'.heap := by
      rw [e1]
      exact ⟨hb9.1, ST.moved (Vm.Alike.symm (by rw [← e2]; exact X'.warmed.alike)) hb9.2⟩
    have hcat := vx_catch (pc := pc) (rest := rest) (ls := ls) (H := T'.heap) (locs := locs ++ L) (cells := cells + mc1) (slots := slots + ms1) (Q := xQ X) (p := xp X) (l := xl X) (e := xe X) (R := xR X) (below := xb X) (meth := xh X) (c := xc X) C.ow pre x suf (htab.trans hsplit) (fun z hz => Or.inr ⟨(hpass z hz).1, by
      obtain ⟨nm, a, b⟩ := (hpass z hz).2
      exact ⟨nm, C.w a, C.nw.2.2.2.2.1 _ b⟩⟩) hx h0 (C.w wl9) (va_Nw.use rfl (C.nw.2.2.1 _ hc)) (by rw [e1]; exact hce) hcv hcl9 (k q T'.heap (locs ++ L) ls hW1 k3 h)
    obtain ⟨t2, a1, b1⟩ := hcat T' rfl X'
    exact ⟨t2, st.trans a1, b1⟩
end Exc
