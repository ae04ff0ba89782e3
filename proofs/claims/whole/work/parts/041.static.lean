/-! STATICS: rows over the words, their letters and the tables -/
section Stat
variable {l : Launch} {Z Z' : ZZ} {ex : Bool} {X : XX} {cc : ByteArray} {own : String} {nL : Nat} {ret : Option FieldType} {d mc ms : Nat} {o : Option Value} {μ μ' : Mm} {cells slots pc : Nat} {lv lv' : List (Nat × Value)} {rest : List Value}
theorem st0 (C : Cx l Z ex X cc own nL ret) {H : Heap} {locs : List Loc} (hW : Wd Z μ (xs X) H) (hS : va_S (AA Z) (xs X).heap H locs) : ST (za Z) (AA Z) (xs X) (xs X).heap :=
  ST.kept hW.2 (fun a ha hna => by
    have hb : a < (xs X).heap.size := by
      have := C.b
      unfold AA at hna
      omega
    exact (hS.2.1 a hb hna).symm)
def rfW (μ : Mm) (k j : Nat) : Option Nat := match μ.2.1 k j with
  | some h => if 2000 ≤ h ∧ h < 2010 then some (h - 2000) else none
  | none => none
theorem rfW_inv {μ : Mm} {k j x : Nat} (e : rfW μ k j = some x) : μ.2.1 k j = some (2000 + x) ∧ x < 10 := by
  unfold rfW at e
  split at e
  · rename_i h' e'
    split at e
    · rename_i hh
      have e9 := Option.some.inj e
      have e8 : h' = 2000 + x := by omega
      exact ⟨by rw [e', e8], by omega⟩
    · cases e
  · cases e
def wv (Z : ZZ) (r : Option Nat) : Value := va_rf (r.map (fun i => za Z (2000 + i)))
theorem g_gsA (C : Cx l Z ex X cc own nL ret) {index : Nat} (k : Nat) (hk : k < 4) (hlink : (Cond.fieldLink own index (sC k) (sF k) "[I").before (xa X) (xs X) = true) (hd : decode cc pc = .ok (.getstatic index, 3)) (kk : G Z X nL cells slots (pc + 3) lv (.ref (za Z (2300 + k)) :: rest) μ) : G Z X nL cells slots pc lv rest μ := fun H locs ls hW hS h =>
  va_gets C.exec C.code ((st0 C hW hS).2.2.1 k hk).1 hS C.ow hlink (fun _ q => q) hd (kk H locs ls hW hS h)
theorem g_gsAN (C : Cx l Z ex X cc own nL ret) {index : Nat} (k : Nat) (hk : k < 4) (hlink : (Cond.fieldLinkNest own index (sC k) (sF k) "[I" "WornDots").before (xa X) (xs X) = true) (hd : decode cc pc = .ok (.getstatic index, 3)) (kk : G Z X nL cells slots (pc + 3) lv (.ref (za Z (2300 + k)) :: rest) μ) : G Z X nL cells slots pc lv rest μ := fun H locs ls hW hS h =>
  va_getsN C.exec C.code ((st0 C hW hS).2.2.1 k hk).1 hS C.ow hlink (fun _ q => q) hd (kk H locs ls hW hS h)
theorem g_gsWN (C : Cx l Z ex X cc own nL ret) {index : Nat} (hlink : (Cond.fieldLinkNest own index "WornDots" "WORDS" "[LWornDots$Word;" "WornDots").before (xa X) (xs X) = true) (hd : decode cc pc = .ok (.getstatic index, 3)) (kk : G Z X nL cells slots (pc + 3) lv (.ref (za Z 2304) :: rest) μ) : G Z X nL cells slots pc lv rest μ := fun H locs ls hW hS h =>
  va_getsN C.exec C.code (st0 C hW hS).2.2.2.1.1 hS C.ow hlink (fun _ q => q) hd (kk H locs ls hW hS h)
theorem g_gsH (C : Cx l Z ex X cc own nL ret) {index : Nat} (hlink : (Cond.fieldLink own index "WornDots$Word" "HEAD" "LWornDots$Word;").before (xa X) (xs X) = true) (hd : decode cc pc = .ok (.getstatic index, 3)) (kk : G Z X nL cells slots (pc + 3) lv (.ref (za Z 2000) :: rest) μ) : G Z X nL cells slots pc lv rest μ := fun H locs ls hW hS h =>
  va_gets C.exec C.code (st0 C hW hS).2.2.2.2.1 hS C.ow hlink (fun _ q => q) hd (kk H locs ls hW hS h)
theorem g_gsC (C : Cx l Z ex X cc own nL ret) {index : Nat} (hlink : (Cond.fieldLink own index "java/lang/String" "COMPACT_STRINGS" "Z").before (xa X) (xs X) = true) (hd : decode cc pc = .ok (.getstatic index, 3)) (kk : G Z X nL cells slots (pc + 3) lv (.int 1 :: rest) μ) : G Z X nL cells slots pc lv rest μ := fun H locs ls hW hS h =>
  va_gets C.exec C.code (st0 C hW hS).2.2.2.2.2.1.1 hS C.ow hlink (fun _ q => q) hd (kk H locs ls hW hS h)
theorem g_gsO (C : Cx l Z ex X cc own nL ret) {index : Nat} (hlink : (Cond.fieldLink own index "jdk/internal/util/Preconditions" "SIOOBE_FORMATTER" "Ljava/util/function/BiFunction;").before (xa X) (xs X) = true) (hd : decode cc pc = .ok (.getstatic index, 3)) (kk : ∀ v : Value, v.category = 1 → G Z X nL cells slots (pc + 3) lv (v :: rest) μ) : G Z X nL cells slots pc lv rest μ := fun H locs ls hW hS h => by
  rcases (st0 C hW hS).2.2.2.2.2.1.2 with hZ | ⟨t, hZ⟩
  · exact va_gets C.exec C.code hZ hS C.ow hlink (fun _ q => q) hd (kk .null rfl H locs ls hW hS h)
  · exact va_gets C.exec C.code hZ hS C.ow hlink (fun _ q => q) hd (kk (.ref t) rfl H locs ls hW hS h)
theorem g_sial (C : Cx l Z ex X cc own nL ret) {i : Int32} (k : Nat) (hk : k < 4) (hi : inb i (sA k).length) (hd : decode cc pc = .ok (.iaload, 1)) (kk : G Z X nL cells slots (pc + 1) lv (.int ((sA k).getD (ix i) 0) :: rest) μ) : G Z X nL cells slots pc lv (.int i :: .ref (za Z (2300 + k)) :: rest) μ := fun H locs ls hW hS h =>
  va_ti C.exec C.code ((st0 C hW hS).2.2.1 k hk).2 hS hi rfl hd (kk H locs ls hW hS h)
theorem in_lt {i : Int32} {n : Nat} (h : inb i n) : ix i < n := Nat.not_le.mp (fun q => h (Or.inr q))
abbrev isC (x : Int32) : Prop := x = (x.toUInt32 % 65536).toInt32
theorem brC {x : Int32} (h : isC x) : narrow .char (.int x) = .int x := by
  have e := pk_nc x
  rw [← h] at e
  exact e
theorem g_swal (C : Cx l Z ex X cc own nL ret) {i : Int32} {x : Nat} (hx : x = ix i) (hi : inb i 10) (hd : decode cc pc = .ok (.aaload, 1)) (kk : G Z X nL cells slots (pc + 1) lv (.ref (za Z (2000 + x)) :: rest) μ) : G Z X nL cells slots pc lv (.int i :: .ref (za Z 2304) :: rest) μ := by
  subst hx
  exact fun H locs ls hW hS h => vb_tq C.exec C.code (st0 C hW hS).2.2.2.1.2 hS hi rfl hd (kk H locs ls hW hS h)
theorem g_swlen (C : Cx l Z ex X cc own nL ret) (hd : decode cc pc = .ok (.arraylength, 1)) (kk : G Z X nL cells slots (pc + 1) lv (.int 10 :: rest) μ) : G Z X nL cells slots pc lv (.ref (za Z 2304) :: rest) μ := fun H locs ls hW hS h =>
  va_tlen C.exec C.code (st0 C hW hS).2.2.2.1.2 hS rfl hd (kk H locs ls hW hS h)
theorem g_sblen (C : Cx l Z ex X cc own nL ret) {i : Nat} (hi : i < 10) (hd : decode cc pc = .ok (.arraylength, 1)) (kk : G Z X nL cells slots (pc + 1) lv (.int (Int32.ofNat (wT i).length) :: rest) μ) : G Z X nL cells slots pc lv (.ref (za Z (2200 + i)) :: rest) μ := fun H locs ls hW hS h =>
  va_tlen C.exec C.code ((st0 C hW hS).2.1 i hi).2.2.2 hS rfl hd (kk H locs ls hW hS h)
theorem g_sbal (C : Cx l Z ex X cc own nL ret) {i : Nat} {j : Int32} (hi : i < 10) (hj : inb j (wT i).length) (hd : decode cc pc = .ok (.baload, 1)) (kk : G Z X nL cells slots (pc + 1) lv (.int ((wT i).getD (ix j) 0) :: rest) μ) : G Z X nL cells slots pc lv (.int j :: .ref (za Z (2200 + i)) :: rest) μ := fun H locs ls hW hS h =>
  va_tb C.exec C.code ((st0 C hW hS).2.1 i hi).2.2.2 hS hj rfl hd (kk H locs ls hW hS h)
theorem vk_getfN {p : Program} {l : Launch} {e : Env} {R : Room} {s : State} {m : MethodId} {args : Array Value} {below : List Frame} {meth : Method} {c : Code} {H : Heap} {locs : List Loc} {cells slots : Nat} {Q : State → Prop} {pc : Nat} {ls : Array Slot} {rest : List Value} {A : Nat → Prop} {cc : ByteArray} (hexec : p.tables.exec = Jvm.exec) (hb : c.code = cc) {o n d own ref host : String} {index q : Nat} {v : Value} (hE : va_OF o n d v q A s s.heap) (hS : va_S A s.heap H locs) (hown : s.vm.findClass own = some m.cls) (hlink : (Cond.fieldLinkNest own index ref n d host).before args s = true) (hsame : ∀ x, s.fieldFound? o n d = some x → s.fieldFound? ref n d = some x) (hdg : decode cc pc = .ok (.getfield index, 3))
    (kk : W p l e R s m args below meth c H locs cells slots Q (F0 m (pc + 3) ls (v :: rest))) : W p l e R s m args below meth c H locs cells slots Q (F0 m pc ls (.ref q :: rest)) := by
  obtain ⟨cf, k, fi, f, cell, h1, h2, h3, h4, h5, h6⟩ := hE.kept hS.2.1
  exact va_Wgetf hexec hb hown hlink (hsame _ h1) h2 h3 h4 (v := v) h5 rfl rfl hdg kk
theorem g_wnum (C : Cx l Z ex X cc own nL ret) {index i : Nat} (hi : i < 10) (hlink : (Cond.fieldLinkNest own index "WornDots$Word" "numbers" "I" "WornDots").before (xa X) (xs X) = true) (hd : decode cc pc = .ok (.getfield index, 3)) (kk : G Z X nL cells slots (pc + 3) lv (.int (wN i) :: rest) μ) : G Z X nL cells slots pc lv (.ref (za Z (2000 + i)) :: rest) μ := fun H locs ls hW hS h =>
  vk_getfN C.exec C.code ((st0 C hW hS).1 i hi).2.2.1 hS C.ow hlink (fun _ q => q) hd (kk H locs ls hW hS h)
theorem g_wlet (C : Cx l Z ex X cc own nL ret) {index i : Nat} (hi : i < 10) (hlink : (Cond.fieldLinkNest own index "WornDots$Word" "letters" "Ljava/lang/String;" "WornDots").before (xa X) (xs X) = true) (hd : decode cc pc = .ok (.getfield index, 3)) (kk : G Z X nL cells slots (pc + 3) lv (.ref (za Z (2100 + i)) :: rest) μ) : G Z X nL cells slots pc lv (.ref (za Z (2000 + i)) :: rest) μ := fun H locs ls hW hS h =>
  vk_getfN C.exec C.code ((st0 C hW hS).1 i hi).2.2.2 hS C.ow hlink (fun _ q => q) hd (kk H locs ls hW hS h)
theorem g_word (C : Cx l Z ex X cc own nL ret) {index i : Nat} (hi : i < 10) (hlink : (Cond.fieldLink own index "java/lang/Enum" "ordinal" "I").before (xa X) (xs X) = true) (hd : decode cc pc = .ok (.getfield index, 3)) (kk : G Z X nL cells slots (pc + 3) lv (.int (nI i) :: rest) μ) : G Z X nL cells slots pc lv (.ref (za Z (2000 + i)) :: rest) μ := fun H locs ls hW hS h =>
  vk_getf C.exec C.code ((st0 C hW hS).1 i hi).2.1 hS C.ow hlink (fun _ q => q) hd (kk H locs ls hW hS h)
theorem g_scod (C : Cx l Z ex X cc own nL ret) {index i : Nat} (hi : i < 10) (hlink : (Cond.fieldLink own index "java/lang/String" "coder" "B").before (xa X) (xs X) = true) (hd : decode cc pc = .ok (.getfield index, 3)) (kk : G Z X nL cells slots (pc + 3) lv (.int 0 :: rest) μ) : G Z X nL cells slots pc lv (.ref (za Z (2100 + i)) :: rest) μ := fun H locs ls hW hS h =>
  vk_getf C.exec C.code ((st0 C hW hS).2.1 i hi).2.1 hS C.ow hlink (fun _ q => q) hd (kk H locs ls hW hS h)
theorem g_sval (C : Cx l Z ex X cc own nL ret) {index i : Nat} (hi : i < 10) (hlink : (Cond.fieldLink own index "java/lang/String" "value" "[B").before (xa X) (xs X) = true) (hd : decode cc pc = .ok (.getfield index, 3)) (kk : G Z X nL cells slots (pc + 3) lv (.ref (za Z (2200 + i)) :: rest) μ) : G Z X nL cells slots pc lv (.ref (za Z (2100 + i)) :: rest) μ := fun H locs ls hW hS h =>
  vk_getf C.exec C.code ((st0 C hW hS).2.1 i hi).2.2.1 hS C.ow hlink (fun _ q => q) hd (kk H locs ls hW hS h)
theorem g_ifnn (C : Cx l Z ex X cc own nL ret) {x : Nat} {off : Int} {tgt : Nat} (hd : decode cc pc = .ok (.ifnonnull off, 3)) (ht : (pc : Int) + off = (tgt : Int)) (k : G Z X nL cells slots tgt lv rest μ) : G Z X nL cells slots pc lv (.ref x :: rest) μ := fun H locs ls hW hS h => lv_ifnonnull C.exec C.code hd ht (k H locs ls hW hS h)
theorem g_ifnnN (C : Cx l Z ex X cc own nL ret) {off : Int} (hd : decode cc pc = .ok (.ifnonnull off, 3)) (k : G Z X nL cells slots (pc + 3) lv rest μ) : G Z X nL cells slots pc lv (.null :: rest) μ := fun H locs ls hW hS h => lv_ifnonnullN C.exec C.code hd (k H locs ls hW hS h)
theorem g_anull (C : Cx l Z ex X cc own nL ret) (hd : decode cc pc = .ok (.aconst_null, 1)) (k : G Z X nL cells slots (pc + 1) lv (.null :: rest) μ) : G Z X nL cells slots pc lv rest μ := fun H locs ls hW hS h => lv_null C.exec C.code hd (k H locs ls hW hS h)
theorem g_aload_nN (C : Cx l Z ex X cc own nL ret) {q : Fin 4} {i : Nat} (j : Nat) (hq : (q : Nat) = i) (hk : lv[j]? = some (i, .null)) (hd : decode cc pc = .ok (.aload_n q, 1)) (k : G Z X nL cells slots (pc + 1) lv (.null :: rest) μ) : G Z X nL cells slots pc lv rest μ := fun H locs ls hW hS h => lv_aload_nN C.exec C.code hd hq (lv_at h j hk) (k H locs ls hW hS h)
theorem g_astore_nN (C : Cx l Z ex X cc own nL ret) {q0 : Fin 4} {i : Nat} (hd : decode cc pc = .ok (.astore_n q0, 1)) (hq : (q0 : Nat) = i) (hn : i < nL) (hl : (i, Value.null) :: lv.filter (fun q => !(q.1 == i) && !(q.1 + 1 == i && q.2.category == 2)) = lv') (k : G Z X nL cells slots (pc + 1) lv' rest μ) : G Z X nL cells slots pc lv (.null :: rest) μ := fun H locs ls hW hS h => lv_astore_nN C.exec C.code hd hq h hn hl (fun ls2 h2 => k H locs ls2 hW hS h2)
/-- a call upon a constant object (a word, a text) -/
theorem g_callK (C : Cx l Z ex X cc own nL ret) (E : xR X = rmm d mc ms) {y : MethodName} {bytes : ByteArray} {maxL d1 mc1 ms1 index b : Nat} {rt : Option FieldType} {CN : String} {As st0 : List Value} (n : Nat) (hM : CtM l Z false y bytes maxL rt d1 mc1 ms1 (.ref b :: As) μ o Z μ') (m1 : Cond.methodLink own index y ∈ TB) (mm : Cond.instanceMethod y ∈ TB ∧ Cond.selects CN y y ∈ TB ∧ Cond.initialized CN ∈ TB ∧ Cond.code y bytes maxL rt ∈ TB)
    (hd1 : y.cls = CN ∧ y.cls ≠ "java/lang/invoke/MethodHandle" ∧ y.cls ≠ "java/lang/invoke/VarHandle" ∧ (parseMethodDescriptor y.desc).map (fun d => d.parameters.length) = some n) (hn : As.length = n) (hR : d1 + 1 ≤ d ∧ maxL + 19 + 37 * d1 ≤ 37 * d) (hb : ∀ (A : Nat → Prop) (H : Heap), ST (za Z) A (xs X) H → va_O CN b A (xs X) H) (hst : st0 = As.reverse ++ .ref b :: rest)
    (hro : (rest.map fun v => v.category).sum ≤ 8) (hcs : cells + mc1 ≤ mc ∧ slots + ms1 ≤ ms) (hdg : decode cc pc = .ok (.invokevirtual index, 3)) (k : G Z X nL (cells + mc1) (slots + ms1) (pc + 3) lv (o.toList ++ rest) μ') : G Z X nL cells slots pc lv st0 μ := by
  subst hst
  intro H locs ls hW hS h
  have hM' : Met (xl X) y (Cond.code y bytes maxL rt :: TB) (rmm d1 mc1 ms1) (va_Pc (.ref b :: As) (Pc0 Z false μ)) (Qc0 Z o μ') mc1 ms1 (AA Z) := by rw [C.ln]; exact hM
  refine ga_call (μ := μ) C hW hS h (va_runV (C := CN) (b := b) (As := As) (rest := rest) C.fix hM' (cwV n C.ts (goodV m1 mm.1 mm.2.1 mm.2.2.1 mm.2.2.2) rfl rfl rfl hd1 (by rw [E]; exact ⟨hR.1, by show 8 + (maxL + 11) + 37 * d1 ≤ 37 * d; omega⟩)) ⟨pc0_blind, va_Orecv (hb _ _ (st0 C hW hS)) hS, pc0_at C hW hS⟩ rfl hn h.1 rfl (lv_room hro) hdg (by rw [E]; exact hcs)) k
theorem goodU {own CN owner : String} {index : Nat} {x y : MethodName} {bytes : ByteArray} {maxL : Nat} {rt : Option FieldType} (m1 : Cond.methodLink own index x ∈ TB) (m0 : Cond.sameMethod x.cls owner x.name x.desc ∈ TB) (m3 : Cond.selects CN x y ∈ TB) (m2 : Cond.instanceMethod y ∈ TB) (m4 : Cond.initialized y.cls ∈ TB) (m5 : Cond.code y bytes maxL rt ∈ TB) : GoodIn TB (va_wsU own index CN owner x y (Cond.code y bytes maxL rt :: TB)) := fun w h => by
  unfold va_wsU at h
  simp only [List.cons_append, List.nil_append, List.mem_cons] at h
  rcases h with rfl | rfl | rfl | rfl | rfl | rfl | h
  · exact good_TB m1
  · exact good_TB m0
  · exact good_TB m3
  · exact good_TB m2
  · exact good_TB m4
  · exact good_TB m5
  · exact good_TB h
/-- the same, of an inherited method -/
theorem g_callU (C : Cx l Z ex X cc own nL ret) (E : xR X = rmm d mc ms) {x y : MethodName} {bytes : ByteArray} {maxL d1 mc1 ms1 index b : Nat} {rt : Option FieldType} {CN owner : String} {As st0 : List Value} (n : Nat) (hM : CtM l Z false y bytes maxL rt d1 mc1 ms1 (.ref b :: As) μ o Z μ') (m1 : Cond.methodLink own index x ∈ TB) (m0 : Cond.sameMethod x.cls owner x.name x.desc ∈ TB) (m3 : Cond.selects CN x y ∈ TB) (m2 : Cond.instanceMethod y ∈ TB) (m4 : Cond.initialized y.cls ∈ TB) (m5 : Cond.code y bytes maxL rt ∈ TB)
    (hyx : y = ⟨owner, x.name, x.desc⟩) (hd1 : owner ≠ "java/lang/invoke/MethodHandle" ∧ owner ≠ "java/lang/invoke/VarHandle" ∧ (parseMethodDescriptor x.desc).map (fun d => d.parameters.length) = some n) (hn : As.length = n) (hR : d1 + 1 ≤ d ∧ maxL + 19 + 37 * d1 ≤ 37 * d) (hb : ∀ (A : Nat → Prop) (H : Heap), ST (za Z) A (xs X) H → va_O CN b A (xs X) H) (hst : st0 = As.reverse ++ .ref b :: rest)
    (hro : (rest.map fun v => v.category).sum ≤ 8) (hcs : cells + mc1 ≤ mc ∧ slots + ms1 ≤ ms) (hdg : decode cc pc = .ok (.invokevirtual index, 3)) (k : G Z X nL (cells + mc1) (slots + ms1) (pc + 3) lv (o.toList ++ rest) μ') : G Z X nL cells slots pc lv st0 μ := by
  subst hst
  intro H locs ls hW hS h
  have hM' : Met (xl X) y (Cond.code y bytes maxL rt :: TB) (rmm d1 mc1 ms1) (va_Pc (.ref b :: As) (Pc0 Z false μ)) (Qc0 Z o μ') mc1 ms1 (AA Z) := by rw [C.ln]; exact hM
  refine ga_call (μ := μ) C hW hS h (va_runU (C := CN) (b := b) (As := As) (rest := rest) C.fix hM' (va_cwU n C.ts (goodU m1 m0 m3 m2 m4 m5) rfl rfl rfl hyx hd1 (by rw [E]; exact ⟨hR.1, by show 8 + (maxL + 11) + 37 * d1 ≤ 37 * d; omega⟩)) ⟨pc0_blind, va_Orecv (hb _ _ (st0 C hW hS)) hS, pc0_at C hW hS⟩ rfl hn h.1 rfl (lv_room hro) hdg (by rw [E]; exact hcs)) k
theorem st_word {ad : Nat → Nat} {U : State} {i : Nat} (hi : i < 10) : ∀ (A : Nat → Prop) (H : Heap), ST ad A U H → va_O "WornDots$Word" (ad (2000 + i)) A U H := fun _ _ h => (h.1 i hi).1
theorem st_text {ad : Nat → Nat} {U : State} {i : Nat} (hi : i < 10) : ∀ (A : Nat → Prop) (H : Heap), ST ad A U H → va_O "java/lang/String" (ad (2100 + i)) A U H := fun _ _ h => (h.2.1 i hi).1
theorem g_wret (C : Cx l Z ex X cc own nL (some (.object "WornDots$Word"))) (r : Option Nat) {v : Value} (hv : v = wv Z r) (E : Ex Z X d mc ms (some (wv Z r)) Z μ) (hc : cells ≤ mc) (hs : slots ≤ ms) (hd : decode cc pc = .ok (.areturn, 1)) : G Z X nL cells slots pc lv [v] μ := by
  subst hv
  exact g_aret C E rfl ⟨_, rfl⟩ (by cases r with | none => exact Or.inl rfl | some i => exact Or.inr ⟨_, rfl⟩) hc hs hd
end Stat
