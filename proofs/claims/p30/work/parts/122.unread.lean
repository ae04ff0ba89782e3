/-! unread: four int rows of its own; a small world of int rows -/
section Small
def ks4 (K : Nat → Nat × Nat) (a b c d : Nat) : Nat → Nat × Nat := fun i => if i = 0 then K a else if i = 1 then K b else if i = 2 then K c else if i = 3 then K d else (99, 0)
def ksp (K : Nat → Nat × Nat) (n : Nat) (e : Nat × Nat) : Nat → Nat × Nat := fun i => if i = n then e else K i
def ms4 (μ : Mm) (a b c d : Nat) : Mm := (fun i => if i = 0 then μ.1 a else if i = 1 then μ.1 b else if i = 2 then μ.1 c else μ.1 d, fun _ _ => none, fun _ _ => 0)
def zs4 (Z : ZZ) (A : Nat → Prop) (a b c d : Nat) : ZZ := (A, zb Z, fun i => if i = 0 then za Z a else if i = 1 then za Z b else if i = 2 then za Z c else if i = 3 then za Z d else za Z i, Z.2.2.2.1, Z.2.2.2.2.1, zc Z, ks4 (zk Z) a b c d, 4)
def zy (Z : ZZ) (h : Nat) (e : Nat × Nat) : ZZ := (AA Z, zb Z, fun i => if i = zn Z then h else za Z i, Z.2.2.2.1, Z.2.2.2.2.1, zc Z, ksp (zk Z) (zn Z) e, zn Z + 1)
noncomputable def f_L_unread (K : Nat → Nat × Nat) (μ : Mm) (a0 a1 a2 a3 : Nat) (a4 a5 : Int32) : Option Int32 :=
  gd (a0 ≠ a1 ∧ a0 ≠ a2 ∧ a0 ≠ a3 ∧ a1 ≠ a2 ∧ a1 ≠ a3 ∧ a2 ≠ a3) <|
  bd (f_L_copies (ksp (ksp (ksp (ks4 K a0 a1 a2 a3) 4 (8, 14)) 5 (8, 24)) 6 (8, 24)) (nwM (nwM (nwM (ms4 μ a0 a1 a2 a3) 4) 5) 6) 0 4) fun μ1 =>
  bd (f_L_copies (ksp (ksp (ksp (ks4 K a0 a1 a2 a3) 4 (8, 14)) 5 (8, 24)) 6 (8, 24)) μ1 1 5) fun μ2 =>
  bd (f_L_copies (ksp (ksp (ksp (ks4 K a0 a1 a2 a3) 4 (8, 14)) 5 (8, 24)) 6 (8, 24)) μ2 2 6) fun μ3 =>
  bd (f_L_lines (ksp (ksp (ksp (ksp (ks4 K a0 a1 a2 a3) 4 (8, 14)) 5 (8, 24)) 6 (8, 24)) 7 (8, 24)) (nwM μ3 7) 4 5 6 7 3 a4 a5) fun q =>
  @gd _ (q.2.1 0 = μ.1 a0 ∧ q.2.1 1 = μ.1 a1 ∧ q.2.1 2 = μ.1 a2 ∧ q.2.1 3 = μ.1 a3) (Classical.propDecidable _) (some q.1)
theorem ST.ad {ad ad' : Nat → Nat} {A : Nat → Prop} {U : State} {H : Heap} (e : ∀ i, 2000 ≤ i → ad' i = ad i) (h : ST ad A U H) : ST ad' A U H := by
  obtain ⟨h1, h2, h3⟩ := h
  refine ⟨fun k hk => ?_, ?_, h3⟩
  · rw [e (2300 + k) (by omega)]
    exact h1 k hk
  · rw [e 2000 (by omega)]
    exact h2
theorem ST.narrow {ad : Nat → Nat} {A B : Nat → Prop} {U : State} {H : Heap} (h : ST ad A U H) (hAB : ∀ q, B q → A q) : ST ad B U H := by
  obtain ⟨h1, h2, h3, h4⟩ := h
  exact ⟨fun k hk => ⟨(h1 k hk).1.narrow hAB, (h1 k hk).2.narrow hAB⟩, h2.narrow hAB, h3.narrow hAB, h4.narrow hAB⟩
variable {l : Launch} {Z Z' : ZZ} {X : XX} {cc : ByteArray} {own : String} {nL : Nat} {ret : Option FieldType} {d mc ms : Nat} {o : Option Value} {μ μ' : Mm} {cells slots pc : Nat} {lv lv' : List (Nat × Value)} {rest : List Value}
theorem g_newIy (C : Cx l Z false X cc own nL ret) (E : xR X = rmm d mc ms) (h1000 : zn Z < 1000) (hI : ∀ k, k < zn Z → (zk Z k).1 = 8) (N : Nat) {n : Int32} (w1 : Cond.arrayClass .int ∈ TB) (hn : ¬ n < 0) (hN : n.toNatClampNeg = N) (hbytes : N * componentBytes .int ≤ 536870912) (hcs : cells + 1 ≤ mc ∧ slots + N ≤ ms) (hd : decode cc pc = .ok (.newarray .int, 2))
    (k : ∀ h : Nat, Cx l (zy Z h (8, N)) false X cc own nL ret → G (zy Z h (8, N)) X nL (cells + 1) (slots + N) (pc + 2) lv (.ref h :: rest) (nwM μ (zn Z))) : G Z X nL cells slots pc lv (.int n :: rest) μ := by
  intro H locs ls hW hS h
  refine va_newaK (atype := .int) C.exec C.code (C.w w1) rfl hd rfl hn hN hbytes (by rw [E]; exact hcs.1) (by rw [E]; exact hcs.2) (h := H.size) rfl (fun H1 cA e1 z1 o1 hAr hNm => ?_)
  have hcA : cA = zc Z 1 := Option.some.inj (hNm.symm.trans (C.K.2 1 _ rfl).2)
  subst hcA
  have hlt : ∀ k, k < zn Z → za Z k < H.size := fun k hk => (hW.1 _ _ (wl_get (μ := μ) hk)).lt
  have hZ' : OkZ (zy Z H.size (8, N)) := by
    refine ⟨by show zn Z + 1 ≤ 1000; omega, ⟨fun i hi => ?_, fun i j hi hj e => ?_⟩, fun i hi => ?_⟩
    · have hi : i < zn Z + 1 := hi
      show AA Z (if i = zn Z then H.size else za Z i)
      split
      · exact C.b _ hS.1
      · exact C.ok.2.1.1 i (by omega)
    · have hi : i < zn Z + 1 := hi
      have hj : j < zn Z + 1 := hj
      have e : (if i = zn Z then H.size else za Z i) = (if j = zn Z then H.size else za Z j) := e
      by_cases c1 : i = zn Z
      · by_cases c2 : j = zn Z
        · omega
        · rw [if_pos c1, if_neg c2] at e
          have := hlt j (by omega)
          omega
      · by_cases c2 : j = zn Z
        · rw [if_neg c1, if_pos c2] at e
          have := hlt i (by omega)
          omega
        · rw [if_neg c1, if_neg c2] at e
          exact C.ok.2.1.2 i j (by omega) (by omega) e
    · have hi : ¬ i < zn Z + 1 := hi
      show (if i = zn Z then (8, N) else zk Z i).1 = 99
      rw [if_neg (by omega)]
      exact C.ok.2.2 i (by omega)
  have C' : Cx l (zy Z H.size (8, N)) false X cc own nL ret := ⟨C.1, C.2.1, C.2.2.1, ⟨C.K, hZ'⟩, C.ln, C.b, fun q => by cases q⟩
  refine k H.size C' H1 locs ls ⟨?_, ?_⟩ ⟨Nat.le_trans hS.1 (by omega), fun x h1 h2 => (o1 x (Nat.lt_of_lt_of_le h1 hS.1)).trans (hS.2.1 x h1 h2), hS.2.2⟩ h
  · have ew : wl (zy Z H.size (8, N)) (nwM μ (zn Z)) = wl Z μ ++ [(H.size, .inl (zc Z 1, N, .inl (fun _ => 0)))] := by
      show (List.range (zn Z + 1)).map _ = _
      rw [List.range_succ, List.map_append]
      congr 1
      · apply List.map_congr_left
        intro k hk
        have hk := List.mem_range.mp hk
        have e1 : zk (zy Z H.size (8, N)) k = zk Z k := by
          show (if k = zn Z then (8, N) else zk Z k) = zk Z k
          rw [if_neg (by omega)]
        show ((if k = zn Z then H.size else za Z k), ce (zy Z H.size (8, N)) (nwM μ (zn Z)) k) = (za Z k, ce Z μ k)
        rw [if_neg (by omega), ce_int (by rw [e1]; exact hI k hk), ce_int (hI k hk), e1]
        show (za Z k, Sum.inl (zc Z 1, (zk Z k).2, Sum.inl (upR μ.1 (zn Z) (fun _ => 0) k))) = _
        rw [upR_row _ (by omega)]
      · have e1 : zk (zy Z H.size (8, N)) (zn Z) = (8, N) := by
          show (if zn Z = zn Z then (8, N) else zk Z (zn Z)) = (8, N)
          rw [if_pos rfl]
        show [((if zn Z = zn Z then H.size else za Z (zn Z)), ce (zy Z H.size (8, N)) (nwM μ (zn Z)) (zn Z))] = _
        rw [if_pos rfl, ce_int (by rw [e1]), e1]
        show [(H.size, Sum.inl (zc Z 1, N, Sum.inl (upR μ.1 (zn Z) (fun _ => 0) (zn Z))))] = _
        rw [upR_self]
    rw [ew]
    have hk : ∀ (k : Nat) (x : Nat × va_E), (wl Z μ)[k]? = some x → H1[x.1]? = H[x.1]? := fun k x hx => o1 x.1 ((hW.1 k x hx).lt)
    refine (va_P.kept hW.1 hk).app (fun k x hx => ?_)
    have hz : k < 1 := (List.getElem?_eq_some_iff.mp hx).1
    rw [show k = 0 by omega] at hx
    cases hx
    exact e1
  · exact ST.ad (fun i hi => by
      show (if i = zn Z then H.size else za Z i) = za Z i
      rw [if_neg (by omega)]) (ST.kept hW.2 (fun a ha _ => o1 a ha))
def qL_unread : List (Nat × Instr × Nat) := [(0, .bipush 14, 2), (2, .newarray .int, 2), (4, .astore 6, 2), (6, .bipush 24, 2), (8, .newarray .int, 2), (10, .astore 7, 2), (12, .bipush 24, 2), (14, .newarray .int, 2), (16, .astore 8, 2), (18, .aload_n 0, 1), (19, .aload 6, 2), (21, .invokestatic 70, 3), (24, .aload_n 1, 1), (25, .aload 7, 2), (27, .invokestatic 70, 3), (30, .aload_n 2, 1), (31, .aload 8, 2), (33, .invokestatic 70, 3), (36, .aload 6, 2), (38, .aload 7, 2), (40, .aload 8, 2), (42, .bipush 24, 2), (44, .newarray .int, 2), (46, .aload_n 3, 1), (47, .iload 4, 2), (49, .iload 5, 2), (51, .invokestatic 74, 3), (54, .ireturn, 1)]
theorem kL_unread : ∀ q ∈ qL_unread, decode cL_unread q.1 = .ok q.2 := by decide +kernel
set_option maxRecDepth 100000 in
set_option maxHeartbeats 4000000 in
theorem ct_L_unread {l : Launch} {Z : ZZ} {μ : Mm} {a0 a1 a2 a3 : Nat} {a4 a5 r : Int32} (k0 : (zk Z a0).1 = 8) (k1 : (zk Z a1).1 = 8) (k2 : (zk Z a2).1 = 8) (k3 : (zk Z a3).1 = 8) (h : f_L_unread (zk Z) μ a0 a1 a2 a3 a4 a5 = some r) : CtM l Z false yL_unread cL_unread 9 (some .int) 2 4 86 [.ref (za Z a0), .ref (za Z a1), .ref (za Z a2), .ref (za Z a3), .int a4, .int a5] μ (some (.int r)) Z μ := by
  unfold f_L_unread at h
  obtain ⟨⟨n01, n02, n03, n12, n13, n23⟩, h⟩ := gd_inv h
  obtain ⟨μ1, e1, h⟩ := bd_inv h
  obtain ⟨μ2, e2, h⟩ := bd_inv h
  obtain ⟨μ3, e3, h⟩ := bd_inv h
  obtain ⟨q, e4, h⟩ := bd_inv h
  obtain ⟨⟨r0, r1, r2, r3⟩, h⟩ := @gd_inv _ _ (Classical.propDecidable _) _ _ h
  obtain ⟨v, μ4⟩ := q
  have h9 : v = r := Option.some.inj h
  subst h9
  refine Met.ofW (cc := cL_unread) (maxL := 9) (ret := some .int) (ws' := TB) rfl rfl ?_
  intro p e s m args below meth c s₁ B hml hv
  obtain ⟨rfl, hW, ⟨hK, hN⟩, hZ, hb, hx⟩ := hv
  have hts := atoms_spec (ws := Cond.code yL_unread cL_unread 9 (some .int) :: TB) B.pre
  have hown : s.vm.findClass RL = some m.cls := findClass_of_methodNamed B.named
  obtain ⟨X, eX⟩ : ∃ X : XX, X = (p, l, e, rmm 2 4 86, s, m, ([.ref (za Z a0), .ref (za Z a1), .ref (za Z a2), .ref (za Z a3), .int a4, .int a5] : List Value).toArray, below, meth, c, MQ below (Qc0 Z (some (.int v)) μ) ([.ref (za Z a0), .ref (za Z a1), .ref (za Z a2), .ref (za Z a3), .int a4, .int a5] : List Value).toArray s 4 86 (AA Z)) := ⟨_, rfl⟩
  have xsX : xs X = s := by rw [eX]; rfl
  obtain ⟨A, eA⟩ : ∃ A : Nat → Prop, A = fun q => AA Z q ∧ ((q = za Z a0 ∨ q = za Z a1 ∨ q = za Z a2 ∨ q = za Z a3) ∨ s.heap.size ≤ q) := ⟨_, rfl⟩
  have t0 := zk_lt hZ k0 (by omega)
  have t1 := zk_lt hZ k1 (by omega)
  have t2 := zk_lt hZ k2 (by omega)
  have t3 := zk_lt hZ k3 (by omega)
  have inj := hZ.2.1.2
  have inA := hZ.2.1.1
  have hAA : ∀ q, A q → AA Z q := fun q hq => by rw [eA] at hq; exact hq.1
  have hnew : ∀ q, s.heap.size ≤ q → A q := fun q hq => by rw [eA]; exact ⟨hb q hq, Or.inr hq⟩
  have m0 : za Z a0 ≠ za Z a1 := fun e => n01 (inj _ _ t0 t1 e)
  have m1 : za Z a0 ≠ za Z a2 := fun e => n02 (inj _ _ t0 t2 e)
  have m2 : za Z a0 ≠ za Z a3 := fun e => n03 (inj _ _ t0 t3 e)
  have m3 : za Z a1 ≠ za Z a2 := fun e => n12 (inj _ _ t1 t2 e)
  have m4 : za Z a1 ≠ za Z a3 := fun e => n13 (inj _ _ t1 t3 e)
  have m5 : za Z a2 ≠ za Z a3 := fun e => n23 (inj _ _ t2 t3 e)
  have hZs : OkZ (zs4 Z A a0 a1 a2 a3) := by
    refine ⟨by show 4 ≤ 1000; omega, ⟨fun i hi => ?_, fun i j hi hj e => ?_⟩, fun i hi => ?_⟩
    · have hi : i < 4 := hi
      rcases (show i = 0 ∨ i = 1 ∨ i = 2 ∨ i = 3 by omega) with rfl | rfl | rfl | rfl
      · show A (za Z a0); rw [eA]; exact ⟨inA _ t0, Or.inl (Or.inl rfl)⟩
      · show A (za Z a1); rw [eA]; exact ⟨inA _ t1, Or.inl (Or.inr (Or.inl rfl))⟩
      · show A (za Z a2); rw [eA]; exact ⟨inA _ t2, Or.inl (Or.inr (Or.inr (Or.inl rfl)))⟩
      · show A (za Z a3); rw [eA]; exact ⟨inA _ t3, Or.inl (Or.inr (Or.inr (Or.inr rfl)))⟩
    · have hi : i < 4 := hi
      have hj : j < 4 := hj
      rcases (show i = 0 ∨ i = 1 ∨ i = 2 ∨ i = 3 by omega) with rfl | rfl | rfl | rfl <;> rcases (show j = 0 ∨ j = 1 ∨ j = 2 ∨ j = 3 by omega) with rfl | rfl | rfl | rfl <;> first | rfl | exact absurd e m0 | exact absurd e m1 | exact absurd e m2 | exact absurd e m3 | exact absurd e m4 | exact absurd e m5 | exact absurd e.symm m0 | exact absurd e.symm m1 | exact absurd e.symm m2 | exact absurd e.symm m3 | exact absurd e.symm m4 | exact absurd e.symm m5
    · have hi : ¬ i < 4 := hi
      show (if i = 0 then zk Z a0 else if i = 1 then zk Z a1 else if i = 2 then zk Z a2 else if i = 3 then zk Z a3 else (99, 0)).1 = 99
      rw [if_neg (by omega), if_neg (by omega), if_neg (by omega), if_neg (by omega)]
  have C0 : Cx l (zs4 Z A a0 a1 a2 a3) false X cL_unread RL 9 (some .int) := by
    rw [eX]
    exact ⟨⟨B.exec, B.bytes, hml⟩, ⟨hown, fun w h => hts w (List.mem_cons_of_mem _ h), hN⟩, ⟨B.notSynchronized, B.returns⟩, ⟨hK, hZs⟩, rfl, hnew, fun q => by cases q⟩
  have E : xR X = rmm 2 4 86 := by rw [eX]; rfl
  have hWs : Wd (zs4 Z A a0 a1 a2 a3) (ms4 μ a0 a1 a2 a3) s s.heap := by
    refine ⟨fun k q hq => ?_, ST.ad (fun i hi => ?_) (ST.narrow hW.2 hAA)⟩
    · obtain ⟨hk, rfl⟩ := wl_inv hq
      have hk : k < 4 := hk
      rcases (show k = 0 ∨ k = 1 ∨ k = 2 ∨ k = 3 by omega) with rfl | rfl | rfl | rfl
      · have g := hW.1 a0 _ (wl_get t0)
        rw [ce_int k0] at g
        rw [ce_int (show (zk (zs4 Z A a0 a1 a2 a3) 0).1 = 8 from k0)]
        exact g
      · have g := hW.1 a1 _ (wl_get t1)
        rw [ce_int k1] at g
        rw [ce_int (show (zk (zs4 Z A a0 a1 a2 a3) 1).1 = 8 from k1)]
        exact g
      · have g := hW.1 a2 _ (wl_get t2)
        rw [ce_int k2] at g
        rw [ce_int (show (zk (zs4 Z A a0 a1 a2 a3) 2).1 = 8 from k2)]
        exact g
      · have g := hW.1 a3 _ (wl_get t3)
        rw [ce_int k3] at g
        rw [ce_int (show (zk (zs4 Z A a0 a1 a2 a3) 3).1 = 8 from k3)]
        exact g
    · show (if i = 0 then za Z a0 else if i = 1 then za Z a1 else if i = 2 then za Z a2 else if i = 3 then za Z a3 else za Z i) = za Z i
      rw [if_neg (by omega), if_neg (by omega), if_neg (by omega), if_neg (by omega)]
  have hI0 : ∀ k, k < 4 → (ks4 (zk Z) a0 a1 a2 a3 k).1 = 8 := by
    intro k hk
    rcases (show k = 0 ∨ k = 1 ∨ k = 2 ∨ k = 3 by omega) with rfl | rfl | rfl | rfl
    · exact k0
    · exact k1
    · exact k2
    · exact k3
  have hIp : ∀ (K : Nat → Nat × Nat) (n N : Nat), (∀ k, k < n → (K k).1 = 8) → ∀ k, k < n + 1 → (ksp K n (8, N) k).1 = 8 := by
    intro K n N hK k hk
    show (if k = n then (8, N) else K k).1 = 8
    by_cases e : k = n
    · rw [if_pos e]
    · rw [if_neg e]; exact hK k (by omega)
  have hI1 := hIp _ 4 14 hI0
  have hI2 := hIp _ 5 24 hI1
  have hI3 := hIp _ 6 24 hI2
  have main : G (zs4 Z A a0 a1 a2 a3) X 9 0 0 0 [(0, .ref (za Z a0)), (1, .ref (za Z a1)), (2, .ref (za Z a2)), (3, .ref (za Z a3)), (4, .int a4), (5, .int a5)] [] (ms4 μ a0 a1 a2 a3) := by
    obtain ⟨x0, ex0⟩ : ∃ x, x = za Z a0 := ⟨_, rfl⟩
    refine g_bipush C0 (v := 14) (by decide) (dk kL_unread 0 rfl) ?_
    refine g_newIy C0 E (show 4 < 1000 by omega) hI0 14 wd_1_53 (by decide) (by decide) (by decide) ⟨by decide, by decide⟩ (dk kL_unread 1 rfl) (fun h4 C1 => ?_)
    refine g_astore C1 (i := 6) (lv' := (6, .ref h4) :: [(0, .ref (za Z a0)), (1, .ref (za Z a1)), (2, .ref (za Z a2)), (3, .ref (za Z a3)), (4, .int a4), (5, .int a5)]) (dk kL_unread 2 rfl) (by decide) rfl ?_
    refine g_bipush C1 (v := 24) (by decide) (dk kL_unread 3 rfl) ?_
    refine g_newIy C1 E (show 5 < 1000 by omega) hI1 24 wd_1_53 (by decide) (by decide) (by decide) ⟨by decide, by decide⟩ (dk kL_unread 4 rfl) (fun h5 C2 => ?_)
    refine g_astore C2 (i := 7) (lv' := (7, .ref h5) :: (6, .ref h4) :: [(0, .ref (za Z a0)), (1, .ref (za Z a1)), (2, .ref (za Z a2)), (3, .ref (za Z a3)), (4, .int a4), (5, .int a5)]) (dk kL_unread 5 rfl) (by decide) rfl ?_
    refine g_bipush C2 (v := 24) (by decide) (dk kL_unread 6 rfl) ?_
    refine g_newIy C2 E (show 6 < 1000 by omega) hI2 24 wd_1_53 (by decide) (by decide) (by decide) ⟨by decide, by decide⟩ (dk kL_unread 7 rfl) (fun h6 C3 => ?_)
    refine g_astore C3 (i := 8) (lv' := (8, .ref h6) :: (7, .ref h5) :: (6, .ref h4) :: [(0, .ref (za Z a0)), (1, .ref (za Z a1)), (2, .ref (za Z a2)), (3, .ref (za Z a3)), (4, .int a4), (5, .int a5)]) (dk kL_unread 8 rfl) (by decide) rfl ?_
    refine g_aload_n C3 (i := 0) 3 rfl rfl (dk kL_unread 9 rfl) ?_
    refine g_aload C3 (i := 6) 2 rfl (dk kL_unread 10 rfl) ?_
    refine g_callS C3 E (rest := []) 2 (ct_L_copies (a0 := 0) (a1 := 4) (μ' := μ1) k0 rfl e1) wd_3_180 mm_L_copies ⟨by decide, by decide, by decide⟩ rfl (by decide) rfl (Nat.le_of_ble_eq_true rfl) (by decide) (dk kL_unread 11 rfl) ?_
    refine g_aload_n C3 (i := 1) 4 rfl rfl (dk kL_unread 12 rfl) ?_
    refine g_aload C3 (i := 7) 1 rfl (dk kL_unread 13 rfl) ?_
    refine g_callS C3 E (rest := []) 2 (ct_L_copies (a0 := 1) (a1 := 5) (μ' := μ2) k1 rfl e2) wd_3_180 mm_L_copies ⟨by decide, by decide, by decide⟩ rfl (by decide) rfl (Nat.le_of_ble_eq_true rfl) (by decide) (dk kL_unread 14 rfl) ?_
    refine g_aload_n C3 (i := 2) 5 rfl rfl (dk kL_unread 15 rfl) ?_
    refine g_aload C3 (i := 8) 0 rfl (dk kL_unread 16 rfl) ?_
    refine g_callS C3 E (rest := []) 2 (ct_L_copies (a0 := 2) (a1 := 6) (μ' := μ3) k2 rfl e3) wd_3_180 mm_L_copies ⟨by decide, by decide, by decide⟩ rfl (by decide) rfl (Nat.le_of_ble_eq_true rfl) (by decide) (dk kL_unread 17 rfl) ?_
    refine g_aload C3 (i := 6) 2 rfl (dk kL_unread 18 rfl) ?_
    refine g_aload C3 (i := 7) 1 rfl (dk kL_unread 19 rfl) ?_
    refine g_aload C3 (i := 8) 0 rfl (dk kL_unread 20 rfl) ?_
    refine g_bipush C3 (v := 24) (by decide) (dk kL_unread 21 rfl) ?_
    refine g_newIy C3 E (show 7 < 1000 by omega) hI3 24 wd_1_53 (by decide) (by decide) (by decide) ⟨by decide, by decide⟩ (dk kL_unread 22 rfl) (fun h7 C4 => ?_)
    refine g_aload_n C4 (i := 3) 6 rfl rfl (dk kL_unread 23 rfl) ?_
    refine g_iload C4 (i := 4) 7 rfl (dk kL_unread 24 rfl) ?_
    refine g_iload C4 (i := 5) 8 rfl (dk kL_unread 25 rfl) ?_
    refine g_callS C4 E (rest := []) 7 (ct_L_lines (a0 := 4) (a1 := 5) (a2 := 6) (a3 := 7) (a4 := 3) (a5 := a4) (a6 := a5) (r := v) (μ' := μ4) rfl rfl rfl rfl k3 e4) wd_3_183 mm_L_lines ⟨by decide, by decide, by decide⟩ rfl (by decide) rfl (Nat.le_of_ble_eq_true rfl) (by decide) (dk kL_unread 26 rfl) ?_
    intro H locs ls hWf hS hl
    have hS : va_S A s.heap H locs := by rw [xsX] at hS; exact hS
    have hWf : Wd (zy (zy (zy (zy (zs4 Z A a0 a1 a2 a3) h4 (8, 14)) h5 (8, 24)) h6 (8, 24)) h7 (8, 24)) μ4 s H := by rw [xsX] at hWf; exact hWf
    have hWb : va_P (zD Z) vwCl (wl Z μ) H := by
      intro k q hq
      obtain ⟨hk, rfl⟩ := wl_inv hq
      by_cases c0 : k = a0
      · subst c0
        have g := hWf.1 0 _ (wl_get (show 0 < 8 by omega))
        rw [ce_int k0, show μ.1 k = μ4.1 0 from r0.symm]
        rw [ce_int (show (zk (zy (zy (zy (zy (zs4 Z A k a1 a2 a3) h4 (8, 14)) h5 (8, 24)) h6 (8, 24)) h7 (8, 24)) 0).1 = 8 from k0)] at g
        exact g
      by_cases c1 : k = a1
      · subst c1
        have g := hWf.1 1 _ (wl_get (show 1 < 8 by omega))
        rw [ce_int k1, show μ.1 k = μ4.1 1 from r1.symm]
        rw [ce_int (show (zk (zy (zy (zy (zy (zs4 Z A a0 k a2 a3) h4 (8, 14)) h5 (8, 24)) h6 (8, 24)) h7 (8, 24)) 1).1 = 8 from k1)] at g
        exact g
      by_cases c2 : k = a2
      · subst c2
        have g := hWf.1 2 _ (wl_get (show 2 < 8 by omega))
        rw [ce_int k2, show μ.1 k = μ4.1 2 from r2.symm]
        rw [ce_int (show (zk (zy (zy (zy (zy (zs4 Z A a0 a1 k a3) h4 (8, 14)) h5 (8, 24)) h6 (8, 24)) h7 (8, 24)) 2).1 = 8 from k2)] at g
        exact g
      by_cases c3 : k = a3
      · subst c3
        have g := hWf.1 3 _ (wl_get (show 3 < 8 by omega))
        rw [ce_int k3, show μ.1 k = μ4.1 3 from r3.symm]
        rw [ce_int (show (zk (zy (zy (zy (zy (zs4 Z A a0 a1 a2 k) h4 (8, 14)) h5 (8, 24)) h6 (8, 24)) h7 (8, 24)) 3).1 = 8 from k3)] at g
        exact g
      have g := hW.1 k _ (wl_get hk)
      have glt : za Z k < s.heap.size := g.lt
      refine g.kept (hS.2.1 (za Z k) glt (fun hA => ?_))
      rw [eA] at hA
      rcases hA.2 with (e | e | e | e) | e
      · exact c0 (inj _ _ hk t0 e)
      · exact c1 (inj _ _ hk t1 e)
      · exact c2 (inj _ _ hk t2 e)
      · exact c3 (inj _ _ hk t3 e)
      · omega
    have hSb : ST (za Z) (AA Z) s H := ST.kept hW.2 (fun a ha hna => hS.2.1 a ha (fun q => hna (hAA a q)))
    have hF : s.heap.size ≤ H.size ∧ ∀ q : Nat, q < s.heap.size → ¬ AA Z q → H[q]? = s.heap[q]? := ⟨hS.1, fun q h1 h2 => hS.2.1 q h1 (fun z => h2 (hAA q z))⟩
    rw [eX]
    exact W.widen (Nat.le_of_ble_eq_true rfl) (Nat.le_of_ble_eq_true rfl) (W.zret (ty := .int) B.exec B.bytes B.returns rfl (fun t ht hw => ⟨⟨rfl, by rw [ht]; exact ⟨hWb, ST.moved hw.alike hSb⟩⟩, by unfold va_F; rw [ht]; exact hF⟩) (fun q hq => hAA _ (hS.2.2 q hq)) (dk kL_unread 27 rfl) B.notSynchronized)
  have hl := lv_entry ([.ref (za Z a0), .ref (za Z a1), .ref (za Z a2), .ref (za Z a3), .int a4, .int a5] : List Value) (n := 9) (Nat.le_of_ble_eq_true rfl)
  rw [lg_entry_eq]
  rw [eX] at main
  exact main s.heap [] _ hWs va_S.rf hl
end Small
