/-! MAKING: the world with more objects; rows for new, for arrays, for constructors -/
section CopyI
variable {p : Program} {l : Launch} {e : Env} {R : Room} {s : State} {m : MethodId} {args : Array Value} {below : List Frame} {meth : Method} {c : Code} {H : Heap} {locs : List Loc} {cells slots : Nat} {Q : State → Prop}
variable {cc : ByteArray} {pc : Nat} {ls : Array Slot} {rest : List Value} {D : va_G} {cl : List vw_C} {A : Nat → Prop} {a : Nat} {tys : List (ClassId × FieldType)} {ws : va_W} {H0 : Heap}
variable {cc : ByteArray}
theorem vi_copyt (hexec : p.tables.exec = Jvm.exec) (hb : c.code = cc) (hml : c.maxLocals = ls.size) {own : String} {index : Nat} (hown : s.vm.findClass own = some m.cls) (hlink : (Cond.methodLink own index arraycopyName).before args s = true) (hnat : (Cond.native arraycopyName).before args s = true) (hstat : (Cond.static arraycopyName).before args s = true) (hini : (Cond.initialized "java/lang/System").before args s = true)
    (hK : va_K D cl tys s) (hP : va_P D cl ws H) (hD : va_D A ws) (hS : va_S A s.heap H locs) {b0 n0 : Nat} {f : Nat → Int32} (hX : va_T .int b0 n0 (fun j => .int (f j)) A s s.heap) (q1 t1 : Nat) {c1 : ClassId} {n1 : Nat} {g : Nat → Int32} (ha1 : ws[q1]? = some (a, .inl (c1, n1, .inl g))) (ht1 : tys[t1]? = some (c1, .int))
    {sp dp n : Int32} (h1 : ¬ sp < 0) (h2 : ¬ dp < 0) (h3 : ¬ n < 0) (h4 : sp.toNatClampNeg + n.toNatClampNeg ≤ n0) (h5 : dp.toNatClampNeg + n.toNatClampNeg ≤ n1) (hfit : ∀ i : Nat, i < n.toNatClampNeg → fits .int (.int (f (sp.toNatClampNeg + i))) = true)
    (hframes : 1 ≤ R.frames) (hlocals : (rest.map fun v => v.category).sum + (nativeFrameWords "java/lang/System" "arraycopy" 5 + 11) ≤ R.locals) (hdg : decode cc pc = .ok (.invokestatic index, 3))
    (kk : ∀ (H1 : Heap) (locs1 : List Loc), va_P D cl (ws.set q1 (a, .inl (c1, n1, .inl (va_cpy f g sp.toNatClampNeg dp.toNatClampNeg n.toNatClampNeg)))) H1 → va_D A (ws.set q1 (a, .inl (c1, n1, .inl (va_cpy f g sp.toNatClampNeg dp.toNatClampNeg n.toNatClampNeg)))) → va_S A s.heap H1 locs1 → W p l e R s m args below meth c H1 locs1 cells slots Q (F0 m (pc + 3) ls rest)) : W p l e R s m args below meth c H locs cells slots Q (F0 m pc ls (.int n :: .int dp :: .ref a :: .int sp :: .ref b0 :: rest)) := by
  have nn : ∀ z : Int32, ¬ z < 0 → z.toInt = (z.toNatClampNeg : Int) := by
    intro z hz
    have hz0 : (0 : Int) ≤ z.toInt := by
      have := Int32.not_lt.mp hz
      simpa using Int32.le_iff_toInt_le.mp this
    show z.toInt = ((z.toInt.toNat : Nat) : Int)
    omega
  intro T hT X
  obtain ⟨scr, hs1, hs2, hs3, hs4, -, hs5, hs7⟩ := hX
  have hc0 : H[b0]? = some scr := by rw [hS.2.1 b0 (Array.getElem?_eq_some_iff.mp hs1).1 hs7]; exact hs1
  have hc1 : H[a]? = some (vp_cell c1 (n1, .inl g)) := hP q1 _ ha1
  obtain ⟨hs6, k0, hk0, cm0, hkk0⟩ := hs2
  obtain ⟨-, k1, hk1, cm1, hkk1⟩ := (hK.2 t1 _ ht1).1 n1 (fun j => .int (g j))
  obtain ⟨vm', X', step⟩ := X.arraycopy hexec hown hlink hnat hstat hini (src := b0) (dst := a) (cs := scr) (cd := vp_cell c1 (n1, .inl g)) (srcPos := sp) (destPos := dp) (n := n) (by rw [hT]; exact hc0) (by rw [hT]; exact hc1)
    hs6 (fun _ h => by cases h) hs3 (fun h => by cases h) hk0 hk1 hkk0 hkk1 (by simp [refKind]) h1 h2 h3
    (by rw [nn sp h1, nn n h3]; omega)
    (by rw [nn dp h2, nn n h3]; show ¬ _ > ((arrV c1 n1 (fun j => .int (g j))).slots.size : Int); rw [arrV_size]; omega)
    (fun vm₁ _ i hi => by
      have e : scr.slots.getD (sp.toNatClampNeg + i) .null = .int (f (sp.toNatClampNeg + i)) := by
        rw [Array.getD_eq_getD_getElem?, hs5 _ (by omega)]
        rfl
      refine ⟨?_, ?_⟩
      · rw [e]
        exact hfit i hi
      · rw [e]
        exact trivial)
    (g := F0 m pc ls (.int n :: .int dp :: .ref a :: .int sp :: .ref b0 :: rest)) rfl (by rw [hml]) (rest := rest) rfl (by rw [hb]; exact hdg) hframes (by show 2 * 0 + _ + _ ≤ _; omega)
  have e1 : copied scr (vp_cell c1 (n1, .inl g)) sp dp n = vp_cell c1 (n1, .inl (va_cpy f g sp.toNatClampNeg dp.toNatClampNeg n.toNatClampNeg)) := va_copiedX (fun z => .int z) scr c1 f g hs5 h4
  rw [e1] at X' step
  have hl : a < H.size := (Array.getElem?_eq_some_iff.mp hc1).1
  have hheap : ((T.setVm vm').setCell a (vp_cell c1 (n1, .inl (va_cpy f g sp.toNatClampNeg dp.toNatClampNeg n.toNatClampNeg)))).heap = H.setIfInBounds a (vp_cell c1 (n1, .inl (va_cpy f g sp.toNatClampNeg dp.toNatClampNeg n.toNatClampNeg))) := by rw [← hT]; rfl
  have oq : ∀ q : Nat, q ≠ a → (H.setIfInBounds a (vp_cell c1 (n1, .inl (va_cpy f g sp.toNatClampNeg dp.toNatClampNeg n.toNatClampNeg))))[q]? = H[q]? := fun q hq => by simp [Array.getElem?_setIfInBounds, Ne.symm hq]
  obtain ⟨t, a1, b1⟩ := kk _ _ (hP.set hD ha1 (show (H.setIfInBounds a _)[a]? = some _ by simp [Array.getElem?_setIfInBounds, hl]) oq) (hD.set ha1) ⟨by simp; exact hS.1, fun q g1 g2 => by
      rw [oq q (fun e => g2 (by rw [e]; exact hD.2 q1 _ ha1))]
      exact hS.2.1 q g1 g2, fun q hq => by
      rcases List.mem_append.mp hq with h | h
      · exact hS.2.2 q h
      · obtain ⟨z, -, hz⟩ := List.mem_map.mp h
        rw [← hz]
        exact hD.2 q1 _ ha1⟩ _ hheap X'
  exact ⟨t, step t a1, b1⟩
end CopyI
section Ctor
def zx (Z : ZZ) (L : List (Nat × Nat)) : ZZ := (AA Z, zb Z, za Z, Z.2.2.2.1, Z.2.2.2.2.1, zc Z, fun i => if i < zn Z then zk Z i else L.getD (i - zn Z) (99, 0), zn Z + L.length)
def nwM (μ : Mm) (k : Nat) : Mm := (upR μ.1 k (fun _ => 0), upR μ.2.1 k (fun _ => none), upR μ.2.2 k (fun _ => 0))
theorem zx_k {Z : ZZ} {L : List (Nat × Nat)} (i : Nat) {c n : Nat} (h : L[i]? = some (c, n)) : zk (zx Z L) (zn Z + i) = (c, n) := by
  show (if zn Z + i < zn Z then zk Z (zn Z + i) else L.getD (zn Z + i - zn Z) (99, 0)) = (c, n)
  rw [if_neg (by omega), show zn Z + i - zn Z = i by omega, List.getD_eq_getElem?_getD, h]
  rfl
theorem zx_k1 {Z : ZZ} {L : List (Nat × Nat)} (i : Nat) {c n : Nat} (h : L[i]? = some (c, n)) : (zk (zx Z L) (zn Z + i)).1 = c := by rw [zx_k i h]
theorem zx_o {Z : ZZ} {L : List (Nat × Nat)} {b : Nat} (h : b < zn Z) : zk (zx Z L) b = zk Z b := if_pos h
theorem zx_o1 {Z : ZZ} {L : List (Nat × Nat)} {b c : Nat} (hZ : OkZ Z) (h : (zk Z b).1 = c) (hc : c < 99) : (zk (zx Z L) b).1 = c := by rw [zx_o (zk_lt hZ h hc)]; exact h
theorem zx_zx {Z : ZZ} {L M : List (Nat × Nat)} : zx (zx Z L) M = zx Z (L ++ M) := by
  have e : (fun i => if i < zn Z + L.length then (if i < zn Z then zk Z i else L.getD (i - zn Z) (99, 0)) else M.getD (i - (zn Z + L.length)) (99, 0)) = (fun i => if i < zn Z then zk Z i else (L ++ M).getD (i - zn Z) (99, 0)) := by
    funext i
    by_cases h1 : i < zn Z
    · rw [if_pos (by omega), if_pos h1, if_pos h1]
    · rw [if_neg h1]
      by_cases h2 : i < zn Z + L.length
      · rw [if_pos h2, if_neg h1, List.getD_eq_getElem?_getD, List.getD_eq_getElem?_getD, List.getElem?_append_left (by omega)]
      · rw [if_neg h2, List.getD_eq_getElem?_getD, List.getD_eq_getElem?_getD, List.getElem?_append_right (by omega), show i - zn Z - L.length = i - (zn Z + L.length) by omega, if_neg h1]
  show (AA Z, zb Z, za Z, Z.2.2.2.1, Z.2.2.2.2.1, zc Z, (fun i => if i < zn Z + L.length then (if i < zn Z then zk Z i else L.getD (i - zn Z) (99, 0)) else M.getD (i - (zn Z + L.length)) (99, 0)), zn Z + L.length + M.length) = _
  rw [e, Nat.add_assoc, ← List.length_append]
  rfl
theorem zx_nil {Z : ZZ} (hZ : OkZ Z) : Wd (zx Z []) = Wd Z := by
  have e : wl (zx Z []) = wl Z := by
    funext μ
    show (List.range (zn Z + 0)).map _ = (List.range (zn Z)).map _
    rw [Nat.add_zero]
    apply List.map_congr_left
    intro k hk
    have hk := List.mem_range.mp hk
    show (za Z k, ce (zx Z []) μ k) = (za Z k, ce Z μ k)
    unfold ce
    rw [zx_o hk]
    rfl
  funext μ U H
  unfold Wd
  rw [e]
  rfl
theorem ok_zx {Z : ZZ} {L : List (Nat × Nat)} (hct : CT Z) (hZ : OkZ Z) (h : zn Z + L.length ≤ 1000) : OkZ (zx Z L) := by
  refine ⟨h, ⟨fun i hi => ?_, fun i j hi hj e => ?_⟩, fun i hi => ?_⟩
  · have hi : i < zn Z + L.length := hi
    refine (hct.2 _).mpr ?_
    show zb Z ≤ za Z i
    rw [hct.1 i (by omega)]
    omega
  · have hi : i < zn Z + L.length := hi
    have hj : j < zn Z + L.length := hj
    have e : za Z i = za Z j := e
    rw [hct.1 i (by omega), hct.1 j (by omega)] at e
    omega
  have hi : ¬ i < zn Z + L.length := hi
  show (if i < zn Z then zk Z i else L.getD (i - zn Z) (99, 0)).1 = 99
  rw [if_neg (by omega), List.getD_eq_getElem?_getD, List.getElem?_eq_none (by omega)]
  rfl
theorem ce_zx {Z : ZZ} {L : List (Nat × Nat)} {μ : Mm} {k n : Nat} (hk : k < zn Z) (hn : k ≠ n) : ce (zx Z L) (nwM μ n) k = ce Z μ k := by
  rw [ce_cong (μ := μ) (μ' := nwM μ n) (upR_row _ hn) (upR_row _ hn) (upR_row _ hn)]
  unfold ce
  rw [zx_o hk]
  rfl
theorem wl_push {Z : ZZ} {c n : Nat} {μ : Mm} : wl (zx Z [(c, n)]) (nwM μ (zn Z)) = wl Z μ ++ [(za Z (zn Z), ce (zx Z [(c, n)]) (nwM μ (zn Z)) (zn Z))] := by
  show (List.range (zn Z + 1)).map _ = _
  rw [List.range_succ, List.map_append]
  congr 1
  apply List.map_congr_left
  intro k hk
  have hk := List.mem_range.mp hk
  show (za Z k, ce (zx Z [(c, n)]) (nwM μ (zn Z)) k) = (za Z k, ce Z μ k)
  rw [ce_zx hk (by omega)]
variable {l : Launch} {Z Z' : ZZ} {ex : Bool} {X : XX} {cc : ByteArray} {own : String} {nL : Nat} {ret : Option FieldType} {d mc ms : Nat} {o : Option Value} {μ μ' : Mm} {cells slots pc : Nat} {lv lv' : List (Nat × Value)} {rest : List Value}
theorem cx_zx {L : List (Nat × Nat)} (hct : CT Z) (C : Cx l Z ex X cc own nL ret) (h : zn Z + L.length ≤ 1000) : Cx l (zx Z L) false X cc own nL ret :=
  ⟨C.1, C.2.1, C.2.2.1, ⟨C.K, ok_zx hct C.ok h⟩, C.ln, C.b, fun q => by cases q⟩
/-- how large the heap is -/
theorem hsize (C : Cx l Z ex X cc own nL ret) {H : Heap} {locs : List Loc} {T : State} (hsz : CT Z ∧ (xs X).heap.size + cells = zb Z + zn Z) (hW : Wd Z μ (xs X) H) (hS : va_S (AA Z) (xs X).heap H locs) (hT : T.heap = H) (X0 : Stand (xp X) (xl X) (xe X) (xR X) (xs X) (xm X) (xa X) (xb X) (xh X) (xc X) T locs cells slots) : H.size = zb Z + zn Z := by
  have h1 := X0.heapSize
  rw [hT] at h1
  have h2 : zb Z + zn Z ≤ H.size := by
    by_cases h : zn Z = 0
    · have h3 := hS.1
      have h4 := hsz.2
      by_cases h9 : zb Z ≤ (xs X).heap.size
      · omega
      · exact absurd ((hsz.1.2 _).mp (C.b _ (Nat.le_refl _))) h9
    · have hk : zn Z - 1 < zn Z := by omega
      have := (hW.1 _ _ (wl_get (μ := μ) hk)).lt
      have e : za Z (zn Z - 1) = zb Z + (zn Z - 1) := hsz.1.1 _ (by have := C.ok.1; omega)
      have h3 : za Z (zn Z - 1) < H.size := this
      omega
  have h5 := hsz.2
  omega
theorem g_viaH (C : Cx l Z ex X cc own nL ret) (hsz : CT Z ∧ (xs X).heap.size + cells = zb Z + zn Z) (k : ∀ (H : Heap) (locs : List Loc) (ls : Array Slot), Wd Z μ (xs X) H → va_S (AA Z) (xs X).heap H locs → lv_has ls nL lv → H.size = zb Z + zn Z → W (xp X) (xl X) (xe X) (xR X) (xs X) (xm X) (xa X) (xb X) (xh X) (xc X) H locs cells slots (xQ X) (F0 (xm X) pc ls rest)) : G Z X nL cells slots pc lv rest μ := by
  intro H locs ls hW hS h T hT X0
  exact k H locs ls hW hS h (hsize C hsz hW hS hT X0) T hT X0
theorem wd_push (C : Cx l Z ex X cc own nL ret) {H H1 : Heap} {locs : List Loc} {c n : Nat} (hW : Wd Z μ (xs X) H) (hS : va_S (AA Z) (xs X).heap H locs) (hH : H.size = zb Z + zn Z) (z1 : H1.size = H.size + 1) (o1 : ∀ q, q < H.size → H1[q]? = H[q]?)
    (e1 : va_at (zD Z) vwCl (za Z (zn Z), ce (zx Z [(c, n)]) (nwM μ (zn Z)) (zn Z)) H1) : Wd (zx Z [(c, n)]) (nwM μ (zn Z)) (xs X) H1 ∧ va_S (AA Z) (xs X).heap H1 locs := by
  have hk : ∀ (k : Nat) (x : Nat × va_E), (wl Z μ)[k]? = some x → H1[x.1]? = H[x.1]? := fun k x hx => o1 x.1 ((hW.1 k x hx).lt)
  refine ⟨⟨?_, ST.kept hW.2 (fun a ha _ => o1 a ha)⟩, ⟨Nat.le_trans hS.1 (by omega), fun x h1 h2 => (o1 x (Nat.lt_of_lt_of_le h1 hS.1)).trans (hS.2.1 x h1 h2), hS.2.2⟩⟩
  rw [wl_push]
  refine (va_P.kept hW.1 hk).app (fun k x hx => ?_)
  have hz : k < 1 := (List.getElem?_eq_some_iff.mp hx).1
  rw [show k = 0 by omega] at hx
  cases hx
  exact e1
theorem g_new (C : Cx l Z ex X cc own nL ret) (E : xR X = rmm d mc ms) (hsz : CT Z ∧ (xs X).heap.size + cells = zb Z + zn Z) (h1000 : zn Z < 1000) {CN : String} {T : u_T} {ty : Nat → FieldType} {N c index : Nat} (hin : ∀ w ∈ u_ws CN T N, w ∈ TB) (hty : ∀ k, k < N → parseFieldDescriptor (T k).2.2.1 = some (ty k)) (hc : vwCl[c]? = some (CN, T, N)) (hc7 : c < 7)
    (w1 : Cond.classLink own index CN ∈ TB) (w2 : Cond.instantiable CN N ∈ TB) (w3 : Cond.initialized CN ∈ TB) (hfs : ∀ k : Nat, ∀ μ : Mm, (∀ j, μ.1 k j = 0) → (∀ j, μ.2.1 k j = none) → ∀ j, j < N → defaultValue (ty j) = vp_V (flds (zx Z [(c, 0)]) c k μ) j) (hcs : cells + 1 ≤ mc ∧ slots + N ≤ ms) (hd : decode cc pc = .ok (.new index, 3))
    (k : G (zx Z [(c, 0)]) X nL (cells + 1) (slots + N) (pc + 3) lv (.ref (za Z (zn Z)) :: rest) (nwM μ (zn Z))) : G Z X nL cells slots pc lv rest μ := by
  refine g_viaH C hsz (fun H locs ls hW hS h hH => ?_)
  have ez : za Z (zn Z) = zb Z + zn Z := hsz.1.1 _ h1000
  have hKn := C.K.1 c _ hc
  refine W.newcK C.exec C.code C.ow (C.w w1) (C.w w2) (C.w w3) rfl hd (by rw [E]; exact hcs.1) (by rw [E]; exact hcs.2) hKn.2.1 (h := za Z (zn Z)) (by rw [ez]; exact hH) (fun H1 kC hkC e1 z1 o1 => ?_)
  have e0 : (zk (zx Z [(c, 0)]) (zn Z)).1 = c := by rw [show zn Z = zn Z + 0 from rfl, zx_k1 (L := [(c, 0)]) 0 rfl]
  obtain ⟨hW1, hS1⟩ := wd_push (c := c) (n := 0) C hW hS hH (by rw [z1, ez, hH]) (fun q hq => o1 q (by rw [ez, ← hH]; exact hq)) (by
    show va_at _ _ (_, ce _ _ _) _
    rw [ce_obj e0 hc7]
    exact ⟨_, hc, (u_born ty C.ts hin hKn hkC e1 hty).to (hfs _ _ (fun j => by simp [nwM, upR]) (fun j => by simp [nwM, upR]))⟩)
  exact k H1 locs ls hW1 hS1 h
theorem g_newa (C : Cx l Z ex X cc own nL ret) (E : xR X = rmm d mc ms) (hsz : CT Z ∧ (xs X).heap.size + cells = zb Z + zn Z) (h1000 : zn Z < 1000) {atype : ArrayType} {ty : FieldType} (hty : newarray.typeOf atype = ty) (t c N : Nat) {n : Int32} (w1 : Cond.arrayClass ty ∈ TB) (ht : (zT Z)[t]? = some (zc Z t, ty)) (hRA : ∀ cA, va_RA (xs X) (zc Z t) ty → (xs X).vm.findClass ("[" ++ ty.toString) = some cA → cA = zc Z t)
    (a9 : vp_A) (hce : ce (zx Z [(c, N)]) (nwM μ (zn Z)) (zn Z) = .inl (zc Z t, a9)) (hcell : vp_cell (zc Z t) a9 = arrV (zc Z t) N (fun _ => defaultValue ty)) (hn : ¬ n < 0) (hN : n.toNatClampNeg = N) (hbytes : N * componentBytes ty ≤ 536870912) (hcs : cells + 1 ≤ mc ∧ slots + N ≤ ms) (hd : decode cc pc = .ok (.newarray atype, 2))
    (k : G (zx Z [(c, N)]) X nL (cells + 1) (slots + N) (pc + 2) lv (.ref (za Z (zn Z)) :: rest) (nwM μ (zn Z))) : G Z X nL cells slots pc lv (.int n :: rest) μ := by
  subst hty
  refine g_viaH C hsz (fun H locs ls hW hS h hH => ?_)
  have ez : za Z (zn Z) = zb Z + zn Z := hsz.1.1 _ h1000
  refine va_newaK C.exec C.code (C.w w1) rfl hd rfl hn hN hbytes (by rw [E]; exact hcs.1) (by rw [E]; exact hcs.2) (h := za Z (zn Z)) (by rw [ez]; exact hH) (fun H1 cA e1 z1 o1 hAr hNm => ?_)
  have hcA := hRA cA (C.K.2 t _ ht).2 hNm
  subst hcA
  obtain ⟨hW1, hS1⟩ := wd_push (c := c) (n := N) C hW hS hH (by rw [z1, ez, hH]) (fun q hq => o1 q (by rw [ez, ← hH]; exact hq)) (by
    rw [hce]
    show H1[za Z (zn Z)]? = some (vp_cell _ _)
    rw [hcell]
    exact e1)
  exact k H1 locs ls hW1 hS1 h
theorem ce_new8 {N : Nat} : ce (zx Z [(8, N)]) (nwM μ (zn Z)) (zn Z) = .inl (zc Z 1, N, .inl (fun _ => 0)) := by
  have e0 : zk (zx Z [(8, N)]) (zn Z) = (8, N) := by rw [show zn Z = zn Z + 0 from rfl, zx_k (L := [(8, N)]) 0 rfl]
  rw [ce_int (by rw [e0]), e0]
  show Sum.inl (_, _, Sum.inl (upR _ _ _ _)) = _
  rw [upR_self]
  rfl
theorem ce_new7 {N : Nat} : ce (zx Z [(7, N)]) (nwM μ (zn Z)) (zn Z) = .inl (zc Z 0, N, .inl (fun _ => 0)) := by
  have e0 : zk (zx Z [(7, N)]) (zn Z) = (7, N) := by rw [show zn Z = zn Z + 0 from rfl, zx_k (L := [(7, N)]) 0 rfl]
  rw [ce_chr (by rw [e0]), e0]
  show Sum.inl (_, _, Sum.inl (upR _ _ _ _)) = _
  rw [upR_self]
  rfl
theorem g_newI (C : Cx l Z ex X cc own nL ret) (E : xR X = rmm d mc ms) (hsz : CT Z ∧ (xs X).heap.size + cells = zb Z + zn Z) (h1000 : zn Z < 1000) (N : Nat) {n : Int32} (w1 : Cond.arrayClass .int ∈ TB) (hn : ¬ n < 0) (hN : n.toNatClampNeg = N) (hbytes : N * componentBytes .int ≤ 536870912) (hcs : cells + 1 ≤ mc ∧ slots + N ≤ ms) (hd : decode cc pc = .ok (.newarray .int, 2))
    (k : G (zx Z [(8, N)]) X nL (cells + 1) (slots + N) (pc + 2) lv (.ref (za Z (zn Z)) :: rest) (nwM μ (zn Z))) : G Z X nL cells slots pc lv (.int n :: rest) μ :=
  g_newa C E hsz h1000 (atype := .int) (ty := .int) rfl 1 8 N w1 rfl (fun cA h1 h2 => Option.some.inj (h2.symm.trans h1)) _ ce_new8 rfl hn hN hbytes hcs hd k
theorem g_newC (C : Cx l Z ex X cc own nL ret) (E : xR X = rmm d mc ms) (hsz : CT Z ∧ (xs X).heap.size + cells = zb Z + zn Z) (h1000 : zn Z < 1000) (N : Nat) {n : Int32} (w1 : Cond.arrayClass .char ∈ TB) (hn : ¬ n < 0) (hN : n.toNatClampNeg = N) (hbytes : N * componentBytes .char ≤ 536870912) (hcs : cells + 1 ≤ mc ∧ slots + N ≤ ms) (hd : decode cc pc = .ok (.newarray .char, 2))
    (k : G (zx Z [(7, N)]) X nL (cells + 1) (slots + N) (pc + 2) lv (.ref (za Z (zn Z)) :: rest) (nwM μ (zn Z))) : G Z X nL cells slots pc lv (.int n :: rest) μ :=
  g_newa C E hsz h1000 (atype := .char) (ty := .char) rfl 0 7 N w1 rfl (fun cA h1 h2 => Option.some.inj (h2.symm.trans h1)) _ ce_new7 rfl hn hN hbytes hcs hd k
theorem g_newR (C : Cx l Z ex X cc own nL ret) (E : xR X = rmm d mc ms) (hsz : CT Z ∧ (xs X).heap.size + cells = zb Z + zn Z) (h1000 : zn Z < 1000) (N : Nat) {n : Int32} {CN : String} {index : Nat} (c t : Nat) (hct : t = c - 7) (h1 : ¬ c < 9) (h2 : c < 12) (ht : (zT Z)[t]? = some (zc Z (c - 7), .object CN)) (w1 : Cond.classLink own index CN ∈ TB) (w2 : va_AO CN (xs X)) (hn : ¬ n < 0) (hN : n.toNatClampNeg = N) (hbytes : N * 4 ≤ 536870912) (hcs : cells + 1 ≤ mc ∧ slots + N ≤ ms) (hd : decode cc pc = .ok (.anewarray index, 3))
    (k : G (zx Z [(c, N)]) X nL (cells + 1) (slots + N) (pc + 3) lv (.ref (za Z (zn Z)) :: rest) (nwM μ (zn Z))) : G Z X nL cells slots pc lv (.int n :: rest) μ := by
  subst hN
  refine g_viaH C hsz (fun H locs ls hW hS h hH => ?_)
  have ez : za Z (zn Z) = zb Z + zn Z := hsz.1.1 _ h1000
  refine W.anew C.exec C.code C.ow (C.w w1) (va_AO.use w2) rfl hd rfl hn hbytes (by rw [E]; exact hcs.1) (by rw [E]; exact hcs.2) (fun cA kA comp f1 f2 f3 f4 => ?_)
  have hcA : cA = zc Z (c - 7) := by
    obtain ⟨kA2, comp2, g1, g2, g3, g4⟩ := (C.K.2 t _ ht).2
    exact Option.some.inj (f1.symm.trans g4)
  subst hcA
  generalize hH1 : H.push ({ cls := zc Z (c - 7), slots := Array.replicate n.toNatClampNeg .null, vm := .none } : Cell) = H1
  have z1 : H1.size = H.size + 1 := by rw [← hH1, Array.size_push]
  have e1 : H1[H.size]? = some (arrV (zc Z (c - 7)) n.toNatClampNeg (fun _ => .null)) := by rw [← hH1, Array.getElem?_push_size, ← arrV_new]
  have o1 : ∀ q : Nat, q < H.size → H1[q]? = H[q]? := fun q hq => by rw [← hH1, Array.getElem?_push, if_neg (Nat.ne_of_lt hq)]
  have e0 : zk (zx Z [(c, n.toNatClampNeg)]) (zn Z) = (c, n.toNatClampNeg) := by rw [show zn Z = zn Z + 0 from rfl, zx_k (L := [(c, n.toNatClampNeg)]) 0 rfl]
  obtain ⟨hW1, hS1⟩ := wd_push (c := c) (n := n.toNatClampNeg) C hW hS hH z1 o1 (by
    rw [ce_ref (c := c) (by rw [e0]) h1 h2, e0]
    show H1[za Z (zn Z)]? = some (vp_cell _ _)
    rw [ez, ← hH, e1]
    show _ = some (arrV (zc Z (c - 7)) n.toNatClampNeg (fun j => va_rf ((upR μ.2.1 (zn Z) (fun _ => none) (zn Z) j).map _)))
    rw [upR_self]
    rfl)
  have hz : (.ref H.size : Value) = .ref (za Z (zn Z)) := by rw [ez, hH]
  have kk := k H1 locs ls hW1 hS1 h
  rw [← hz] at kk
  exact kk
theorem g_objI (C : Cx l Z ex X cc own nL ret) (E : xR X = rmm d mc ms) {idx : Nat} {a : Nat} (w1 : Cond.methodLink own idx Lib.objectInit ∈ TB) (w2 : Cond.instanceMethod Lib.objectInit ∈ TB) (w3 : Cond.code Lib.objectInit ⟨#[0xb1]⟩ 1 none ∈ TB) (hfr : 1 ≤ d) (hro : (rest.map fun v => v.category).sum + 12 ≤ 40 * d + 4) (hd : decode cc pc = .ok (.invokespecial idx, 3)) (k : G Z X nL cells slots (pc + 3) lv rest μ) : G Z X nL cells slots pc lv (.ref a :: rest) μ := fun H locs ls hW hS h =>
  W.objInit C.exec C.code C.ow (C.w w1) (C.w w2) (C.w w3) rfl (h.1.trans C.ml.symm) rfl hd (by rw [E]; exact hfr) (by
    rw [E]
    show 2 * (F0 (xm X) pc ls (.ref a :: rest)).monitorRoom + _ + 12 ≤ 40 * d + 4
    have : 2 * (F0 (xm X) pc ls (.ref a :: rest)).monitorRoom = 0 := rfl
    omega) (k H locs ls hW hS h)
/-- a call that makes objects: behind it the world is Z' -/
theorem ga_callZ (C : Cx l Z ex X cc own nL ret) {H : Heap} {locs : List Loc} {ls : Array Slot} {st0 : List Value} {a : Array Value} {mc1 ms1 : Nat} {L : List (Nat × Nat)} (hW : Wd Z μ (xs X) H) (hS : va_S (AA Z) (xs X).heap H locs) (hl : lv_has ls nL lv)
    (hr : va_Run (xp X) (xl X) (xe X) (xR X) (xs X) (xm X) (xa X) (xb X) (xh X) (xc X) H locs cells slots mc1 ms1 (F0 (xm X) pc ls st0) rest (Qc0 (zx Z L) o μ' a) (AA Z)) (k : G (zx Z L) X nL (cells + mc1) (slots + ms1) (pc + 3) lv (o.toList ++ rest) μ') :
    W (xp X) (xl X) (xe X) (xR X) (xs X) (xm X) (xa X) (xb X) (xh X) (xc X) H locs cells slots (xQ X) (F0 (xm X) pc ls st0) := by
  intro T hT X1
  obtain ⟨v, st₀, t, T', L1, h0, X', hL, e1, e2, ⟨⟨hv, hb⟩, hz, hk⟩, st⟩ := hr T hT X1
  cases hv
  rw [h0] at hz hk
  have hS1 : va_S (AA Z) (xs X).heap T'.heap (locs ++ L1) := ⟨Nat.le_trans hS.1 (by rw [e1]; exact hz), fun q h1 h2 => by rw [e1, hk q (Nat.lt_of_lt_of_le h1 hS.1) h2]; exact hS.2.1 q h1 h2, fun q hq => by
      rcases List.mem_append.mp hq with h | h
      · exact hS.2.2 q h
      · exact hL q h⟩
  have hW1 : Wd (zx Z L) μ' (xs X) T'.heap := by
    rw [e1]
    exact ⟨hb.1, ST.moved (Vm.Alike.symm (by rw [← e2]; exact X'.warmed.alike)) hb.2⟩
  obtain ⟨t2, a1, b1⟩ := k T'.heap (locs ++ L1) ls hW1 hS1 hl T' rfl X'
  exact ⟨t2, st t2 a1, b1⟩
theorem pc0_atT (C : Cx l Z ex X cc own nL ret) (hct : CT Z) {H : Heap} {av : List Value} {locs : List Loc} (hW : Wd Z μ (xs X) H) (hS : va_S (AA Z) (xs X).heap H locs) (hH : H.size = zb Z + zn Z) : ∀ U : State, U.heap = H → (xs X).WarmedH U.vm → va_Pc av (Pc0 Z true μ) av.toArray U := fun U hU hw =>
  ⟨rfl, by rw [hU]; exact ⟨hW.1, ST.moved hw.alike hW.2⟩, ⟨va_K.moved hw.alike C.K, C.nw.warm hw⟩, C.ok, by rw [hU]; exact fun q hq => C.b q (Nat.le_trans hS.1 hq), fun _ => ⟨by rw [hU]; exact hH, hct⟩⟩
theorem g_callI (C : Cx l Z ex X cc own nL ret) (E : xR X = rmm d mc ms) (hsz : CT Z ∧ (xs X).heap.size + cells = zb Z + zn Z) {y : MethodName} {bytes : ByteArray} {maxL d1 mc1 ms1 index b : Nat} {As st0 : List Value} {L : List (Nat × Nat)} (n : Nat) (hM : CtM l Z true y bytes maxL none d1 mc1 ms1 (.ref b :: As) μ none (zx Z L) μ') (m1 : Cond.methodLink own index y ∈ TB) (m2 : Cond.instanceMethod y ∈ TB) (m3 : Cond.initialized y.cls ∈ TB) (m4 : Cond.code y bytes maxL none ∈ TB)
    (hy1 : y.name = "<init>") (hd1 : y.cls ≠ "java/lang/invoke/MethodHandle" ∧ y.cls ≠ "java/lang/invoke/VarHandle" ∧ (parseMethodDescriptor y.desc).map (fun d => d.parameters.length) = some n) (hn : As.length = n) (hR : d1 + 1 ≤ d ∧ maxL + 19 + 40 * d1 ≤ 40 * d) (hst : st0 = As.reverse ++ .ref b :: rest)
    (hro : (rest.map fun v => v.category).sum ≤ 8) (hcs : cells + mc1 ≤ mc ∧ slots + ms1 ≤ ms) (hdg : decode cc pc = .ok (.invokespecial index, 3)) (k : G (zx Z L) X nL (cells + mc1) (slots + ms1) (pc + 3) lv rest μ') : G Z X nL cells slots pc lv st0 μ := by
  subst hst
  refine g_viaH C hsz (fun H locs ls hW hS h hH => ?_)
  have hM' : Met (xl X) y (Cond.code y bytes maxL none :: TB) (rmm d1 mc1 ms1) (va_Pc (.ref b :: As) (Pc0 Z true μ)) (Qc0 (zx Z L) none μ') mc1 ms1 (AA Z) := by rw [C.ln]; exact hM
  exact ga_callZ (μ := μ) C hW hS h (va_runI (b := b) (As := As) (rest := rest) C.fix hM' (cwI n C.ts (goodC m4) rfl rfl rfl (C.w m3) (C.w m1) (C.w m2) hy1 hd1 (by rw [E]; exact ⟨hR.1, by show 8 + (maxL + 11) + (40 * d1 + 4) ≤ 40 * d + 4; omega⟩)) ⟨pc0_blind, pc0_atT C hsz.1 hW hS hH⟩ rfl hn h.1 rfl (lv_room hro) hdg (by rw [E]; exact hcs)) k
theorem g_callIN (C : Cx l Z ex X cc own nL ret) (E : xR X = rmm d mc ms) (hsz : CT Z ∧ (xs X).heap.size + cells = zb Z + zn Z) {y : MethodName} {bytes : ByteArray} {maxL d1 mc1 ms1 index b : Nat} {host : String} {As st0 : List Value} {L : List (Nat × Nat)} (n : Nat) (hM : CtM l Z true y bytes maxL none d1 mc1 ms1 (.ref b :: As) μ none (zx Z L) μ') (m1 : va_Nw (.methodLinkNest own index y host) (xs X)) (m2 : Cond.instanceMethod y ∈ TB) (m3 : Cond.initialized y.cls ∈ TB) (m4 : Cond.code y bytes maxL none ∈ TB)
    (hy1 : y.name = "<init>") (hd1 : y.cls ≠ "java/lang/invoke/MethodHandle" ∧ y.cls ≠ "java/lang/invoke/VarHandle" ∧ (parseMethodDescriptor y.desc).map (fun d => d.parameters.length) = some n) (hn : As.length = n) (hR : d1 + 1 ≤ d ∧ maxL + 19 + 40 * d1 ≤ 40 * d) (hst : st0 = As.reverse ++ .ref b :: rest)
    (hro : (rest.map fun v => v.category).sum ≤ 8) (hcs : cells + mc1 ≤ mc ∧ slots + ms1 ≤ ms) (hdg : decode cc pc = .ok (.invokespecial index, 3)) (k : G (zx Z L) X nL (cells + mc1) (slots + ms1) (pc + 3) lv rest μ') : G Z X nL cells slots pc lv st0 μ := by
  subst hst
  refine g_viaH C hsz (fun H locs ls hW hS h hH => ?_)
  have hM' : Met (xl X) y (Cond.code y bytes maxL none :: TB) (rmm d1 mc1 ms1) (va_Pc (.ref b :: As) (Pc0 Z true μ)) (Qc0 (zx Z L) none μ') mc1 ms1 (AA Z) := by rw [C.ln]; exact hM
  exact ga_callZ (μ := μ) C hW hS h (va_runIN (b := b) (As := As) (rest := rest) C.fix hM' ⟨va_cnB n C.ts (goodC m4) rfl rfl rfl m1 (C.w m3) hd1 (by rw [E]; exact ⟨hR.1, by show 8 + (maxL + 11) + (40 * d1 + 4) ≤ 40 * d + 4; omega⟩), hy1, C.w m2⟩ ⟨pc0_blind, pc0_atT C hsz.1 hW hS hH⟩ rfl hn h.1 rfl (lv_room hro) hdg (by rw [E]; exact hcs)) k
theorem ct_ofI {y : MethodName} {av : List Value} {Z' : ZZ} (hy : plainName y.cls = true) (ho : y.cls = own) (hlen : (lg_sl av).length ≤ nL)
    (body : ∀ X : XX, Cx l Z true X cc own nL ret → Ex Z X d mc ms o Z' μ' → (xh X).name = y.name → G Z X nL 0 0 0 (lv_args 0 av) [] μ) : CtM l Z true y cc nL ret d mc ms av μ o Z' μ' := by
  refine Met.ofW (cc := cc) (maxL := nL) (ret := ret) (ws' := TB) hy rfl ?_
  intro p e s m args below meth c s₁ B hml hv
  obtain ⟨rfl, hW, ⟨hK, hN⟩, hZ, hb, hx⟩ := hv
  have hts := atoms_spec (ws := Cond.code y cc nL ret :: TB) B.pre
  have hown : s.vm.findClass own = some m.cls := by rw [← ho]; exact findClass_of_methodNamed B.named
  have hg := body (p, l, e, rmm d mc ms, s, m, av.toArray, below, meth, c, MQ below (Qc0 Z' o μ') av.toArray s mc ms (AA Z))
    ⟨⟨B.exec, B.bytes, hml⟩, ⟨hown, fun w h => hts w (List.mem_cons_of_mem _ h), hN⟩, ⟨B.notSynchronized, B.returns⟩, ⟨hK, hZ⟩, rfl, hb, hx⟩ ⟨rfl, rfl⟩ (name_of_methodNamed B.named B.method).1
    s.heap [] _ hW va_S.rf (lv_entry av hlen)
  rw [lg_entry_eq]
  exact hg
theorem g_vretZ {L : List (Nat × Nat)} (C : Cx l Z ex X cc own nL none) (E : Ex Z X d mc ms none (zx Z L) μ) (hc : cells ≤ mc) (hs : slots ≤ ms) (hd : decode cc pc = .ok (.return_, 1)) : G (zx Z L) X nL cells slots pc lv [] μ := fun H locs ls hW hS h => by
  rw [E.1]
  exact W.widen hc hs (W.vret C.exec C.code C.rt (fun t ht hw => ⟨⟨rfl, by rw [ht]; exact ⟨hW.1, ST.moved hw.alike hW.2⟩⟩, by unfold va_F; rw [ht]; exact ⟨hS.1, hS.2.1⟩⟩) hS.2.2 hd C.locks)
theorem g_zeq {Z1 Z2 : ZZ} (e : Z1 = Z2) (k : G Z2 X nL cells slots pc lv rest μ) : G Z1 X nL cells slots pc lv rest μ := e ▸ k
theorem g_zin (hZ : OkZ Z) (k : G (zx Z []) X nL cells slots pc lv rest μ) : G Z X nL cells slots pc lv rest μ := fun H locs ls hW hS h => k H locs ls (by rw [zx_nil hZ]; exact hW) hS h
theorem ob_0 {Z : ZZ} : ∀ k : Nat, ∀ μ : Mm, (∀ j, μ.1 k j = 0) → (∀ j, μ.2.1 k j = none) → ∀ j, j < 6 → defaultValue (tyX1 j) = vp_V (flds (zx Z [(0, 0)]) 0 k μ) j := by
  intro k μ h1 h2 j hj
  match j, hj with
  | 0, _ => simp [vp_V, flds, iv, rv, h1, h2, tyX1, defaultValue, va_rf]
  | 1, _ => simp [vp_V, flds, iv, rv, h1, h2, tyX1, defaultValue, va_rf]
  | 2, _ => simp [vp_V, flds, iv, rv, h1, h2, tyX1, defaultValue, va_rf]
  | 3, _ => simp [vp_V, flds, iv, rv, h1, h2, tyX1, defaultValue, va_rf]
  | 4, _ => simp [vp_V, flds, iv, rv, h1, h2, tyX1, defaultValue, va_rf]
  | 5, _ => simp [vp_V, flds, iv, rv, h1, h2, tyX1, defaultValue, va_rf]
  | q + 6, hq => exact absurd hq (by omega)
theorem ob_1 {Z : ZZ} : ∀ k : Nat, ∀ μ : Mm, (∀ j, μ.1 k j = 0) → (∀ j, μ.2.1 k j = none) → ∀ j, j < 6 → defaultValue (tyX2 j) = vp_V (flds (zx Z [(1, 0)]) 1 k μ) j := by
  intro k μ h1 h2 j hj
  match j, hj with
  | 0, _ => simp [vp_V, flds, iv, rv, h1, h2, tyX2, defaultValue, va_rf]
  | 1, _ => simp [vp_V, flds, iv, rv, h1, h2, tyX2, defaultValue, va_rf]
  | 2, _ => simp [vp_V, flds, iv, rv, h1, h2, tyX2, defaultValue, va_rf]
  | 3, _ => simp [vp_V, flds, iv, rv, h1, h2, tyX2, defaultValue, va_rf]
  | 4, _ => simp [vp_V, flds, iv, rv, h1, h2, tyX2, defaultValue, va_rf]
  | 5, _ => simp [vp_V, flds, iv, rv, h1, h2, tyX2, defaultValue, va_rf]
  | q + 6, hq => exact absurd hq (by omega)
theorem ob_2 {Z : ZZ} : ∀ k : Nat, ∀ μ : Mm, (∀ j, μ.1 k j = 0) → (∀ j, μ.2.1 k j = none) → ∀ j, j < 5 → defaultValue (tyX3 j) = vp_V (flds (zx Z [(2, 0)]) 2 k μ) j := by
  intro k μ h1 h2 j hj
  match j, hj with
  | 0, _ => simp [vp_V, flds, iv, rv, h1, h2, tyX3, defaultValue, va_rf]
  | 1, _ => simp [vp_V, flds, iv, rv, h1, h2, tyX3, defaultValue, va_rf]
  | 2, _ => simp [vp_V, flds, iv, rv, h1, h2, tyX3, defaultValue, va_rf]
  | 3, _ => simp [vp_V, flds, iv, rv, h1, h2, tyX3, defaultValue, va_rf]
  | 4, _ => simp [vp_V, flds, iv, rv, h1, h2, tyX3, defaultValue, va_rf]
  | q + 5, hq => exact absurd hq (by omega)
theorem ob_3 {Z : ZZ} : ∀ k : Nat, ∀ μ : Mm, (∀ j, μ.1 k j = 0) → (∀ j, μ.2.1 k j = none) → ∀ j, j < 5 → defaultValue (tyX4 j) = vp_V (flds (zx Z [(3, 0)]) 3 k μ) j := by
  intro k μ h1 h2 j hj
  match j, hj with
  | 0, _ => simp [vp_V, flds, iv, rv, h1, h2, tyX4, defaultValue, va_rf]
  | 1, _ => simp [vp_V, flds, iv, rv, h1, h2, tyX4, defaultValue, va_rf]
  | 2, _ => simp [vp_V, flds, iv, rv, h1, h2, tyX4, defaultValue, va_rf]
  | 3, _ => simp [vp_V, flds, iv, rv, h1, h2, tyX4, defaultValue, va_rf]
  | 4, _ => simp [vp_V, flds, iv, rv, h1, h2, tyX4, defaultValue, va_rf]
  | q + 5, hq => exact absurd hq (by omega)
theorem ob_4 {Z : ZZ} : ∀ k : Nat, ∀ μ : Mm, (∀ j, μ.1 k j = 0) → (∀ j, μ.2.1 k j = none) → ∀ j, j < 8 → defaultValue (tyX5 j) = vp_V (flds (zx Z [(4, 0)]) 4 k μ) j := by
  intro k μ h1 h2 j hj
  match j, hj with
  | 0, _ => simp [vp_V, flds, iv, rv, h1, h2, tyX5, defaultValue, va_rf]
  | 1, _ => simp [vp_V, flds, iv, rv, h1, h2, tyX5, defaultValue, va_rf]
  | 2, _ => simp [vp_V, flds, iv, rv, h1, h2, tyX5, defaultValue, va_rf]
  | 3, _ => simp [vp_V, flds, iv, rv, h1, h2, tyX5, defaultValue, va_rf]
  | 4, _ => simp [vp_V, flds, iv, rv, h1, h2, tyX5, defaultValue, va_rf]
  | 5, _ => simp [vp_V, flds, iv, rv, h1, h2, tyX5, defaultValue, va_rf]
  | 6, _ => simp [vp_V, flds, iv, rv, h1, h2, tyX5, defaultValue, va_rf]
  | 7, _ => simp [vp_V, flds, iv, rv, h1, h2, tyX5, defaultValue, va_rf]
  | q + 8, hq => exact absurd hq (by omega)
theorem ob_5 {Z : ZZ} : ∀ k : Nat, ∀ μ : Mm, (∀ j, μ.1 k j = 0) → (∀ j, μ.2.1 k j = none) → ∀ j, j < 4 → defaultValue (tyX7 j) = vp_V (flds (zx Z [(5, 0)]) 5 k μ) j := by
  intro k μ h1 h2 j hj
  match j, hj with
  | 0, _ => simp [vp_V, flds, iv, rv, h1, h2, tyX7, defaultValue, va_rf]
  | 1, _ => simp [vp_V, flds, iv, rv, h1, h2, tyX7, defaultValue, va_rf]
  | 2, _ => simp [vp_V, flds, iv, rv, h1, h2, tyX7, defaultValue, va_rf]
  | 3, _ => simp [vp_V, flds, iv, rv, h1, h2, tyX7, defaultValue, va_rf]
  | q + 4, hq => exact absurd hq (by omega)
/-- a copy out of a table -/
theorem g_copyS (C : Cx l Z ex X cc own nL ret) (E : xR X = rmm d mc ms) (k0 : Nat) (hk0 : k0 < 3) {a index : Nat} {sp dp n : Int32} (h1 : (zk Z a).1 = 8) (hg : okc sp dp n (sA k0).length (zk Z a).2) (hfr : 1 ≤ d) (hlo : (rest.map fun v => v.category).sum + (nativeFrameWords "java/lang/System" "arraycopy" 5 + 11) ≤ 40 * d + 4)
    (w1 : (Cond.methodLink own index arraycopyName).before (xa X) (xs X) = true) (w2 : (Cond.native arraycopyName).before (xa X) (xs X) = true) (w3 : (Cond.static arraycopyName).before (xa X) (xs X) = true) (w4 : (Cond.initialized "java/lang/System").before (xa X) (xs X) = true)
    (he : μ' = sIr μ a (va_cpy (fun j => (sA k0).getD j 0) (μ.1 a) (ix sp) (ix dp) (ix n))) (hd : decode cc pc = .ok (.invokestatic index, 3)) (k : G Z X nL cells slots (pc + 3) lv rest μ') : G Z X nL cells slots pc lv (.int n :: .int dp :: .ref (za Z a) :: .int sp :: .ref (za Z (2300 + k0)) :: rest) μ := by
  subst he
  intro H locs ls hW hS h
  have hlt := zk_lt C.ok h1 (by omega)
  refine vi_copyt C.exec C.code (C.ml.trans h.1.symm) C.ow w1 w2 w3 w4 C.K hW.1 (wl_D C.ok μ) hS ((st0 C hW hS).1 k0 hk0).2 a 1 (wl_get hlt |>.trans (by rw [ce_int h1])) rfl hg.1 hg.2.1 hg.2.2.1 hg.2.2.2.1 hg.2.2.2.2 (fun _ _ => rfl) (by rw [E]; exact hfr) (by rw [E]; exact hlo) hd (fun H1 locs1 hP1 hD1 hS1 => ?_)
  rw [wl_set (μ' := sIr μ a (va_cpy (fun j => (sA k0).getD j 0) (μ.1 a) (ix sp) (ix dp) (ix n))) hlt (by rw [ce_int h1]; show _ = Sum.inl (_, _, Sum.inl (upR _ _ _ _)); rw [upR_self]) (fun b hb => ce_sIr hb)] at hP1
  exact k H1 locs1 ls (wd_put C hW hS hS1 hP1) hS1 h
end Ctor
