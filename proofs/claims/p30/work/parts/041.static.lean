/-! STATICS: rows over the words, their letters and the tables -/
section Stat
variable {l : Launch} {Z Z' : ZZ} {ex : Bool} {X : XX} {cc : ByteArray} {own : String} {nL : Nat} {ret : Option FieldType} {d mc ms : Nat} {o : Option Value} {μ μ' : Mm} {cells slots pc : Nat} {lv lv' : List (Nat × Value)} {rest : List Value}
theorem st0 (C : Cx l Z ex X cc own nL ret) {H : Heap} {locs : List Loc} (hW : Wd Z μ (xs X) H) (hS : va_S (AA Z) (xs X).heap H locs) : ST (za Z) (AA Z) (xs X) (xs X).heap :=
  ST.kept hW.2 (fun a ha hna => (hS.2.1 a (C.old hna) hna).symm)
theorem g_gsA (C : Cx l Z ex X cc own nL ret) {index : Nat} (k : Nat) (hk : k < 3) (hlink : (Cond.fieldLink own index (sC k) (sF k) "[I").before (xa X) (xs X) = true) (hd : decode cc pc = .ok (.getstatic index, 3)) (kk : G Z X nL cells slots (pc + 3) lv (.ref (za Z (2300 + k)) :: rest) μ) : G Z X nL cells slots pc lv rest μ := fun H locs ls hW hS h =>
  va_gets C.exec C.code ((st0 C hW hS).1 k hk).1 hS C.ow hlink (fun _ q => q) hd (kk H locs ls hW hS h)
theorem g_gsAN (C : Cx l Z ex X cc own nL ret) {index : Nat} (k : Nat) (hk : k < 3) (hlink : (Cond.fieldLinkNest own index (sC k) (sF k) "[I" "WornDots").before (xa X) (xs X) = true) (hd : decode cc pc = .ok (.getstatic index, 3)) (kk : G Z X nL cells slots (pc + 3) lv (.ref (za Z (2300 + k)) :: rest) μ) : G Z X nL cells slots pc lv rest μ := fun H locs ls hW hS h =>
  va_getsN C.exec C.code ((st0 C hW hS).1 k hk).1 hS C.ow hlink (fun _ q => q) hd (kk H locs ls hW hS h)
theorem g_gsH (C : Cx l Z ex X cc own nL ret) {index : Nat} (hlink : (Cond.fieldLink own index "WornDots$Word" "HEAD" "LWornDots$Word;").before (xa X) (xs X) = true) (hd : decode cc pc = .ok (.getstatic index, 3)) (kk : G Z X nL cells slots (pc + 3) lv (.ref (za Z 2000) :: rest) μ) : G Z X nL cells slots pc lv rest μ := fun H locs ls hW hS h =>
  va_gets C.exec C.code (st0 C hW hS).2.1 hS C.ow hlink (fun _ q => q) hd (kk H locs ls hW hS h)
theorem g_sial (C : Cx l Z ex X cc own nL ret) {i : Int32} (k : Nat) (hk : k < 3) (hi : inb i (sA k).length) (hd : decode cc pc = .ok (.iaload, 1)) (kk : G Z X nL cells slots (pc + 1) lv (.int ((sA k).getD (ix i) 0) :: rest) μ) : G Z X nL cells slots pc lv (.int i :: .ref (za Z (2300 + k)) :: rest) μ := fun H locs ls hW hS h =>
  va_ti C.exec C.code ((st0 C hW hS).1 k hk).2 hS hi rfl hd (kk H locs ls hW hS h)
theorem in_lt {i : Int32} {n : Nat} (h : inb i n) : ix i < n := Nat.not_le.mp (fun q => h (Or.inr q))
end Stat
