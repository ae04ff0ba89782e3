/-! THE LAW's body: its two loops, its end -/
section LawA
/-- what holds of the law's frame all along -/
def LX (l : Launch) (Z : ZZ) (X : XX) (b L : Nat) (sx : Nat → Int32) : Prop := Cx l Z false X cL_law RL 11 ret ∧ xR X = rmm 13 600130 7301080 ∧ zk Z = KF ∧ l.stackTraces = false ∧ SX Z X b L sx
variable {l : Launch} {Z : ZZ} {X : XX} {b L : Nat} {sx : Nat → Int32} {μ μ' : Mm} {cells slots pc : Nat} {lv lv' : List (Nat × Value)} {rest : List Value}
theorem Hk (H : LX l Z X b L sx) : (zk Z 0).1 = 5 ∧ (zk Z 139).1 = 8 ∧ (zk Z 140).1 = 8 ∧ (zk Z 141).1 = 8 ∧ (zk Z 142).1 = 8 ∧ (zk Z 143).1 = 8 ∧ (zk Z 144).1 = 8 := by
  rw [H.2.2.1]
  exact ⟨rfl, rfl, rfl, rfl, rfl, rfl, rfl⟩
theorem pcx_at (C : Cx l Z false X cL_law RL 11 ret) (hs : SX Z X b L sx) {Hp : Heap} {av : List Value} {locs : List Loc} (hW : Wd Z μ (xs X) Hp) (hS : va_S (AA Z) (xs X).heap Hp locs) : ∀ U : State, U.heap = Hp → (xs X).WarmedH U.vm → va_Pc av (Pcx Z μ b L sx) av.toArray U := fun U hU hw => by
  obtain ⟨h1, h2⟩ := pc0_at C (av := av) hW hS U hU hw
  obtain ⟨hX, hb, hz, -⟩ := hs
  refine ⟨h1, h2, ?_, hz⟩
  rw [hU]
  exact va_X.moved hw.alike (va_X.kept hX (hS.2.1 b hb hz))
theorem g_cell (H : LX l Z X b L sx) {k : Nat} (hk : k < 1000) (hro : (rest.map fun v => v.category).sum ≤ 8) (hcs : cells ≤ 600130 ∧ slots ≤ 7301080) (hdg : decode cL_law pc = .ok (.invokestatic 188, 3)) (kk : G Z X 11 cells slots (pc + 3) lv (.int (celV L sx k) :: rest) μ) : G Z X 11 cells slots pc lv (.int (nI k) :: .ref b :: rest) μ := by
  obtain ⟨C, E, -, -, hs⟩ := H
  intro Hp locs ls hW hS h
  have hM' : Met (xl X) yL_cell (Cond.code yL_cell cL_cell 2 (some .int) :: TB) (rmm 0 0 0) (va_Pc [.ref b, .int (nI k)] (Pcx Z μ b L sx)) (Qc0 Z (some (.int (celV L sx k))) μ) 0 0 (AA Z) := by rw [C.ln]; exact ct_L_cell hs.2.2.2 hk
  refine ga_call (μ := μ) (mc1 := 0) (ms1 := 0) C hW hS h (va_runS (As := [.ref b, .int (nI k)]) (rest := rest) C.fix hM' (va_cwS 2 C.ts (goodS (tb1 (List.mem_of_getElem? (i := 200) rfl) rfl) (tb1 (List.mem_of_getElem? (i := 201) rfl) rfl) (tb1 (List.mem_of_getElem? (i := 0) rfl) rfl) (tb1 (List.mem_of_getElem? (i := 202) rfl) rfl)) rfl rfl rfl ⟨by decide, by decide, by decide⟩ (by rw [E]; exact ⟨by show 0 + 1 ≤ 13; omega, by show 8 + (2 + 11) + (40 * 0 + 4) ≤ 40 * 13 + 4; omega⟩)) ⟨pcx_blind, pcx_at C hs hW hS⟩ rfl rfl h.1 rfl (lv_room hro) hdg (by rw [E]; exact ⟨hcs.1, hcs.2⟩)) kk
def lvA (Z : ZZ) (b k : Nat) : List (Nat × Value) := [(9, .int (nI k)), (8, .int 1), (7, .ref (za Z 144)), (6, .ref (za Z 143)), (5, .ref (za Z 142)), (4, .ref (za Z 141)), (3, .ref (za Z 140)), (2, .ref (za Z 139)), (1, .ref (za Z 0)), (0, .ref b)]
def lvC (Z : ZZ) (b T k : Nat) : List (Nat × Value) := [(10, .int (nI k)), (9, .int (nI T)), (8, .int 1), (7, .ref (za Z 144)), (6, .ref (za Z 143)), (5, .ref (za Z 142)), (4, .ref (za Z 141)), (3, .ref (za Z 140)), (2, .ref (za Z 139)), (1, .ref (za Z 0)), (0, .ref b)]
set_option maxRecDepth 100000 in
set_option maxHeartbeats 4000000 in
theorem w_act (H : LX l Z X b L sx) {k : Nat} {ν : Mm} {y c : Int32} (hν : IV ν) (hcs : cells + 101 ≤ 600130 ∧ slots + 2156 ≤ 7301080) (kk : ∀ ν2, IV ν2 → G Z X 11 (cells + 101) (slots + 2156) 100 (lvA Z b (k + 1)) [] ν2) : G Z X 11 cells slots 177 (lvA Z b k) (.int c :: .int y :: [.ref (za Z 144), .ref (za Z 143), .ref (za Z 142), .ref (za Z 141), .ref (za Z 140), .ref (za Z 139), .ref (za Z 0)]) ν := by
  have C := H.1
  have E := H.2.1
  obtain ⟨k0, k1, k2, k3, k4, k5, k6⟩ := Hk H
  refine g_iadd C (dk kA2 24 rfl) ?_
  obtain ⟨ν2, e, hi⟩ := l_acts hν (y + c)
  refine g_callS C E (As := [.ref (za Z 0), .ref (za Z 139), .ref (za Z 140), .ref (za Z 141), .ref (za Z 142), .ref (za Z 143), .ref (za Z 144), .int (y + c)]) (rest := []) 8 (ct_L_acts (r := 1) (μ' := ν2) k0 k1 k2 k3 k4 k5 k6 H.2.2.2.1 (by rw [H.2.2.1]; exact e)) (tb1 (List.mem_of_getElem? (i := 208) rfl) rfl) ⟨(tb1 (List.mem_of_getElem? (i := 209) rfl) rfl), (tb1 (List.mem_of_getElem? (i := 0) rfl) rfl), (tb1 (List.mem_of_getElem? (i := 210) rfl) rfl)⟩ ⟨by decide, by decide, by decide⟩ rfl (by decide) rfl (Nat.le_of_ble_eq_true rfl) hcs (dk kA2 25 rfl) ?_
  refine g_istore C (i := 8) (lv' := [(8, .int 1), (9, .int (nI k)), (7, .ref (za Z 144)), (6, .ref (za Z 143)), (5, .ref (za Z 142)), (4, .ref (za Z 141)), (3, .ref (za Z 140)), (2, .ref (za Z 139)), (1, .ref (za Z 0)), (0, .ref b)]) (dk kA2 26 rfl) (by decide) rfl ?_
  refine g_iinc C (i := 9) (v := nI (k + 1)) (lv' := [(9, .int (nI (k + 1))), (8, .int 1), (7, .ref (za Z 144)), (6, .ref (za Z 143)), (5, .ref (za Z 142)), (4, .ref (za Z 141)), (3, .ref (za Z 140)), (2, .ref (za Z 139)), (1, .ref (za Z 0)), (0, .ref b)]) 1 (dk kA2 27 rfl) rfl (nI_1 k) (by decide) rfl ?_
  exact g_goto C (tgt := 100) (dk kA2 28 rfl) (by decide) (kk ν2 hi)
set_option maxRecDepth 100000 in
set_option maxHeartbeats 4000000 in
theorem w_loop1 (H : LX l Z X b L sx) {c0 s0 : Nat} (hb : c0 + 1212 ≤ 600130 ∧ s0 + 25872 ≤ 7301080) (fin : ∀ ν, IV ν → G Z X 11 (c0 + 101 * 12) (s0 + 2156 * 12) 189 (lvA Z b 12) [] ν) : ∀ n k ν, k + n = 12 → IV ν → G Z X 11 (c0 + 101 * k) (s0 + 2156 * k) 100 (lvA Z b k) [] ν := by
  have C := H.1
  intro n
  induction n with
  | zero =>
    intro k ν hk hν
    have hk : k = 12 := by omega
    subst hk
    refine g_iload C (i := 9) 0 rfl (dk kA1 25 rfl) ?_
    refine g_bipush C (v := nI 12) (by decide) (dk kA1 26 rfl) ?_
    exact g_icmp_ge C (tgt := 189) (dk kA1 27 rfl) (by decide) (fun _ => fin ν hν) (fun c => absurd (Int32.le_refl _) c)
  | succ n ih =>
    intro k ν hk hν
    refine g_iload C (i := 9) 0 rfl (dk kA1 25 rfl) ?_
    refine g_bipush C (v := nI 12) (by decide) (dk kA1 26 rfl) ?_
    refine g_icmp_ge C (tgt := 189) (dk kA1 27 rfl) (by decide) (fun c => ?_) (fun _ => ?_)
    · rw [leN (by omega) (by omega)] at c
      omega
    refine g_iload C (i := 8) 1 rfl (dk kA1 28 rfl) ?_
    refine g_if_eq C (tgt := 189) (dk kA1 29 rfl) (by decide) (fun c => absurd c (by decide)) (fun _ => ?_)
    refine g_aload_n C (i := 1) 8 rfl rfl (dk kA1 30 rfl) ?_
    refine g_aload_n C (i := 2) 7 rfl rfl (dk kA1 31 rfl) ?_
    refine g_aload_n C (i := 3) 6 rfl rfl (dk kA1 32 rfl) ?_
    refine g_aload C (i := 4) 5 rfl (dk kA1 33 rfl) ?_
    refine g_aload C (i := 5) 4 rfl (dk kA1 34 rfl) ?_
    refine g_aload C (i := 6) 3 rfl (dk kA1 35 rfl) ?_
    refine g_aload C (i := 7) 2 rfl (dk kA1 36 rfl) ?_
    refine g_aload_n C (i := 0) 9 rfl rfl (dk kA1 37 rfl) ?_
    refine g_iconst C (v := nI 1) (by decide) (dk kA1 38 rfl) ?_
    refine g_iload C (i := 9) 0 rfl (dk kA1 39 rfl) ?_
    refine g_iadd C (dk kA2 0 rfl) ?_
    rw [nI_add]
    refine g_cell H (k := 1 + k) (by omega) (Nat.le_of_ble_eq_true rfl) ⟨by omega, by omega⟩ (dk kA2 1 rfl) ?_
    refine g_ldc C (v := 2147483647) (C.w (tb1 (List.mem_of_getElem? (i := 207) rfl) rfl)) (dk kA2 2 rfl) ?_
    refine g_iand C (dk kA2 3 rfl) ?_
    refine g_sipush C (v := 832) (by decide) (dk kA2 4 rfl) ?_
    refine g_idiv C (by decide) (dk kA2 5 rfl) ?_
    refine g_sipush C (v := 832) (by decide) (dk kA2 6 rfl) ?_
    refine g_imul C (dk kA2 7 rfl) ?_
    generalize (celV L sx (1 + k) &&& 2147483647) / 832 * 832 = y
    have last : ∀ c : Int32, G Z X 11 (c0 + 101 * k) (s0 + 2156 * k) 177 (lvA Z b k) (.int c :: .int y :: [.ref (za Z 144), .ref (za Z 143), .ref (za Z 142), .ref (za Z 141), .ref (za Z 140), .ref (za Z 139), .ref (za Z 0)]) ν := fun c => w_act H hν ⟨by omega, by omega⟩ (fun ν2 h2 => by
      have q := ih (k + 1) ν2 (by omega) h2
      rw [show c0 + 101 * (k + 1) = c0 + 101 * k + 101 by omega, show s0 + 2156 * (k + 1) = s0 + 2156 * k + 2156 by omega] at q
      exact q)
    refine g_iload C (i := 9) 0 rfl (dk kA2 8 rfl) ?_
    refine g_iconst C (v := 2) (by decide) (dk kA2 9 rfl) ?_
    refine g_icmp_ge C (tgt := 152) (dk kA2 10 rfl) (by decide) (fun _ => ?_) (fun _ => ?_)
    · refine g_iload C (i := 9) 0 rfl (dk kA2 13 rfl) ?_
      refine g_bipush C (v := 8) (by decide) (dk kA2 14 rfl) ?_
      refine g_icmp_ge C (tgt := 164) (dk kA2 15 rfl) (by decide) (fun _ => ?_) (fun _ => ?_)
      · refine g_iload C (i := 9) 0 rfl (dk kA2 18 rfl) ?_
        refine g_bipush C (v := 10) (by decide) (dk kA2 19 rfl) ?_
        refine g_icmp_ge C (tgt := 176) (dk kA2 20 rfl) (by decide) (fun _ => ?_) (fun _ => ?_)
        · refine g_iconst C (v := 1) (by decide) (dk kA2 23 rfl) ?_
          exact last 1
        · refine g_bipush C (v := 12) (by decide) (dk kA2 21 rfl) ?_
          exact g_goto C (tgt := 177) (dk kA2 22 rfl) (by decide) (last 12)
      · refine g_bipush C (v := 6) (by decide) (dk kA2 16 rfl) ?_
        exact g_goto C (tgt := 177) (dk kA2 17 rfl) (by decide) (last 6)
    · refine g_iconst C (v := 3) (by decide) (dk kA2 11 rfl) ?_
      exact g_goto C (tgt := 177) (dk kA2 12 rfl) (by decide) (last 3)
set_option maxRecDepth 100000 in
set_option maxHeartbeats 4000000 in
theorem w_loop2 (H : LX l Z X b L sx) {c0 s0 T : Nat} (hT : T ≤ 57) (hb : c0 + 5928 ≤ 600130 ∧ s0 + 123918 ≤ 7301080) (fin : ∀ ν, IV ν → G Z X 11 (c0 + 104 * T) (s0 + 2174 * T) 282 (lvC Z b T T) [] ν) : ∀ n k ν, k + n = T → IV ν → G Z X 11 (c0 + 104 * k) (s0 + 2174 * k) 207 (lvC Z b T k) [] ν := by
  have C := H.1
  have E := H.2.1
  obtain ⟨k0, k1, k2, k3, k4, k5, k6⟩ := Hk H
  intro n
  induction n with
  | zero =>
    intro k ν hk hν
    have hk : k = T := by omega
    subst hk
    refine g_iload C (i := 10) 0 rfl (dk kA2 39 rfl) ?_
    refine g_iload C (i := 9) 1 rfl (dk kA3 0 rfl) ?_
    exact g_icmp_ge C (tgt := 282) (dk kA3 1 rfl) (by decide) (fun _ => fin ν hν) (fun c => absurd (Int32.le_refl _) c)
  | succ n ih =>
    intro k ν hk hν
    refine g_iload C (i := 10) 0 rfl (dk kA2 39 rfl) ?_
    refine g_iload C (i := 9) 1 rfl (dk kA3 0 rfl) ?_
    refine g_icmp_ge C (tgt := 282) (dk kA3 1 rfl) (by decide) (fun c => ?_) (fun _ => ?_)
    · rw [leN (by omega) (by omega)] at c
      omega
    refine g_iload C (i := 8) 2 rfl (dk kA3 2 rfl) ?_
    refine g_if_eq C (tgt := 282) (dk kA3 3 rfl) (by decide) (fun c => absurd c (by decide)) (fun _ => ?_)
    refine g_aload_n C (i := 1) 9 rfl rfl (dk kA3 4 rfl) ?_
    refine g_aload_n C (i := 2) 8 rfl rfl (dk kA3 5 rfl) ?_
    refine g_aload_n C (i := 3) 7 rfl rfl (dk kA3 6 rfl) ?_
    refine g_aload C (i := 4) 6 rfl (dk kA3 7 rfl) ?_
    refine g_aload C (i := 5) 5 rfl (dk kA3 8 rfl) ?_
    refine g_aload C (i := 6) 4 rfl (dk kA3 9 rfl) ?_
    refine g_aload C (i := 7) 3 rfl (dk kA3 10 rfl) ?_
    refine g_aload_n C (i := 0) 10 rfl rfl (dk kA3 11 rfl) ?_
    refine g_bipush C (v := nI 13) (by decide) (dk kA3 12 rfl) ?_
    refine g_iload C (i := 10) 0 rfl (dk kA3 13 rfl) ?_
    refine g_iadd C (dk kA3 14 rfl) ?_
    rw [nI_add]
    refine g_cell H (k := 13 + k) (by omega) (Nat.le_of_ble_eq_true rfl) ⟨by omega, by omega⟩ (dk kA3 15 rfl) ?_
    refine g_sipush C (v := 7919) (by decide) (dk kA3 16 rfl) ?_
    refine g_iload C (i := 10) 0 rfl (dk kA3 17 rfl) ?_
    refine g_imul C (dk kA3 18 rfl) ?_
    refine g_ixor C (dk kA3 19 rfl) ?_
    generalize celV L sx (13 + k) ^^^ 7919 * nI k = z
    obtain ⟨ν2, e, hi⟩ := l_acts hν z
    refine g_callS C E (As := [.ref (za Z 0), .ref (za Z 139), .ref (za Z 140), .ref (za Z 141), .ref (za Z 142), .ref (za Z 143), .ref (za Z 144), .int z]) (rest := []) 8 (ct_L_acts (r := 1) (μ' := ν2) k0 k1 k2 k3 k4 k5 k6 H.2.2.2.1 (by rw [H.2.2.1]; exact e)) (tb1 (List.mem_of_getElem? (i := 208) rfl) rfl) ⟨(tb1 (List.mem_of_getElem? (i := 209) rfl) rfl), (tb1 (List.mem_of_getElem? (i := 0) rfl) rfl), (tb1 (List.mem_of_getElem? (i := 210) rfl) rfl)⟩ ⟨by decide, by decide, by decide⟩ rfl (by decide) rfl (Nat.le_of_ble_eq_true rfl) ⟨by omega, by omega⟩ (dk kA3 20 rfl) ?_
    refine g_if_eq C (tgt := 273) (dk kA3 21 rfl) (by decide) (fun c => absurd c (by decide)) (fun _ => ?_)
    refine g_aload_n C (i := 1) 9 rfl rfl (dk kA3 22 rfl) ?_
    refine g_aload_n C (i := 2) 8 rfl rfl (dk kA3 23 rfl) ?_
    refine g_aload_n C (i := 3) 7 rfl rfl (dk kA3 24 rfl) ?_
    refine g_aload C (i := 4) 6 rfl (dk kA3 25 rfl) ?_
    refine g_aload C (i := 5) 5 rfl (dk kA3 26 rfl) ?_
    refine g_aload C (i := 6) 4 rfl (dk kA3 27 rfl) ?_
    refine g_aload C (i := 7) 3 rfl (dk kA3 28 rfl) ?_
    refine g_callS C E (As := [.ref (za Z 0), .ref (za Z 139), .ref (za Z 140), .ref (za Z 141), .ref (za Z 142), .ref (za Z 143), .ref (za Z 144)]) (rest := []) 7 (ct_L_isSo (r := 1) k0 k1 k2 k3 k4 k5 k6 H.2.2.2.1 (by rw [H.2.2.1]; exact hi.isSo)) (tb3 (List.mem_of_getElem? (i := 238) rfl) rfl) ⟨(tb3 (List.mem_of_getElem? (i := 239) rfl) rfl), (tb1 (List.mem_of_getElem? (i := 0) rfl) rfl), (tb4 (List.mem_of_getElem? (i := 0) rfl) rfl)⟩ ⟨by decide, by decide, by decide⟩ rfl (by decide) rfl (Nat.le_of_ble_eq_true rfl) ⟨by omega, by omega⟩ (dk kA3 29 rfl) ?_
    refine g_if_eq C (tgt := 273) (dk kA3 30 rfl) (by decide) (fun c => absurd c (by decide)) (fun _ => ?_)
    refine g_iconst C (v := 1) (by decide) (dk kA3 31 rfl) ?_
    refine g_goto C (tgt := 274) (dk kA3 32 rfl) (by decide) ?_
    refine g_istore C (i := 8) (lv' := [(8, .int 1), (10, .int (nI k)), (9, .int (nI T)), (7, .ref (za Z 144)), (6, .ref (za Z 143)), (5, .ref (za Z 142)), (4, .ref (za Z 141)), (3, .ref (za Z 140)), (2, .ref (za Z 139)), (1, .ref (za Z 0)), (0, .ref b)]) (dk kA3 34 rfl) (by decide) rfl ?_
    refine g_iinc C (i := 10) (v := nI (k + 1)) (lv' := [(10, .int (nI (k + 1))), (8, .int 1), (9, .int (nI T)), (7, .ref (za Z 144)), (6, .ref (za Z 143)), (5, .ref (za Z 142)), (4, .ref (za Z 141)), (3, .ref (za Z 140)), (2, .ref (za Z 139)), (1, .ref (za Z 0)), (0, .ref b)]) 1 (dk kA3 35 rfl) rfl (nI_1 k) (by decide) rfl ?_
    refine g_goto C (tgt := 207) (dk kA3 36 rfl) (by decide) ?_
    refine g_sub [0, 2, 1, 3, 4, 5, 6, 7, 8, 9, 10] (lv' := lvC Z b T (k + 1)) rfl ?_
    have q := ih (k + 1) ν2 (by omega) hi
    rw [show c0 + 104 * (k + 1) = c0 + 104 * k + 101 + 3 by omega, show s0 + 2174 * (k + 1) = s0 + 2174 * k + 2156 + 18 by omega] at q
    exact q
set_option maxRecDepth 100000 in
set_option maxHeartbeats 4000000 in
theorem w_end (H : LX l Z X b L sx) {T : Nat} {ν : Mm} (hν : IV ν) (hcs : cells + 3 ≤ 600130 ∧ slots + 18 ≤ 7301080) (fin : G Z X 11 (cells + 1 + 1 + 1) (slots + 6 + 6 + 6) 324 (lvC Z b T T) [.int 1] ν) : G Z X 11 cells slots 282 (lvC Z b T T) [] ν := by
  have C := H.1
  have E := H.2.1
  obtain ⟨k0, -⟩ := Hk H
  obtain ⟨a1, a2, a3⟩ := hν.ask
  refine g_iload C (i := 8) 2 rfl (dk kA3 37 rfl) ?_
  refine g_if_eq C (tgt := 323) (dk kA3 38 rfl) (by decide) (fun c => absurd c (by decide)) (fun _ => ?_)
  refine g_aload_n C (i := 1) 9 rfl rfl (dk kA3 39 rfl) ?_
  refine g_bipush C (v := 18) (by decide) (dk kA4 0 rfl) ?_
  refine g_callSW C E (rest := []) 2 (ctx2_L_wholeOf (a1 := 18) k0 H.2.2.2.1 (by rw [H.2.2.1]; exact a1)) (tb3 (List.mem_of_getElem? (i := 215) rfl) rfl) ⟨(tb3 (List.mem_of_getElem? (i := 216) rfl) rfl), (tb1 (List.mem_of_getElem? (i := 0) rfl) rfl), (tb3 (List.mem_of_getElem? (i := 217) rfl) rfl)⟩ ⟨by decide, by decide, by decide⟩ rfl (by decide) rfl (Nat.le_of_ble_eq_true rfl) ⟨by omega, by omega⟩ (dk kA4 1 rfl) ?_
  refine g_ldc C (v := (-2000002)) (C.w (tb2 (List.mem_of_getElem? (i := 133) rfl) rfl)) (dk kA4 2 rfl) ?_
  refine g_icmp_ne C (tgt := 323) (dk kA4 3 rfl) (by decide) (fun c => absurd rfl c) (fun _ => ?_)
  refine g_aload_n C (i := 1) 9 rfl rfl (dk kA4 4 rfl) ?_
  refine g_iconst C (v := -1) (by decide) (dk kA4 5 rfl) ?_
  refine g_callSW C E (rest := []) 2 (ctx2_L_wholeOf (a1 := -1) k0 H.2.2.2.1 (by rw [H.2.2.1]; exact a2)) (tb3 (List.mem_of_getElem? (i := 215) rfl) rfl) ⟨(tb3 (List.mem_of_getElem? (i := 216) rfl) rfl), (tb1 (List.mem_of_getElem? (i := 0) rfl) rfl), (tb3 (List.mem_of_getElem? (i := 217) rfl) rfl)⟩ ⟨by decide, by decide, by decide⟩ rfl (by decide) rfl (Nat.le_of_ble_eq_true rfl) ⟨by omega, by omega⟩ (dk kA4 6 rfl) ?_
  refine g_ldc C (v := (-2000002)) (C.w (tb2 (List.mem_of_getElem? (i := 133) rfl) rfl)) (dk kA4 7 rfl) ?_
  refine g_icmp_ne C (tgt := 323) (dk kA4 8 rfl) (by decide) (fun c => absurd rfl c) (fun _ => ?_)
  refine g_aload_n C (i := 1) 9 rfl rfl (dk kA4 9 rfl) ?_
  refine g_iconst C (v := 0) (by decide) (dk kA4 10 rfl) ?_
  refine g_iconst C (v := 5) (by decide) (dk kA4 11 rfl) ?_
  refine g_callSW C E (rest := []) 3 (ctx2_L_dotOf (a1 := 0) (a2 := 5) k0 H.2.2.2.1 (by rw [H.2.2.1]; exact a3)) (tb3 (List.mem_of_getElem? (i := 195) rfl) rfl) ⟨(tb3 (List.mem_of_getElem? (i := 196) rfl) rfl), (tb1 (List.mem_of_getElem? (i := 0) rfl) rfl), (tb3 (List.mem_of_getElem? (i := 197) rfl) rfl)⟩ ⟨by decide, by decide, by decide⟩ rfl (by decide) rfl (Nat.le_of_ble_eq_true rfl) ⟨by omega, by omega⟩ (dk kA4 12 rfl) ?_
  refine g_ldc C (v := (-2000002)) (C.w (tb2 (List.mem_of_getElem? (i := 133) rfl) rfl)) (dk kA4 13 rfl) ?_
  refine g_icmp_ne C (tgt := 323) (dk kA4 14 rfl) (by decide) (fun c => absurd rfl c) (fun _ => ?_)
  refine g_iconst C (v := 1) (by decide) (dk kA4 15 rfl) ?_
  exact g_goto C (tgt := 324) (dk kA4 16 rfl) (by decide) fin
set_option maxRecDepth 100000 in
set_option maxHeartbeats 4000000 in
theorem w_all (H : LX l Z X b L sx) {c0 s0 : Nat} {ν : Mm} (hν : IV ν) (hb : c0 + 7200 ≤ 600130 ∧ s0 + 150000 ≤ 7301080) (fin : ∀ cells slots lv ν, cells ≤ 600130 → slots ≤ 7301080 → G Z X 11 cells slots 324 lv [.int 1] ν) : G Z X 11 c0 s0 100 (lvA Z b 0) [] ν := by
  have C := H.1
  have E := H.2.1
  refine w_loop1 H (c0 := c0) (s0 := s0) ⟨by omega, by omega⟩ (fun ν h => ?_) 12 0 ν (by omega) hν
  refine g_bipush C (v := 8) (by decide) (dk kA2 29 rfl) ?_
  refine g_aload_n C (i := 0) 9 rfl rfl (dk kA2 30 rfl) ?_
  refine g_iconst C (v := nI 0) (by decide) (dk kA2 31 rfl) ?_
  refine g_cell H (k := 0) (by omega) (by decide) ⟨by omega, by omega⟩ (dk kA2 32 rfl) ?_
  refine g_bipush C (v := 50) (by decide) (dk kA2 33 rfl) ?_
  obtain ⟨m, hm, em⟩ := l_low (celV L sx 0) (n := 50) (by omega) (by omega)
  refine g_callS C E (As := [.int (celV L sx 0), .int 50]) (rest := [.int 8]) 2 (ct_L_low (r := nI m) em) (tb1 (List.mem_of_getElem? (i := 204) rfl) rfl) ⟨(tb1 (List.mem_of_getElem? (i := 205) rfl) rfl), (tb1 (List.mem_of_getElem? (i := 0) rfl) rfl), (tb1 (List.mem_of_getElem? (i := 206) rfl) rfl)⟩ ⟨by decide, by decide, by decide⟩ rfl (by decide) rfl (Nat.le_of_ble_eq_true rfl) ⟨by omega, by omega⟩ (dk kA2 34 rfl) ?_
  refine g_iadd C (dk kA2 35 rfl) ?_
  rw [show (8 : Int32) + nI m = nI (8 + m) from nI_add 8 m]
  refine g_istore C (i := 9) (lv' := [(9, .int (nI (8 + m))), (8, .int 1), (7, .ref (za Z 144)), (6, .ref (za Z 143)), (5, .ref (za Z 142)), (4, .ref (za Z 141)), (3, .ref (za Z 140)), (2, .ref (za Z 139)), (1, .ref (za Z 0)), (0, .ref b)]) (dk kA2 36 rfl) (by decide) rfl ?_
  refine g_iconst C (v := nI 0) (by decide) (dk kA2 37 rfl) ?_
  refine g_istore C (i := 10) (lv' := lvC Z b (8 + m) 0) (dk kA2 38 rfl) (by decide) rfl ?_
  refine w_loop2 H (c0 := c0 + 101 * 12 + 0) (s0 := s0 + 2156 * 12 + 0) (T := 8 + m) (by omega) ⟨by omega, by omega⟩ (fun ν h => ?_) (8 + m) 0 ν (by omega) h
  exact w_end H h ⟨by omega, by omega⟩ (fin _ _ _ ν (by omega) (by omega))
end LawA
