def qX2_init : List (Nat × Instr × Nat) := [(0, .aload_n 0, 1), (1, .invokespecial 3, 3), (4, .aload_n 0, 1), (5, .iconst (-1), 1), (6, .putfield 9, 3), (9, .aload_n 0, 1), (10, .iconst (-1), 1), (11, .putfield 15, 3), (14, .return_, 1)]
theorem kX2_init : ∀ q ∈ qX2_init, decode cX2_init q.1 = .ok q.2 := by decide +kernel
def i_X2_init (n : Nat) (μ : Mm) (a0 : Nat) : Mm :=
  let μ1 : Mm := sI μ a0 0 (-1)
  let μ2 : Mm := sI μ1 a0 1 (-1)
  μ2
set_option maxRecDepth 100000 in
set_option maxHeartbeats 8000000 in
theorem ct_X2_init {l : Launch} {Z : ZZ} {μ : Mm} {a0 : Nat} (k0 : (zk Z a0).1 = 1) (h1000 : zn Z + 0 ≤ 1000) : CtM l Z true yX2_init cX2_init 1 none 1 0 0 [.ref (za Z a0)] μ none (zx Z []) (i_X2_init (zn Z) μ a0) := by
  refine ct_ofI rfl rfl (Nat.le_of_ble_eq_true rfl) (fun X C E hini => ?_)
  obtain ⟨hs0, hct⟩ := C.2.2.2.2.2.2 rfl
  have hlt0 : a0 < zn Z := zk_lt C.ok k0 (by decide)
  have hn0 : ∀ i, a0 ≠ zn Z + i := fun i => by omega
  have hn1 : a0 ≠ zn Z := by omega
  have hn4 : ∀ i, a0 < zn Z + i := fun i => by omega
  have hn2 : ∀ i, zn Z + i ≠ a0 := fun i => by omega
  have hn3 : zn Z ≠ a0 := by omega
  have C0 := cx_zx (L := []) hct C (by show zn Z + 0 ≤ 1000; omega)
  have E2 := E.2
  show G Z X 1 0 0 0 [(0, .ref (za Z a0))] [] μ
  refine g_zin C.ok ?_
  refine g_aload_n C0 (i := 0) 0 rfl rfl (dk kX2_init 0 rfl) ?_
  refine g_objI C0 E2 wd_1_133 wd_1_24 wd_1_25 (by decide) (Nat.le_of_ble_eq_true rfl) (dk kX2_init 1 rfl) ?_
  refine g_aload_n C0 (i := 0) 0 rfl rfl (dk kX2_init 2 rfl) ?_
  refine g_iconst C0 (v := (-1)) (by decide) (dk kX2_init 3 rfl) ?_
  obtain ⟨μ1, eμ1⟩ : ∃ x : Mm, x = sI μ a0 0 (-1) := ⟨_, rfl⟩
  refine pI_1_0 C0 (zx_o1 C.ok k0 (by decide)) (C0.w wd_1_134) eμ1 (dk kX2_init 4 rfl) ?_
  refine g_aload_n C0 (i := 0) 0 rfl rfl (dk kX2_init 5 rfl) ?_
  refine g_iconst C0 (v := (-1)) (by decide) (dk kX2_init 6 rfl) ?_
  obtain ⟨μ2, eμ2⟩ : ∃ x : Mm, x = sI μ1 a0 1 (-1) := ⟨_, rfl⟩
  refine pI_1_1 C0 (zx_o1 C.ok k0 (by decide)) (C0.w wd_1_136) eμ2 (dk kX2_init 7 rfl) ?_
  subst_vars
  exact g_vretZ C E (Nat.le_of_ble_eq_true rfl) (Nat.le_of_ble_eq_true rfl) (dk kX2_init 8 rfl)

theorem fr_X2_init {n b : Nat} {μ : Mm} {k : Nat} (h1 : k ≠ b) (h2 : k < n) : (i_X2_init n μ b).2.1 k = μ.2.1 k := by
  have h3 : ∀ i, k ≠ n + i := fun i => by omega
  have h4 : k ≠ n := by omega
  have h5 : ∀ i, k < n + i := fun i => by omega
  funext j
  simp [i_X2_init, sR, sI, sIr, nwM, up2, upR, h1, h2, h3, h4, h5]

def qX3_init : List (Nat × Instr × Nat) := [(0, .aload_n 0, 1), (1, .invokespecial 3, 3), (4, .aload_n 0, 1), (5, .bipush 12, 2), (7, .putfield 9, 3), (10, .aload_n 0, 1), (11, .bipush 24, 2), (13, .newarray .int, 2), (15, .putfield 15, 3), (18, .aload_n 0, 1), (19, .bipush 24, 2), (21, .newarray .int, 2), (23, .putfield 19, 3), (26, .aload_n 0, 1), (27, .bipush 24, 2), (29, .newarray .int, 2), (31, .putfield 22, 3), (34, .return_, 1)]
theorem kX3_init : ∀ q ∈ qX3_init, decode cX3_init q.1 = .ok q.2 := by decide +kernel
def i_X3_init (n : Nat) (μ : Mm) (a0 : Nat) : Mm :=
  let μ1 : Mm := sI μ a0 0 12
  let μ2 : Mm := nwM μ1 (n + 0)
  let μ3 : Mm := sR μ2 a0 2 (some (n + 0))
  let μ4 : Mm := nwM μ3 (n + 1)
  let μ5 : Mm := sR μ4 a0 3 (some (n + 1))
  let μ6 : Mm := nwM μ5 (n + 2)
  let μ7 : Mm := sR μ6 a0 4 (some (n + 2))
  μ7
set_option maxRecDepth 100000 in
set_option maxHeartbeats 8000000 in
theorem ct_X3_init {l : Launch} {Z : ZZ} {μ : Mm} {a0 : Nat} (k0 : (zk Z a0).1 = 2) (h1000 : zn Z + 3 ≤ 1000) : CtM l Z true yX3_init cX3_init 1 none 1 3 72 [.ref (za Z a0)] μ none (zx Z [(8, 24), (8, 24), (8, 24)]) (i_X3_init (zn Z) μ a0) := by
  refine ct_ofI rfl rfl (Nat.le_of_ble_eq_true rfl) (fun X C E hini => ?_)
  obtain ⟨hs0, hct⟩ := C.2.2.2.2.2.2 rfl
  have hlt0 : a0 < zn Z := zk_lt C.ok k0 (by decide)
  have hn0 : ∀ i, a0 ≠ zn Z + i := fun i => by omega
  have hn1 : a0 ≠ zn Z := by omega
  have hn4 : ∀ i, a0 < zn Z + i := fun i => by omega
  have hn2 : ∀ i, zn Z + i ≠ a0 := fun i => by omega
  have hn3 : zn Z ≠ a0 := by omega
  have C0 := cx_zx (L := []) hct C (by show zn Z + 0 ≤ 1000; omega)
  have E2 := E.2
  show G Z X 1 0 0 0 [(0, .ref (za Z a0))] [] μ
  refine g_zin C.ok ?_
  refine g_aload_n C0 (i := 0) 0 rfl rfl (dk kX3_init 0 rfl) ?_
  refine g_objI C0 E2 wd_1_61 wd_1_24 wd_1_25 (by decide) (Nat.le_of_ble_eq_true rfl) (dk kX3_init 1 rfl) ?_
  refine g_aload_n C0 (i := 0) 0 rfl rfl (dk kX3_init 2 rfl) ?_
  refine g_bipush C0 (v := 12) (by decide) (dk kX3_init 3 rfl) ?_
  obtain ⟨μ1, eμ1⟩ : ∃ x : Mm, x = sI μ a0 0 12 := ⟨_, rfl⟩
  refine pI_2_0 C0 (zx_o1 C.ok k0 (by decide)) (C0.w wd_1_62) eμ1 (dk kX3_init 4 rfl) ?_
  refine g_aload_n C0 (i := 0) 0 rfl rfl (dk kX3_init 5 rfl) ?_
  refine g_bipush C0 (v := 24) (by decide) (dk kX3_init 6 rfl) ?_
  refine g_newI C0 E2 ⟨hct, by show (xs X).heap.size + _ = zb Z + (zn Z + 0); omega⟩ (by show zn Z + 0 < 1000; omega) 24 wd_1_53 (by decide) (by decide) (by decide) ⟨Nat.le_of_ble_eq_true rfl, Nat.le_of_ble_eq_true rfl⟩ (dk kX3_init 7 rfl) ?_
  obtain ⟨μ2, eμ2⟩ : ∃ x : Mm, x = nwM μ1 (zn Z + 0) := ⟨_, rfl⟩
  refine g_eq eμ2 ?_
  refine g_zeq (show _ = zx Z [(8, 24)] from zx_zx) ?_
  have C1 := cx_zx (L := [(8, 24)]) hct C (by show zn Z + 1 ≤ 1000; omega)
  obtain ⟨μ3, eμ3⟩ : ∃ x : Mm, x = sR μ2 a0 2 (some (zn Z + 0)) := ⟨_, rfl⟩
  refine pF_2_2 C1 (zx_o1 C.ok k0 (by decide)) (C1.w wd_1_66) hini rfl eμ3 (dk kX3_init 8 rfl) ?_
  refine g_aload_n C1 (i := 0) 0 rfl rfl (dk kX3_init 9 rfl) ?_
  refine g_bipush C1 (v := 24) (by decide) (dk kX3_init 10 rfl) ?_
  refine g_newI C1 E2 ⟨hct, by show (xs X).heap.size + _ = zb Z + (zn Z + 1); omega⟩ (by show zn Z + 1 < 1000; omega) 24 wd_1_53 (by decide) (by decide) (by decide) ⟨Nat.le_of_ble_eq_true rfl, Nat.le_of_ble_eq_true rfl⟩ (dk kX3_init 11 rfl) ?_
  obtain ⟨μ4, eμ4⟩ : ∃ x : Mm, x = nwM μ3 (zn Z + 1) := ⟨_, rfl⟩
  refine g_eq eμ4 ?_
  refine g_zeq (show _ = zx Z [(8, 24), (8, 24)] from zx_zx) ?_
  have C2 := cx_zx (L := [(8, 24), (8, 24)]) hct C (by show zn Z + 2 ≤ 1000; omega)
  obtain ⟨μ5, eμ5⟩ : ∃ x : Mm, x = sR μ4 a0 3 (some (zn Z + 1)) := ⟨_, rfl⟩
  refine pF_2_3 C2 (zx_o1 C.ok k0 (by decide)) (C2.w wd_1_68) hini rfl eμ5 (dk kX3_init 12 rfl) ?_
  refine g_aload_n C2 (i := 0) 0 rfl rfl (dk kX3_init 13 rfl) ?_
  refine g_bipush C2 (v := 24) (by decide) (dk kX3_init 14 rfl) ?_
  refine g_newI C2 E2 ⟨hct, by show (xs X).heap.size + _ = zb Z + (zn Z + 2); omega⟩ (by show zn Z + 2 < 1000; omega) 24 wd_1_53 (by decide) (by decide) (by decide) ⟨Nat.le_of_ble_eq_true rfl, Nat.le_of_ble_eq_true rfl⟩ (dk kX3_init 15 rfl) ?_
  obtain ⟨μ6, eμ6⟩ : ∃ x : Mm, x = nwM μ5 (zn Z + 2) := ⟨_, rfl⟩
  refine g_eq eμ6 ?_
  refine g_zeq (show _ = zx Z [(8, 24), (8, 24), (8, 24)] from zx_zx) ?_
  have C3 := cx_zx (L := [(8, 24), (8, 24), (8, 24)]) hct C (by show zn Z + 3 ≤ 1000; omega)
  obtain ⟨μ7, eμ7⟩ : ∃ x : Mm, x = sR μ6 a0 4 (some (zn Z + 2)) := ⟨_, rfl⟩
  refine pF_2_4 C3 (zx_o1 C.ok k0 (by decide)) (C3.w wd_1_70) hini rfl eμ7 (dk kX3_init 16 rfl) ?_
  subst_vars
  exact g_vretZ C E (Nat.le_of_ble_eq_true rfl) (Nat.le_of_ble_eq_true rfl) (dk kX3_init 17 rfl)

theorem fr_X3_init {n b : Nat} {μ : Mm} {k : Nat} (h1 : k ≠ b) (h2 : k < n) : (i_X3_init n μ b).2.1 k = μ.2.1 k := by
  have h3 : ∀ i, k ≠ n + i := fun i => by omega
  have h4 : k ≠ n := by omega
  have h5 : ∀ i, k < n + i := fun i => by omega
  funext j
  simp [i_X3_init, sR, sI, sIr, nwM, up2, upR, h1, h2, h3, h4, h5, fr_X2_init]

def qX4_init : List (Nat × Instr × Nat) := [(0, .aload_n 0, 1), (1, .invokespecial 3, 3), (4, .aload_n 0, 1), (5, .iconst 1, 1), (6, .putfield 9, 3), (9, .aload_n 0, 1), (10, .iconst 1, 1), (11, .putfield 15, 3), (14, .aload_n 0, 1), (15, .bipush 6, 2), (17, .newarray .int, 2), (19, .putfield 18, 3), (22, .return_, 1)]
theorem kX4_init : ∀ q ∈ qX4_init, decode cX4_init q.1 = .ok q.2 := by decide +kernel
def i_X4_init (n : Nat) (μ : Mm) (a0 : Nat) : Mm :=
  let μ1 : Mm := sI μ a0 0 1
  let μ2 : Mm := sI μ1 a0 1 1
  let μ3 : Mm := nwM μ2 (n + 0)
  let μ4 : Mm := sR μ3 a0 4 (some (n + 0))
  μ4
set_option maxRecDepth 100000 in
set_option maxHeartbeats 8000000 in
theorem ct_X4_init {l : Launch} {Z : ZZ} {μ : Mm} {a0 : Nat} (k0 : (zk Z a0).1 = 3) (h1000 : zn Z + 1 ≤ 1000) : CtM l Z true yX4_init cX4_init 1 none 1 1 6 [.ref (za Z a0)] μ none (zx Z [(8, 6)]) (i_X4_init (zn Z) μ a0) := by
  refine ct_ofI rfl rfl (Nat.le_of_ble_eq_true rfl) (fun X C E hini => ?_)
  obtain ⟨hs0, hct⟩ := C.2.2.2.2.2.2 rfl
  have hlt0 : a0 < zn Z := zk_lt C.ok k0 (by decide)
  have hn0 : ∀ i, a0 ≠ zn Z + i := fun i => by omega
  have hn1 : a0 ≠ zn Z := by omega
  have hn4 : ∀ i, a0 < zn Z + i := fun i => by omega
  have hn2 : ∀ i, zn Z + i ≠ a0 := fun i => by omega
  have hn3 : zn Z ≠ a0 := by omega
  have C0 := cx_zx (L := []) hct C (by show zn Z + 0 ≤ 1000; omega)
  have E2 := E.2
  show G Z X 1 0 0 0 [(0, .ref (za Z a0))] [] μ
  refine g_zin C.ok ?_
  refine g_aload_n C0 (i := 0) 0 rfl rfl (dk kX4_init 0 rfl) ?_
  refine g_objI C0 E2 wd_1_103 wd_1_24 wd_1_25 (by decide) (Nat.le_of_ble_eq_true rfl) (dk kX4_init 1 rfl) ?_
  refine g_aload_n C0 (i := 0) 0 rfl rfl (dk kX4_init 2 rfl) ?_
  refine g_iconst C0 (v := 1) (by decide) (dk kX4_init 3 rfl) ?_
  obtain ⟨μ1, eμ1⟩ : ∃ x : Mm, x = sI μ a0 0 1 := ⟨_, rfl⟩
  refine pI_3_0 C0 (zx_o1 C.ok k0 (by decide)) (C0.w wd_1_104) eμ1 (dk kX4_init 4 rfl) ?_
  refine g_aload_n C0 (i := 0) 0 rfl rfl (dk kX4_init 5 rfl) ?_
  refine g_iconst C0 (v := 1) (by decide) (dk kX4_init 6 rfl) ?_
  obtain ⟨μ2, eμ2⟩ : ∃ x : Mm, x = sI μ1 a0 1 1 := ⟨_, rfl⟩
  refine pI_3_1 C0 (zx_o1 C.ok k0 (by decide)) (C0.w wd_1_107) eμ2 (dk kX4_init 7 rfl) ?_
  refine g_aload_n C0 (i := 0) 0 rfl rfl (dk kX4_init 8 rfl) ?_
  refine g_bipush C0 (v := 6) (by decide) (dk kX4_init 9 rfl) ?_
  refine g_newI C0 E2 ⟨hct, by show (xs X).heap.size + _ = zb Z + (zn Z + 0); omega⟩ (by show zn Z + 0 < 1000; omega) 6 wd_1_53 (by decide) (by decide) (by decide) ⟨Nat.le_of_ble_eq_true rfl, Nat.le_of_ble_eq_true rfl⟩ (dk kX4_init 10 rfl) ?_
  obtain ⟨μ3, eμ3⟩ : ∃ x : Mm, x = nwM μ2 (zn Z + 0) := ⟨_, rfl⟩
  refine g_eq eμ3 ?_
  refine g_zeq (show _ = zx Z [(8, 6)] from zx_zx) ?_
  have C1 := cx_zx (L := [(8, 6)]) hct C (by show zn Z + 1 ≤ 1000; omega)
  obtain ⟨μ4, eμ4⟩ : ∃ x : Mm, x = sR μ3 a0 4 (some (zn Z + 0)) := ⟨_, rfl⟩
  refine pF_3_4 C1 (zx_o1 C.ok k0 (by decide)) (C1.w wd_1_114) hini rfl eμ4 (dk kX4_init 11 rfl) ?_
  subst_vars
  exact g_vretZ C E (Nat.le_of_ble_eq_true rfl) (Nat.le_of_ble_eq_true rfl) (dk kX4_init 12 rfl)

theorem fr_X4_init {n b : Nat} {μ : Mm} {k : Nat} (h1 : k ≠ b) (h2 : k < n) : (i_X4_init n μ b).2.1 k = μ.2.1 k := by
  have h3 : ∀ i, k ≠ n + i := fun i => by omega
  have h4 : k ≠ n := by omega
  have h5 : ∀ i, k < n + i := fun i => by omega
  funext j
  simp [i_X4_init, sR, sI, sIr, nwM, up2, upR, h1, h2, h3, h4, h5, fr_X2_init, fr_X3_init]

def qX1_init : List (Nat × Instr × Nat) := [(0, .aload_n 0, 1), (1, .invokespecial 3, 3), (4, .aload_n 0, 1), (5, .sipush 150, 3), (8, .newarray .char, 2), (10, .putfield 9, 3), (13, .aload_n 0, 1), (14, .iconst (-1), 1), (15, .putfield 15, 3), (18, .aload_n 0, 1), (19, .getstatic 19, 3), (22, .putfield 25, 3), (25, .aload_n 0, 1), (26, .iconst 3, 1), (27, .newarray .int, 2), (29, .putfield 28, 3), (32, .return_, 1)]
theorem kX1_init : ∀ q ∈ qX1_init, decode cX1_init q.1 = .ok q.2 := by decide +kernel
def i_X1_init (n : Nat) (μ : Mm) (a0 : Nat) : Mm :=
  let μ1 : Mm := nwM μ (n + 0)
  let μ2 : Mm := sR μ1 a0 0 (some (n + 0))
  let μ3 : Mm := sI μ2 a0 3 (-1)
  let μ4 : Mm := sR μ3 a0 4 (some 2000)
  let μ5 : Mm := nwM μ4 (n + 1)
  let μ6 : Mm := sR μ5 a0 5 (some (n + 1))
  μ6
set_option maxRecDepth 100000 in
set_option maxHeartbeats 8000000 in
theorem ct_X1_init {l : Launch} {Z : ZZ} {μ : Mm} {a0 : Nat} (k0 : (zk Z a0).1 = 0) (h1000 : zn Z + 2 ≤ 1000) : CtM l Z true yX1_init cX1_init 1 none 1 2 153 [.ref (za Z a0)] μ none (zx Z [(7, 150), (8, 3)]) (i_X1_init (zn Z) μ a0) := by
  refine ct_ofI rfl rfl (Nat.le_of_ble_eq_true rfl) (fun X C E hini => ?_)
  obtain ⟨hs0, hct⟩ := C.2.2.2.2.2.2 rfl
  have hlt0 : a0 < zn Z := zk_lt C.ok k0 (by decide)
  have hn0 : ∀ i, a0 ≠ zn Z + i := fun i => by omega
  have hn1 : a0 ≠ zn Z := by omega
  have hn4 : ∀ i, a0 < zn Z + i := fun i => by omega
  have hn2 : ∀ i, zn Z + i ≠ a0 := fun i => by omega
  have hn3 : zn Z ≠ a0 := by omega
  have C0 := cx_zx (L := []) hct C (by show zn Z + 0 ≤ 1000; omega)
  have E2 := E.2
  show G Z X 1 0 0 0 [(0, .ref (za Z a0))] [] μ
  refine g_zin C.ok ?_
  refine g_aload_n C0 (i := 0) 0 rfl rfl (dk kX1_init 0 rfl) ?_
  refine g_objI C0 E2 wd_1_31 wd_1_24 wd_1_25 (by decide) (Nat.le_of_ble_eq_true rfl) (dk kX1_init 1 rfl) ?_
  refine g_aload_n C0 (i := 0) 0 rfl rfl (dk kX1_init 2 rfl) ?_
  refine g_sipush C0 (v := 150) (by decide) (dk kX1_init 3 rfl) ?_
  refine g_newC C0 E2 ⟨hct, by show (xs X).heap.size + _ = zb Z + (zn Z + 0); omega⟩ (by show zn Z + 0 < 1000; omega) 150 wd_1_52 (by decide) (by decide) (by decide) ⟨Nat.le_of_ble_eq_true rfl, Nat.le_of_ble_eq_true rfl⟩ (dk kX1_init 4 rfl) ?_
  obtain ⟨μ1, eμ1⟩ : ∃ x : Mm, x = nwM μ (zn Z + 0) := ⟨_, rfl⟩
  refine g_eq eμ1 ?_
  refine g_zeq (show _ = zx Z [(7, 150)] from zx_zx) ?_
  have C1 := cx_zx (L := [(7, 150)]) hct C (by show zn Z + 1 ≤ 1000; omega)
  obtain ⟨μ2, eμ2⟩ : ∃ x : Mm, x = sR μ1 a0 0 (some (zn Z + 0)) := ⟨_, rfl⟩
  refine pF_0_0 C1 (zx_o1 C.ok k0 (by decide)) (C1.w wd_1_34) hini rfl eμ2 (dk kX1_init 5 rfl) ?_
  refine g_aload_n C1 (i := 0) 0 rfl rfl (dk kX1_init 6 rfl) ?_
  refine g_iconst C1 (v := (-1)) (by decide) (dk kX1_init 7 rfl) ?_
  obtain ⟨μ3, eμ3⟩ : ∃ x : Mm, x = sI μ2 a0 3 (-1) := ⟨_, rfl⟩
  refine pI_0_3 C1 (zx_o1 C.ok k0 (by decide)) (C1.w wd_1_36) eμ3 (dk kX1_init 8 rfl) ?_
  refine g_aload_n C1 (i := 0) 0 rfl rfl (dk kX1_init 9 rfl) ?_
  refine g_gsH C1 (C1.w wd_1_32) (dk kX1_init 10 rfl) ?_
  obtain ⟨μ4, eμ4⟩ : ∃ x : Mm, x = sR μ3 a0 4 (some 2000) := ⟨_, rfl⟩
  refine pR_0_4 C1 (zx_o1 C.ok k0 (by decide)) (C1.w wd_1_37) eμ4 (dk kX1_init 11 rfl) ?_
  refine g_aload_n C1 (i := 0) 0 rfl rfl (dk kX1_init 12 rfl) ?_
  refine g_iconst C1 (v := 3) (by decide) (dk kX1_init 13 rfl) ?_
  refine g_newI C1 E2 ⟨hct, by show (xs X).heap.size + _ = zb Z + (zn Z + 1); omega⟩ (by show zn Z + 1 < 1000; omega) 3 wd_1_53 (by decide) (by decide) (by decide) ⟨Nat.le_of_ble_eq_true rfl, Nat.le_of_ble_eq_true rfl⟩ (dk kX1_init 14 rfl) ?_
  obtain ⟨μ5, eμ5⟩ : ∃ x : Mm, x = nwM μ4 (zn Z + 1) := ⟨_, rfl⟩
  refine g_eq eμ5 ?_
  refine g_zeq (show _ = zx Z [(7, 150), (8, 3)] from zx_zx) ?_
  have C2 := cx_zx (L := [(7, 150), (8, 3)]) hct C (by show zn Z + 2 ≤ 1000; omega)
  obtain ⟨μ6, eμ6⟩ : ∃ x : Mm, x = sR μ5 a0 5 (some (zn Z + 1)) := ⟨_, rfl⟩
  refine pF_0_5 C2 (zx_o1 C.ok k0 (by decide)) (C2.w wd_1_38) hini rfl eμ6 (dk kX1_init 15 rfl) ?_
  subst_vars
  exact g_vretZ C E (Nat.le_of_ble_eq_true rfl) (Nat.le_of_ble_eq_true rfl) (dk kX1_init 16 rfl)

theorem fr_X1_init {n b : Nat} {μ : Mm} {k : Nat} (h1 : k ≠ b) (h2 : k < n) : (i_X1_init n μ b).2.1 k = μ.2.1 k := by
  have h3 : ∀ i, k ≠ n + i := fun i => by omega
  have h4 : k ≠ n := by omega
  have h5 : ∀ i, k < n + i := fun i => by omega
  funext j
  simp [i_X1_init, sR, sI, sIr, nwM, up2, upR, h1, h2, h3, h4, h5, fr_X2_init, fr_X3_init, fr_X4_init]

def qX5_init : List (Nat × Instr × Nat) := [(0, .aload_n 0, 1), (1, .invokespecial 3, 3), (4, .aload_n 0, 1), (5, .new 9, 3), (8, .dup, 1), (9, .invokespecial 11, 3), (12, .putfield 12, 3), (15, .aload_n 0, 1), (16, .bipush 7, 2), (18, .newarray .int, 2), (20, .putfield 18, 3), (23, .aload_n 0, 1), (24, .bipush 6, 2), (26, .anewarray 22, 3), (29, .putfield 24, 3), (32, .aload_n 0, 1), (33, .bipush 6, 2), (35, .anewarray 28, 3), (38, .putfield 30, 3), (41, .aload_n 0, 1), (42, .aload_n 1, 1), (43, .putfield 34, 3), (46, .getstatic 37, 3), (49, .iconst 0, 1), (50, .aload_n 0, 1), (51, .getfield 18, 3), (54, .iconst 0, 1), (55, .bipush 7, 2), (57, .invokestatic 40, 3), (60, .iconst 0, 1), (61, .istore_n 2, 1), (62, .iload_n 2, 1), (63, .bipush 6, 2), (65, .if_icmp .ge 22, 3), (68, .aload_n 0, 1), (69, .getfield 24, 3), (72, .iload_n 2, 1), (73, .new 22, 3), (76, .dup, 1), (77, .invokespecial 46, 3), (80, .aastore, 1), (81, .iinc 2 1, 3), (84, .goto (-22), 3), (87, .iconst 0, 1), (88, .istore_n 2, 1), (89, .iload_n 2, 1), (90, .bipush 6, 2), (92, .if_icmp .ge 22, 3), (95, .aload_n 0, 1), (96, .getfield 30, 3), (99, .iload_n 2, 1), (100, .new 28, 3), (103, .dup, 1), (104, .invokespecial 47, 3), (107, .aastore, 1), (108, .iinc 2 1, 3), (111, .goto (-22), 3), (114, .return_, 1)]
theorem kX5_init : ∀ q ∈ qX5_init, decode cX5_init q.1 = .ok q.2 := by decide +kernel
def i_X5_init (n : Nat) (μ : Mm) (a0 : Nat) (a1 : Nat) : Mm :=
  let μ1 : Mm := nwM μ (n + 0)
  let μ2 : Mm := i_X3_init (n + 1) μ1 (n + 0)
  let μ3 : Mm := sR μ2 a0 0 (some (n + 0))
  let μ4 : Mm := nwM μ3 (n + 4)
  let μ5 : Mm := sR μ4 a0 2 (some (n + 4))
  let μ6 : Mm := nwM μ5 (n + 5)
  let μ7 : Mm := sR μ6 a0 3 (some (n + 5))
  let μ8 : Mm := nwM μ7 (n + 6)
  let μ9 : Mm := sR μ8 a0 5 (some (n + 6))
  let μ10 : Mm := sR μ9 a0 1 (some a1)
  let μ11 : Mm := sIr μ10 (n + 4) (va_cpy (fun j => (sA 2).getD j 0) (μ10.1 (n + 4)) (ix 0) (ix 0) (ix 7))
  let μ12 : Mm := nwM μ11 (n + 7)
  let μ13 : Mm := i_X4_init (n + 8) μ12 (n + 7)
  let μ14 : Mm := sR μ13 (n + 5) (ix 0) (some (n + 7))
  let μ15 : Mm := nwM μ14 (n + 9)
  let μ16 : Mm := i_X4_init (n + 10) μ15 (n + 9)
  let μ17 : Mm := sR μ16 (n + 5) (ix 1) (some (n + 9))
  let μ18 : Mm := nwM μ17 (n + 11)
  let μ19 : Mm := i_X4_init (n + 12) μ18 (n + 11)
  let μ20 : Mm := sR μ19 (n + 5) (ix 2) (some (n + 11))
  let μ21 : Mm := nwM μ20 (n + 13)
  let μ22 : Mm := i_X4_init (n + 14) μ21 (n + 13)
  let μ23 : Mm := sR μ22 (n + 5) (ix 3) (some (n + 13))
  let μ24 : Mm := nwM μ23 (n + 15)
  let μ25 : Mm := i_X4_init (n + 16) μ24 (n + 15)
  let μ26 : Mm := sR μ25 (n + 5) (ix 4) (some (n + 15))
  let μ27 : Mm := nwM μ26 (n + 17)
  let μ28 : Mm := i_X4_init (n + 18) μ27 (n + 17)
  let μ29 : Mm := sR μ28 (n + 5) (ix 5) (some (n + 17))
  let μ30 : Mm := nwM μ29 (n + 19)
  let μ31 : Mm := i_X2_init (n + 20) μ30 (n + 19)
  let μ32 : Mm := sR μ31 (n + 6) (ix 0) (some (n + 19))
  let μ33 : Mm := nwM μ32 (n + 20)
  let μ34 : Mm := i_X2_init (n + 21) μ33 (n + 20)
  let μ35 : Mm := sR μ34 (n + 6) (ix 1) (some (n + 20))
  let μ36 : Mm := nwM μ35 (n + 21)
  let μ37 : Mm := i_X2_init (n + 22) μ36 (n + 21)
  let μ38 : Mm := sR μ37 (n + 6) (ix 2) (some (n + 21))
  let μ39 : Mm := nwM μ38 (n + 22)
  let μ40 : Mm := i_X2_init (n + 23) μ39 (n + 22)
  let μ41 : Mm := sR μ40 (n + 6) (ix 3) (some (n + 22))
  let μ42 : Mm := nwM μ41 (n + 23)
  let μ43 : Mm := i_X2_init (n + 24) μ42 (n + 23)
  let μ44 : Mm := sR μ43 (n + 6) (ix 4) (some (n + 23))
  let μ45 : Mm := nwM μ44 (n + 24)
  let μ46 : Mm := i_X2_init (n + 25) μ45 (n + 24)
  let μ47 : Mm := sR μ46 (n + 6) (ix 5) (some (n + 24))
  μ47
set_option maxRecDepth 100000 in
set_option maxHeartbeats 8000000 in
theorem ct_X5_init {l : Launch} {Z : ZZ} {μ : Mm} {a0 : Nat} {a1 : Nat} (k0 : (zk Z a0).1 = 4) (k1 : (zk Z a1).1 = 2) (h1000 : zn Z + 25 ≤ 1000) : CtM l Z true yX5_init cX5_init 3 none 2 25 198 [.ref (za Z a0), .ref (za Z a1)] μ none (zx Z [(2, 0), (8, 24), (8, 24), (8, 24), (8, 7), (10, 6), (9, 6), (3, 0), (8, 6), (3, 0), (8, 6), (3, 0), (8, 6), (3, 0), (8, 6), (3, 0), (8, 6), (3, 0), (8, 6), (1, 0), (1, 0), (1, 0), (1, 0), (1, 0), (1, 0)]) (i_X5_init (zn Z) μ a0 a1) := by
  refine ct_ofI rfl rfl (Nat.le_of_ble_eq_true rfl) (fun X C E hini => ?_)
  obtain ⟨hs0, hct⟩ := C.2.2.2.2.2.2 rfl
  have hlt0 : a0 < zn Z := zk_lt C.ok k0 (by decide)
  have hn0 : ∀ i, a0 ≠ zn Z + i := fun i => by omega
  have hn1 : a0 ≠ zn Z := by omega
  have hn4 : ∀ i, a0 < zn Z + i := fun i => by omega
  have hn2 : ∀ i, zn Z + i ≠ a0 := fun i => by omega
  have hn3 : zn Z ≠ a0 := by omega
  have C0 := cx_zx (L := []) hct C (by show zn Z + 0 ≤ 1000; omega)
  have E2 := E.2
  show G Z X 3 0 0 0 [(0, .ref (za Z a0)), (1, .ref (za Z a1))] [] μ
  refine g_zin C.ok ?_
  refine g_aload_n C0 (i := 0) 0 rfl rfl (dk kX5_init 0 rfl) ?_
  refine g_objI C0 E2 wd_1_87 wd_1_24 wd_1_25 (by decide) (Nat.le_of_ble_eq_true rfl) (dk kX5_init 1 rfl) ?_
  refine g_aload_n C0 (i := 0) 0 rfl rfl (dk kX5_init 2 rfl) ?_
  refine g_new C0 E2 ⟨hct, by show (xs X).heap.size + _ = zb Z + (zn Z + 0); omega⟩ (by show zn Z + 0 < 1000; omega) (c := 2) inTX3 tyX3_ok rfl (by decide) wd_1_88 wd_1_57 wd_1_5 ob_2 ⟨Nat.le_of_ble_eq_true rfl, Nat.le_of_ble_eq_true rfl⟩ (dk kX5_init 3 rfl) ?_
  obtain ⟨μ1, eμ1⟩ : ∃ x : Mm, x = nwM μ (zn Z + 0) := ⟨_, rfl⟩
  refine g_eq eμ1 ?_
  refine g_zeq (show _ = zx Z [(2, 0)] from zx_zx) ?_
  have C1 := cx_zx (L := [(2, 0)]) hct C (by show zn Z + 1 ≤ 1000; omega)
  refine g_dup C1 rfl (dk kX5_init 4 rfl) ?_
  refine g_callIN C1 E2 ⟨hct, by show (xs X).heap.size + _ = zb Z + (zn Z + 1); omega⟩ (rest := [.ref (za Z (zn Z + 0)), .ref (za Z a0)]) (host := "WornDots") 0 (ct_X3_init (zx_k1 (L := [(2, 0)]) 0 rfl) (by show zn Z + 1 + 3 ≤ 1000; omega)) (C1.nw.2.1 ("WornDots$State", 11, yX3_init, "WornDots") (List.mem_of_getElem? (i := 2) rfl)) wd_1_59 wd_1_5 wd_1_60 rfl ⟨by decide, by decide, by decide⟩ rfl (by decide) rfl (Nat.le_of_ble_eq_true rfl) ⟨Nat.le_of_ble_eq_true rfl, Nat.le_of_ble_eq_true rfl⟩ (dk kX5_init 5 rfl) ?_
  obtain ⟨μ2, eμ2⟩ : ∃ x : Mm, x = i_X3_init (zn Z + 1) μ1 (zn Z + 0) := ⟨_, rfl⟩
  refine g_eq eμ2 ?_
  refine g_zeq (show _ = zx Z [(2, 0), (8, 24), (8, 24), (8, 24)] from zx_zx) ?_
  have C4 := cx_zx (L := [(2, 0), (8, 24), (8, 24), (8, 24)]) hct C (by show zn Z + 4 ≤ 1000; omega)
  obtain ⟨μ3, eμ3⟩ : ∃ x : Mm, x = sR μ2 a0 0 (some (zn Z + 0)) := ⟨_, rfl⟩
  refine pF_4_0 C4 (zx_o1 C.ok k0 (by decide)) (C4.w wd_1_159) hini rfl eμ3 (dk kX5_init 6 rfl) ?_
  refine g_aload_n C4 (i := 0) 0 rfl rfl (dk kX5_init 7 rfl) ?_
  refine g_bipush C4 (v := 7) (by decide) (dk kX5_init 8 rfl) ?_
  refine g_newI C4 E2 ⟨hct, by show (xs X).heap.size + _ = zb Z + (zn Z + 4); omega⟩ (by show zn Z + 4 < 1000; omega) 7 wd_1_53 (by decide) (by decide) (by decide) ⟨Nat.le_of_ble_eq_true rfl, Nat.le_of_ble_eq_true rfl⟩ (dk kX5_init 9 rfl) ?_
  obtain ⟨μ4, eμ4⟩ : ∃ x : Mm, x = nwM μ3 (zn Z + 4) := ⟨_, rfl⟩
  refine g_eq eμ4 ?_
  refine g_zeq (show _ = zx Z [(2, 0), (8, 24), (8, 24), (8, 24), (8, 7)] from zx_zx) ?_
  have C5 := cx_zx (L := [(2, 0), (8, 24), (8, 24), (8, 24), (8, 7)]) hct C (by show zn Z + 5 ≤ 1000; omega)
  obtain ⟨μ5, eμ5⟩ : ∃ x : Mm, x = sR μ4 a0 2 (some (zn Z + 4)) := ⟨_, rfl⟩
  refine pF_4_2 C5 (zx_o1 C.ok k0 (by decide)) (C5.w wd_1_162) hini rfl eμ5 (dk kX5_init 10 rfl) ?_
  refine g_aload_n C5 (i := 0) 0 rfl rfl (dk kX5_init 11 rfl) ?_
  refine g_bipush C5 (v := 6) (by decide) (dk kX5_init 12 rfl) ?_
  refine g_newR C5 E2 ⟨hct, by show (xs X).heap.size + _ = zb Z + (zn Z + 5); omega⟩ (by show zn Z + 5 < 1000; omega) 6 (CN := "WornDots$Label") 10 3 rfl (by decide) (by decide) rfl wd_1_90 (C5.nw.2.2.2.2.2.2 "WornDots$Label" (List.mem_of_getElem? (i := 1) rfl)) (by decide) (by decide) (by decide) ⟨Nat.le_of_ble_eq_true rfl, Nat.le_of_ble_eq_true rfl⟩ (dk kX5_init 13 rfl) ?_
  obtain ⟨μ6, eμ6⟩ : ∃ x : Mm, x = nwM μ5 (zn Z + 5) := ⟨_, rfl⟩
  refine g_eq eμ6 ?_
  refine g_zeq (show _ = zx Z [(2, 0), (8, 24), (8, 24), (8, 24), (8, 7), (10, 6)] from zx_zx) ?_
  have C6 := cx_zx (L := [(2, 0), (8, 24), (8, 24), (8, 24), (8, 7), (10, 6)]) hct C (by show zn Z + 6 ≤ 1000; omega)
  obtain ⟨μ7, eμ7⟩ : ∃ x : Mm, x = sR μ6 a0 3 (some (zn Z + 5)) := ⟨_, rfl⟩
  refine pF_4_3 C6 (zx_o1 C.ok k0 (by decide)) (C6.w wd_1_163) hini rfl eμ7 (dk kX5_init 14 rfl) ?_
  refine g_aload_n C6 (i := 0) 0 rfl rfl (dk kX5_init 15 rfl) ?_
  refine g_bipush C6 (v := 6) (by decide) (dk kX5_init 16 rfl) ?_
  refine g_newR C6 E2 ⟨hct, by show (xs X).heap.size + _ = zb Z + (zn Z + 6); omega⟩ (by show zn Z + 6 < 1000; omega) 6 (CN := "WornDots$Customer") 9 2 rfl (by decide) (by decide) rfl wd_1_92 (C6.nw.2.2.2.2.2.2 "WornDots$Customer" (List.mem_of_getElem? (i := 2) rfl)) (by decide) (by decide) (by decide) ⟨Nat.le_of_ble_eq_true rfl, Nat.le_of_ble_eq_true rfl⟩ (dk kX5_init 17 rfl) ?_
  obtain ⟨μ8, eμ8⟩ : ∃ x : Mm, x = nwM μ7 (zn Z + 6) := ⟨_, rfl⟩
  refine g_eq eμ8 ?_
  refine g_zeq (show _ = zx Z [(2, 0), (8, 24), (8, 24), (8, 24), (8, 7), (10, 6), (9, 6)] from zx_zx) ?_
  have C7 := cx_zx (L := [(2, 0), (8, 24), (8, 24), (8, 24), (8, 7), (10, 6), (9, 6)]) hct C (by show zn Z + 7 ≤ 1000; omega)
  obtain ⟨μ9, eμ9⟩ : ∃ x : Mm, x = sR μ8 a0 5 (some (zn Z + 6)) := ⟨_, rfl⟩
  refine pF_4_5 C7 (zx_o1 C.ok k0 (by decide)) (C7.w wd_1_166) hini rfl eμ9 (dk kX5_init 18 rfl) ?_
  refine g_aload_n C7 (i := 0) 0 rfl rfl (dk kX5_init 19 rfl) ?_
  refine g_aload_n C7 (i := 1) 1 rfl rfl (dk kX5_init 20 rfl) ?_
  obtain ⟨μ10, eμ10⟩ : ∃ x : Mm, x = sR μ9 a0 1 (some a1) := ⟨_, rfl⟩
  refine pF_4_1 C7 (zx_o1 C.ok k0 (by decide)) (C7.w wd_1_161) hini rfl eμ10 (dk kX5_init 21 rfl) ?_
  refine g_gsAN C7 2 (by decide) (nf_6 C7) (dk kX5_init 22 rfl) ?_
  refine g_iconst C7 (v := 0) (by decide) (dk kX5_init 23 rfl) ?_
  refine g_aload_n C7 (i := 0) 0 rfl rfl (dk kX5_init 24 rfl) ?_
  refine gR_4_2 C7 (zx_o1 C.ok k0 (by decide)) (C7.w wd_1_162) (r := (zn Z + 4)) (by simp [eμ10, eμ9, eμ8, eμ7, eμ6, eμ5, eμ4, eμ3, eμ2, eμ1, sR, sI, sIr, nwM, up2, upR, hn0, hn1, hn2, hn3, hn4, hlt0, fr_X2_init, fr_X3_init, fr_X4_init, fr_X1_init]) (dk kX5_init 25 rfl) ?_
  refine g_iconst C7 (v := 0) (by decide) (dk kX5_init 26 rfl) ?_
  refine g_bipush C7 (v := 7) (by decide) (dk kX5_init 27 rfl) ?_
  obtain ⟨μ11, eμ11⟩ : ∃ x : Mm, x = sIr μ10 (zn Z + 4) (va_cpy (fun j => (sA 2).getD j 0) (μ10.1 (zn Z + 4)) (ix 0) (ix 0) (ix 7)) := ⟨_, rfl⟩
  refine g_copyS C7 E2 2 (by decide) (zx_k1 (L := [(2, 0), (8, 24), (8, 24), (8, 24), (8, 7), (10, 6), (9, 6)]) 4 rfl) (by rw [(zx_k (L := [(2, 0), (8, 24), (8, 24), (8, 24), (8, 7), (10, 6), (9, 6)]) 4 rfl)]; decide) (by decide) (Nat.le_of_ble_eq_true rfl) (C7.w wd_1_96) (C7.w wd_1_98) (C7.w wd_1_97) (C7.w wd_1_7) eμ11 (dk kX5_init 28 rfl) ?_
  refine g_iconst C7 (v := 0) (by decide) (dk kX5_init 29 rfl) ?_
  refine g_istore_n C7 (i := 2) (lv' := [(2, .int 0), (0, .ref (za Z a0)), (1, .ref (za Z a1))]) (dk kX5_init 30 rfl) rfl (by decide) rfl ?_
  refine g_iload_n C7 (i := 2) 0 rfl rfl (dk kX5_init 31 rfl) ?_
  refine g_bipush C7 (v := 6) (by decide) (dk kX5_init 32 rfl) ?_
  refine g_icmp_ge C7 (tgt := 87) (dk kX5_init 33 rfl) (by decide) (fun c => absurd c (by decide)) (fun _ => ?_)
  refine g_aload_n C7 (i := 0) 1 rfl rfl (dk kX5_init 34 rfl) ?_
  refine gR_4_3 C7 (zx_o1 C.ok k0 (by decide)) (C7.w wd_1_163) (r := (zn Z + 5)) (by simp [eμ11, eμ10, eμ9, eμ8, eμ7, eμ6, eμ5, eμ4, eμ3, eμ2, eμ1, sR, sI, sIr, nwM, up2, upR, hn0, hn1, hn2, hn3, hn4, hlt0, fr_X2_init, fr_X3_init, fr_X4_init, fr_X1_init]) (dk kX5_init 35 rfl) ?_
  refine g_iload_n C7 (i := 2) 0 rfl rfl (dk kX5_init 36 rfl) ?_
  refine g_new C7 E2 ⟨hct, by show (xs X).heap.size + _ = zb Z + (zn Z + 7); omega⟩ (by show zn Z + 7 < 1000; omega) (c := 3) inTX4 tyX4_ok rfl (by decide) wd_1_90 wd_1_99 wd_1_8 ob_3 ⟨Nat.le_of_ble_eq_true rfl, Nat.le_of_ble_eq_true rfl⟩ (dk kX5_init 37 rfl) ?_
  obtain ⟨μ12, eμ12⟩ : ∃ x : Mm, x = nwM μ11 (zn Z + 7) := ⟨_, rfl⟩
  refine g_eq eμ12 ?_
  refine g_zeq (show _ = zx Z [(2, 0), (8, 24), (8, 24), (8, 24), (8, 7), (10, 6), (9, 6), (3, 0)] from zx_zx) ?_
  have C8 := cx_zx (L := [(2, 0), (8, 24), (8, 24), (8, 24), (8, 7), (10, 6), (9, 6), (3, 0)]) hct C (by show zn Z + 8 ≤ 1000; omega)
  refine g_dup C8 rfl (dk kX5_init 38 rfl) ?_
  refine g_callIN C8 E2 ⟨hct, by show (xs X).heap.size + _ = zb Z + (zn Z + 8); omega⟩ (rest := [.ref (za Z (zn Z + 7)), .int 0, .ref (za Z (zn Z + 5))]) (host := "WornDots") 0 (ct_X4_init (zx_k1 (L := [(2, 0), (8, 24), (8, 24), (8, 24), (8, 7), (10, 6), (9, 6), (3, 0)]) 7 rfl) (by show zn Z + 8 + 1 ≤ 1000; omega)) (C8.nw.2.1 ("WornDots$State", 46, yX4_init, "WornDots") (List.mem_of_getElem? (i := 3) rfl)) wd_1_101 wd_1_8 wd_1_102 rfl ⟨by decide, by decide, by decide⟩ rfl (by decide) rfl (Nat.le_of_ble_eq_true rfl) ⟨Nat.le_of_ble_eq_true rfl, Nat.le_of_ble_eq_true rfl⟩ (dk kX5_init 39 rfl) ?_
  obtain ⟨μ13, eμ13⟩ : ∃ x : Mm, x = i_X4_init (zn Z + 8) μ12 (zn Z + 7) := ⟨_, rfl⟩
  refine g_eq eμ13 ?_
  refine g_zeq (show _ = zx Z [(2, 0), (8, 24), (8, 24), (8, 24), (8, 7), (10, 6), (9, 6), (3, 0), (8, 6)] from zx_zx) ?_
  have C9 := cx_zx (L := [(2, 0), (8, 24), (8, 24), (8, 24), (8, 7), (10, 6), (9, 6), (3, 0), (8, 6)]) hct C (by show zn Z + 9 ≤ 1000; omega)
  obtain ⟨μ14, eμ14⟩ : ∃ x : Mm, x = sR μ13 (zn Z + 5) (ix 0) (some (zn Z + 7)) := ⟨_, rfl⟩
  refine pA_10 C9 (zx_k1 (L := [(2, 0), (8, 24), (8, 24), (8, 24), (8, 7), (10, 6), (9, 6), (3, 0), (8, 6)]) 5 rfl) (by rw [(zx_k (L := [(2, 0), (8, 24), (8, 24), (8, 24), (8, 7), (10, 6), (9, 6), (3, 0), (8, 6)]) 5 rfl)]; decide) (zx_k1 (L := [(2, 0), (8, 24), (8, 24), (8, 24), (8, 7), (10, 6), (9, 6), (3, 0), (8, 6)]) 7 rfl) eμ14 (dk kX5_init 40 rfl) ?_
  refine g_iinc C9 (i := 2) (v := 1) (lv' := [(2, .int 1), (0, .ref (za Z a0)), (1, .ref (za Z a1))]) 0 (dk kX5_init 41 rfl) rfl (by decide) (by decide) rfl ?_
  refine g_goto C9 (tgt := 62) (dk kX5_init 42 rfl) (by decide) ?_
  refine g_iload_n C9 (i := 2) 0 rfl rfl (dk kX5_init 31 rfl) ?_
  refine g_bipush C9 (v := 6) (by decide) (dk kX5_init 32 rfl) ?_
  refine g_icmp_ge C9 (tgt := 87) (dk kX5_init 33 rfl) (by decide) (fun c => absurd c (by decide)) (fun _ => ?_)
  refine g_aload_n C9 (i := 0) 1 rfl rfl (dk kX5_init 34 rfl) ?_
  refine gR_4_3 C9 (zx_o1 C.ok k0 (by decide)) (C9.w wd_1_163) (r := (zn Z + 5)) (by simp [eμ14, eμ13, eμ12, eμ11, eμ10, eμ9, eμ8, eμ7, eμ6, eμ5, eμ4, eμ3, eμ2, eμ1, sR, sI, sIr, nwM, up2, upR, hn0, hn1, hn2, hn3, hn4, hlt0, fr_X2_init, fr_X3_init, fr_X4_init, fr_X1_init]) (dk kX5_init 35 rfl) ?_
  refine g_iload_n C9 (i := 2) 0 rfl rfl (dk kX5_init 36 rfl) ?_
  refine g_new C9 E2 ⟨hct, by show (xs X).heap.size + _ = zb Z + (zn Z + 9); omega⟩ (by show zn Z + 9 < 1000; omega) (c := 3) inTX4 tyX4_ok rfl (by decide) wd_1_90 wd_1_99 wd_1_8 ob_3 ⟨Nat.le_of_ble_eq_true rfl, Nat.le_of_ble_eq_true rfl⟩ (dk kX5_init 37 rfl) ?_
  obtain ⟨μ15, eμ15⟩ : ∃ x : Mm, x = nwM μ14 (zn Z + 9) := ⟨_, rfl⟩
  refine g_eq eμ15 ?_
  refine g_zeq (show _ = zx Z [(2, 0), (8, 24), (8, 24), (8, 24), (8, 7), (10, 6), (9, 6), (3, 0), (8, 6), (3, 0)] from zx_zx) ?_
  have C10 := cx_zx (L := [(2, 0), (8, 24), (8, 24), (8, 24), (8, 7), (10, 6), (9, 6), (3, 0), (8, 6), (3, 0)]) hct C (by show zn Z + 10 ≤ 1000; omega)
  refine g_dup C10 rfl (dk kX5_init 38 rfl) ?_
  refine g_callIN C10 E2 ⟨hct, by show (xs X).heap.size + _ = zb Z + (zn Z + 10); omega⟩ (rest := [.ref (za Z (zn Z + 9)), .int 1, .ref (za Z (zn Z + 5))]) (host := "WornDots") 0 (ct_X4_init (zx_k1 (L := [(2, 0), (8, 24), (8, 24), (8, 24), (8, 7), (10, 6), (9, 6), (3, 0), (8, 6), (3, 0)]) 9 rfl) (by show zn Z + 10 + 1 ≤ 1000; omega)) (C10.nw.2.1 ("WornDots$State", 46, yX4_init, "WornDots") (List.mem_of_getElem? (i := 3) rfl)) wd_1_101 wd_1_8 wd_1_102 rfl ⟨by decide, by decide, by decide⟩ rfl (by decide) rfl (Nat.le_of_ble_eq_true rfl) ⟨Nat.le_of_ble_eq_true rfl, Nat.le_of_ble_eq_true rfl⟩ (dk kX5_init 39 rfl) ?_
  obtain ⟨μ16, eμ16⟩ : ∃ x : Mm, x = i_X4_init (zn Z + 10) μ15 (zn Z + 9) := ⟨_, rfl⟩
  refine g_eq eμ16 ?_
  refine g_zeq (show _ = zx Z [(2, 0), (8, 24), (8, 24), (8, 24), (8, 7), (10, 6), (9, 6), (3, 0), (8, 6), (3, 0), (8, 6)] from zx_zx) ?_
  have C11 := cx_zx (L := [(2, 0), (8, 24), (8, 24), (8, 24), (8, 7), (10, 6), (9, 6), (3, 0), (8, 6), (3, 0), (8, 6)]) hct C (by show zn Z + 11 ≤ 1000; omega)
  obtain ⟨μ17, eμ17⟩ : ∃ x : Mm, x = sR μ16 (zn Z + 5) (ix 1) (some (zn Z + 9)) := ⟨_, rfl⟩
  refine pA_10 C11 (zx_k1 (L := [(2, 0), (8, 24), (8, 24), (8, 24), (8, 7), (10, 6), (9, 6), (3, 0), (8, 6), (3, 0), (8, 6)]) 5 rfl) (by rw [(zx_k (L := [(2, 0), (8, 24), (8, 24), (8, 24), (8, 7), (10, 6), (9, 6), (3, 0), (8, 6), (3, 0), (8, 6)]) 5 rfl)]; decide) (zx_k1 (L := [(2, 0), (8, 24), (8, 24), (8, 24), (8, 7), (10, 6), (9, 6), (3, 0), (8, 6), (3, 0), (8, 6)]) 9 rfl) eμ17 (dk kX5_init 40 rfl) ?_
  refine g_iinc C11 (i := 2) (v := 2) (lv' := [(2, .int 2), (0, .ref (za Z a0)), (1, .ref (za Z a1))]) 0 (dk kX5_init 41 rfl) rfl (by decide) (by decide) rfl ?_
  refine g_goto C11 (tgt := 62) (dk kX5_init 42 rfl) (by decide) ?_
  refine g_iload_n C11 (i := 2) 0 rfl rfl (dk kX5_init 31 rfl) ?_
  refine g_bipush C11 (v := 6) (by decide) (dk kX5_init 32 rfl) ?_
  refine g_icmp_ge C11 (tgt := 87) (dk kX5_init 33 rfl) (by decide) (fun c => absurd c (by decide)) (fun _ => ?_)
  refine g_aload_n C11 (i := 0) 1 rfl rfl (dk kX5_init 34 rfl) ?_
  refine gR_4_3 C11 (zx_o1 C.ok k0 (by decide)) (C11.w wd_1_163) (r := (zn Z + 5)) (by simp [eμ17, eμ16, eμ15, eμ14, eμ13, eμ12, eμ11, eμ10, eμ9, eμ8, eμ7, eμ6, eμ5, eμ4, eμ3, eμ2, eμ1, sR, sI, sIr, nwM, up2, upR, hn0, hn1, hn2, hn3, hn4, hlt0, fr_X2_init, fr_X3_init, fr_X4_init, fr_X1_init]) (dk kX5_init 35 rfl) ?_
  refine g_iload_n C11 (i := 2) 0 rfl rfl (dk kX5_init 36 rfl) ?_
  refine g_new C11 E2 ⟨hct, by show (xs X).heap.size + _ = zb Z + (zn Z + 11); omega⟩ (by show zn Z + 11 < 1000; omega) (c := 3) inTX4 tyX4_ok rfl (by decide) wd_1_90 wd_1_99 wd_1_8 ob_3 ⟨Nat.le_of_ble_eq_true rfl, Nat.le_of_ble_eq_true rfl⟩ (dk kX5_init 37 rfl) ?_
  obtain ⟨μ18, eμ18⟩ : ∃ x : Mm, x = nwM μ17 (zn Z + 11) := ⟨_, rfl⟩
  refine g_eq eμ18 ?_
  refine g_zeq (show _ = zx Z [(2, 0), (8, 24), (8, 24), (8, 24), (8, 7), (10, 6), (9, 6), (3, 0), (8, 6), (3, 0), (8, 6), (3, 0)] from zx_zx) ?_
  have C12 := cx_zx (L := [(2, 0), (8, 24), (8, 24), (8, 24), (8, 7), (10, 6), (9, 6), (3, 0), (8, 6), (3, 0), (8, 6), (3, 0)]) hct C (by show zn Z + 12 ≤ 1000; omega)
  refine g_dup C12 rfl (dk kX5_init 38 rfl) ?_
  refine g_callIN C12 E2 ⟨hct, by show (xs X).heap.size + _ = zb Z + (zn Z + 12); omega⟩ (rest := [.ref (za Z (zn Z + 11)), .int 2, .ref (za Z (zn Z + 5))]) (host := "WornDots") 0 (ct_X4_init (zx_k1 (L := [(2, 0), (8, 24), (8, 24), (8, 24), (8, 7), (10, 6), (9, 6), (3, 0), (8, 6), (3, 0), (8, 6), (3, 0)]) 11 rfl) (by show zn Z + 12 + 1 ≤ 1000; omega)) (C12.nw.2.1 ("WornDots$State", 46, yX4_init, "WornDots") (List.mem_of_getElem? (i := 3) rfl)) wd_1_101 wd_1_8 wd_1_102 rfl ⟨by decide, by decide, by decide⟩ rfl (by decide) rfl (Nat.le_of_ble_eq_true rfl) ⟨Nat.le_of_ble_eq_true rfl, Nat.le_of_ble_eq_true rfl⟩ (dk kX5_init 39 rfl) ?_
  obtain ⟨μ19, eμ19⟩ : ∃ x : Mm, x = i_X4_init (zn Z + 12) μ18 (zn Z + 11) := ⟨_, rfl⟩
  refine g_eq eμ19 ?_
  refine g_zeq (show _ = zx Z [(2, 0), (8, 24), (8, 24), (8, 24), (8, 7), (10, 6), (9, 6), (3, 0), (8, 6), (3, 0), (8, 6), (3, 0), (8, 6)] from zx_zx) ?_
  have C13 := cx_zx (L := [(2, 0), (8, 24), (8, 24), (8, 24), (8, 7), (10, 6), (9, 6), (3, 0), (8, 6), (3, 0), (8, 6), (3, 0), (8, 6)]) hct C (by show zn Z + 13 ≤ 1000; omega)
  obtain ⟨μ20, eμ20⟩ : ∃ x : Mm, x = sR μ19 (zn Z + 5) (ix 2) (some (zn Z + 11)) := ⟨_, rfl⟩
  refine pA_10 C13 (zx_k1 (L := [(2, 0), (8, 24), (8, 24), (8, 24), (8, 7), (10, 6), (9, 6), (3, 0), (8, 6), (3, 0), (8, 6), (3, 0), (8, 6)]) 5 rfl) (by rw [(zx_k (L := [(2, 0), (8, 24), (8, 24), (8, 24), (8, 7), (10, 6), (9, 6), (3, 0), (8, 6), (3, 0), (8, 6), (3, 0), (8, 6)]) 5 rfl)]; decide) (zx_k1 (L := [(2, 0), (8, 24), (8, 24), (8, 24), (8, 7), (10, 6), (9, 6), (3, 0), (8, 6), (3, 0), (8, 6), (3, 0), (8, 6)]) 11 rfl) eμ20 (dk kX5_init 40 rfl) ?_
  refine g_iinc C13 (i := 2) (v := 3) (lv' := [(2, .int 3), (0, .ref (za Z a0)), (1, .ref (za Z a1))]) 0 (dk kX5_init 41 rfl) rfl (by decide) (by decide) rfl ?_
  refine g_goto C13 (tgt := 62) (dk kX5_init 42 rfl) (by decide) ?_
  refine g_iload_n C13 (i := 2) 0 rfl rfl (dk kX5_init 31 rfl) ?_
  refine g_bipush C13 (v := 6) (by decide) (dk kX5_init 32 rfl) ?_
  refine g_icmp_ge C13 (tgt := 87) (dk kX5_init 33 rfl) (by decide) (fun c => absurd c (by decide)) (fun _ => ?_)
  refine g_aload_n C13 (i := 0) 1 rfl rfl (dk kX5_init 34 rfl) ?_
  refine gR_4_3 C13 (zx_o1 C.ok k0 (by decide)) (C13.w wd_1_163) (r := (zn Z + 5)) (by simp [eμ20, eμ19, eμ18, eμ17, eμ16, eμ15, eμ14, eμ13, eμ12, eμ11, eμ10, eμ9, eμ8, eμ7, eμ6, eμ5, eμ4, eμ3, eμ2, eμ1, sR, sI, sIr, nwM, up2, upR, hn0, hn1, hn2, hn3, hn4, hlt0, fr_X2_init, fr_X3_init, fr_X4_init, fr_X1_init]) (dk kX5_init 35 rfl) ?_
  refine g_iload_n C13 (i := 2) 0 rfl rfl (dk kX5_init 36 rfl) ?_
  refine g_new C13 E2 ⟨hct, by show (xs X).heap.size + _ = zb Z + (zn Z + 13); omega⟩ (by show zn Z + 13 < 1000; omega) (c := 3) inTX4 tyX4_ok rfl (by decide) wd_1_90 wd_1_99 wd_1_8 ob_3 ⟨Nat.le_of_ble_eq_true rfl, Nat.le_of_ble_eq_true rfl⟩ (dk kX5_init 37 rfl) ?_
  obtain ⟨μ21, eμ21⟩ : ∃ x : Mm, x = nwM μ20 (zn Z + 13) := ⟨_, rfl⟩
  refine g_eq eμ21 ?_
  refine g_zeq (show _ = zx Z [(2, 0), (8, 24), (8, 24), (8, 24), (8, 7), (10, 6), (9, 6), (3, 0), (8, 6), (3, 0), (8, 6), (3, 0), (8, 6), (3, 0)] from zx_zx) ?_
  have C14 := cx_zx (L := [(2, 0), (8, 24), (8, 24), (8, 24), (8, 7), (10, 6), (9, 6), (3, 0), (8, 6), (3, 0), (8, 6), (3, 0), (8, 6), (3, 0)]) hct C (by show zn Z + 14 ≤ 1000; omega)
  refine g_dup C14 rfl (dk kX5_init 38 rfl) ?_
  refine g_callIN C14 E2 ⟨hct, by show (xs X).heap.size + _ = zb Z + (zn Z + 14); omega⟩ (rest := [.ref (za Z (zn Z + 13)), .int 3, .ref (za Z (zn Z + 5))]) (host := "WornDots") 0 (ct_X4_init (zx_k1 (L := [(2, 0), (8, 24), (8, 24), (8, 24), (8, 7), (10, 6), (9, 6), (3, 0), (8, 6), (3, 0), (8, 6), (3, 0), (8, 6), (3, 0)]) 13 rfl) (by show zn Z + 14 + 1 ≤ 1000; omega)) (C14.nw.2.1 ("WornDots$State", 46, yX4_init, "WornDots") (List.mem_of_getElem? (i := 3) rfl)) wd_1_101 wd_1_8 wd_1_102 rfl ⟨by decide, by decide, by decide⟩ rfl (by decide) rfl (Nat.le_of_ble_eq_true rfl) ⟨Nat.le_of_ble_eq_true rfl, Nat.le_of_ble_eq_true rfl⟩ (dk kX5_init 39 rfl) ?_
  obtain ⟨μ22, eμ22⟩ : ∃ x : Mm, x = i_X4_init (zn Z + 14) μ21 (zn Z + 13) := ⟨_, rfl⟩
  refine g_eq eμ22 ?_
  refine g_zeq (show _ = zx Z [(2, 0), (8, 24), (8, 24), (8, 24), (8, 7), (10, 6), (9, 6), (3, 0), (8, 6), (3, 0), (8, 6), (3, 0), (8, 6), (3, 0), (8, 6)] from zx_zx) ?_
  have C15 := cx_zx (L := [(2, 0), (8, 24), (8, 24), (8, 24), (8, 7), (10, 6), (9, 6), (3, 0), (8, 6), (3, 0), (8, 6), (3, 0), (8, 6), (3, 0), (8, 6)]) hct C (by show zn Z + 15 ≤ 1000; omega)
  obtain ⟨μ23, eμ23⟩ : ∃ x : Mm, x = sR μ22 (zn Z + 5) (ix 3) (some (zn Z + 13)) := ⟨_, rfl⟩
  refine pA_10 C15 (zx_k1 (L := [(2, 0), (8, 24), (8, 24), (8, 24), (8, 7), (10, 6), (9, 6), (3, 0), (8, 6), (3, 0), (8, 6), (3, 0), (8, 6), (3, 0), (8, 6)]) 5 rfl) (by rw [(zx_k (L := [(2, 0), (8, 24), (8, 24), (8, 24), (8, 7), (10, 6), (9, 6), (3, 0), (8, 6), (3, 0), (8, 6), (3, 0), (8, 6), (3, 0), (8, 6)]) 5 rfl)]; decide) (zx_k1 (L := [(2, 0), (8, 24), (8, 24), (8, 24), (8, 7), (10, 6), (9, 6), (3, 0), (8, 6), (3, 0), (8, 6), (3, 0), (8, 6), (3, 0), (8, 6)]) 13 rfl) eμ23 (dk kX5_init 40 rfl) ?_
  refine g_iinc C15 (i := 2) (v := 4) (lv' := [(2, .int 4), (0, .ref (za Z a0)), (1, .ref (za Z a1))]) 0 (dk kX5_init 41 rfl) rfl (by decide) (by decide) rfl ?_
  refine g_goto C15 (tgt := 62) (dk kX5_init 42 rfl) (by decide) ?_
  refine g_iload_n C15 (i := 2) 0 rfl rfl (dk kX5_init 31 rfl) ?_
  refine g_bipush C15 (v := 6) (by decide) (dk kX5_init 32 rfl) ?_
  refine g_icmp_ge C15 (tgt := 87) (dk kX5_init 33 rfl) (by decide) (fun c => absurd c (by decide)) (fun _ => ?_)
  refine g_aload_n C15 (i := 0) 1 rfl rfl (dk kX5_init 34 rfl) ?_
  refine gR_4_3 C15 (zx_o1 C.ok k0 (by decide)) (C15.w wd_1_163) (r := (zn Z + 5)) (by simp [eμ23, eμ22, eμ21, eμ20, eμ19, eμ18, eμ17, eμ16, eμ15, eμ14, eμ13, eμ12, eμ11, eμ10, eμ9, eμ8, eμ7, eμ6, eμ5, eμ4, eμ3, eμ2, eμ1, sR, sI, sIr, nwM, up2, upR, hn0, hn1, hn2, hn3, hn4, hlt0, fr_X2_init, fr_X3_init, fr_X4_init, fr_X1_init]) (dk kX5_init 35 rfl) ?_
  refine g_iload_n C15 (i := 2) 0 rfl rfl (dk kX5_init 36 rfl) ?_
  refine g_new C15 E2 ⟨hct, by show (xs X).heap.size + _ = zb Z + (zn Z + 15); omega⟩ (by show zn Z + 15 < 1000; omega) (c := 3) inTX4 tyX4_ok rfl (by decide) wd_1_90 wd_1_99 wd_1_8 ob_3 ⟨Nat.le_of_ble_eq_true rfl, Nat.le_of_ble_eq_true rfl⟩ (dk kX5_init 37 rfl) ?_
  obtain ⟨μ24, eμ24⟩ : ∃ x : Mm, x = nwM μ23 (zn Z + 15) := ⟨_, rfl⟩
  refine g_eq eμ24 ?_
  refine g_zeq (show _ = zx Z [(2, 0), (8, 24), (8, 24), (8, 24), (8, 7), (10, 6), (9, 6), (3, 0), (8, 6), (3, 0), (8, 6), (3, 0), (8, 6), (3, 0), (8, 6), (3, 0)] from zx_zx) ?_
  have C16 := cx_zx (L := [(2, 0), (8, 24), (8, 24), (8, 24), (8, 7), (10, 6), (9, 6), (3, 0), (8, 6), (3, 0), (8, 6), (3, 0), (8, 6), (3, 0), (8, 6), (3, 0)]) hct C (by show zn Z + 16 ≤ 1000; omega)
  refine g_dup C16 rfl (dk kX5_init 38 rfl) ?_
  refine g_callIN C16 E2 ⟨hct, by show (xs X).heap.size + _ = zb Z + (zn Z + 16); omega⟩ (rest := [.ref (za Z (zn Z + 15)), .int 4, .ref (za Z (zn Z + 5))]) (host := "WornDots") 0 (ct_X4_init (zx_k1 (L := [(2, 0), (8, 24), (8, 24), (8, 24), (8, 7), (10, 6), (9, 6), (3, 0), (8, 6), (3, 0), (8, 6), (3, 0), (8, 6), (3, 0), (8, 6), (3, 0)]) 15 rfl) (by show zn Z + 16 + 1 ≤ 1000; omega)) (C16.nw.2.1 ("WornDots$State", 46, yX4_init, "WornDots") (List.mem_of_getElem? (i := 3) rfl)) wd_1_101 wd_1_8 wd_1_102 rfl ⟨by decide, by decide, by decide⟩ rfl (by decide) rfl (Nat.le_of_ble_eq_true rfl) ⟨Nat.le_of_ble_eq_true rfl, Nat.le_of_ble_eq_true rfl⟩ (dk kX5_init 39 rfl) ?_
  obtain ⟨μ25, eμ25⟩ : ∃ x : Mm, x = i_X4_init (zn Z + 16) μ24 (zn Z + 15) := ⟨_, rfl⟩
  refine g_eq eμ25 ?_
  refine g_zeq (show _ = zx Z [(2, 0), (8, 24), (8, 24), (8, 24), (8, 7), (10, 6), (9, 6), (3, 0), (8, 6), (3, 0), (8, 6), (3, 0), (8, 6), (3, 0), (8, 6), (3, 0), (8, 6)] from zx_zx) ?_
  have C17 := cx_zx (L := [(2, 0), (8, 24), (8, 24), (8, 24), (8, 7), (10, 6), (9, 6), (3, 0), (8, 6), (3, 0), (8, 6), (3, 0), (8, 6), (3, 0), (8, 6), (3, 0), (8, 6)]) hct C (by show zn Z + 17 ≤ 1000; omega)
  obtain ⟨μ26, eμ26⟩ : ∃ x : Mm, x = sR μ25 (zn Z + 5) (ix 4) (some (zn Z + 15)) := ⟨_, rfl⟩
  refine pA_10 C17 (zx_k1 (L := [(2, 0), (8, 24), (8, 24), (8, 24), (8, 7), (10, 6), (9, 6), (3, 0), (8, 6), (3, 0), (8, 6), (3, 0), (8, 6), (3, 0), (8, 6), (3, 0), (8, 6)]) 5 rfl) (by rw [(zx_k (L := [(2, 0), (8, 24), (8, 24), (8, 24), (8, 7), (10, 6), (9, 6), (3, 0), (8, 6), (3, 0), (8, 6), (3, 0), (8, 6), (3, 0), (8, 6), (3, 0), (8, 6)]) 5 rfl)]; decide) (zx_k1 (L := [(2, 0), (8, 24), (8, 24), (8, 24), (8, 7), (10, 6), (9, 6), (3, 0), (8, 6), (3, 0), (8, 6), (3, 0), (8, 6), (3, 0), (8, 6), (3, 0), (8, 6)]) 15 rfl) eμ26 (dk kX5_init 40 rfl) ?_
  refine g_iinc C17 (i := 2) (v := 5) (lv' := [(2, .int 5), (0, .ref (za Z a0)), (1, .ref (za Z a1))]) 0 (dk kX5_init 41 rfl) rfl (by decide) (by decide) rfl ?_
  refine g_goto C17 (tgt := 62) (dk kX5_init 42 rfl) (by decide) ?_
  refine g_iload_n C17 (i := 2) 0 rfl rfl (dk kX5_init 31 rfl) ?_
  refine g_bipush C17 (v := 6) (by decide) (dk kX5_init 32 rfl) ?_
  refine g_icmp_ge C17 (tgt := 87) (dk kX5_init 33 rfl) (by decide) (fun c => absurd c (by decide)) (fun _ => ?_)
  refine g_aload_n C17 (i := 0) 1 rfl rfl (dk kX5_init 34 rfl) ?_
  refine gR_4_3 C17 (zx_o1 C.ok k0 (by decide)) (C17.w wd_1_163) (r := (zn Z + 5)) (by simp [eμ26, eμ25, eμ24, eμ23, eμ22, eμ21, eμ20, eμ19, eμ18, eμ17, eμ16, eμ15, eμ14, eμ13, eμ12, eμ11, eμ10, eμ9, eμ8, eμ7, eμ6, eμ5, eμ4, eμ3, eμ2, eμ1, sR, sI, sIr, nwM, up2, upR, hn0, hn1, hn2, hn3, hn4, hlt0, fr_X2_init, fr_X3_init, fr_X4_init, fr_X1_init]) (dk kX5_init 35 rfl) ?_
  refine g_iload_n C17 (i := 2) 0 rfl rfl (dk kX5_init 36 rfl) ?_
  refine g_new C17 E2 ⟨hct, by show (xs X).heap.size + _ = zb Z + (zn Z + 17); omega⟩ (by show zn Z + 17 < 1000; omega) (c := 3) inTX4 tyX4_ok rfl (by decide) wd_1_90 wd_1_99 wd_1_8 ob_3 ⟨Nat.le_of_ble_eq_true rfl, Nat.le_of_ble_eq_true rfl⟩ (dk kX5_init 37 rfl) ?_
  obtain ⟨μ27, eμ27⟩ : ∃ x : Mm, x = nwM μ26 (zn Z + 17) := ⟨_, rfl⟩
  refine g_eq eμ27 ?_
  refine g_zeq (show _ = zx Z [(2, 0), (8, 24), (8, 24), (8, 24), (8, 7), (10, 6), (9, 6), (3, 0), (8, 6), (3, 0), (8, 6), (3, 0), (8, 6), (3, 0), (8, 6), (3, 0), (8, 6), (3, 0)] from zx_zx) ?_
  have C18 := cx_zx (L := [(2, 0), (8, 24), (8, 24), (8, 24), (8, 7), (10, 6), (9, 6), (3, 0), (8, 6), (3, 0), (8, 6), (3, 0), (8, 6), (3, 0), (8, 6), (3, 0), (8, 6), (3, 0)]) hct C (by show zn Z + 18 ≤ 1000; omega)
  refine g_dup C18 rfl (dk kX5_init 38 rfl) ?_
  refine g_callIN C18 E2 ⟨hct, by show (xs X).heap.size + _ = zb Z + (zn Z + 18); omega⟩ (rest := [.ref (za Z (zn Z + 17)), .int 5, .ref (za Z (zn Z + 5))]) (host := "WornDots") 0 (ct_X4_init (zx_k1 (L := [(2, 0), (8, 24), (8, 24), (8, 24), (8, 7), (10, 6), (9, 6), (3, 0), (8, 6), (3, 0), (8, 6), (3, 0), (8, 6), (3, 0), (8, 6), (3, 0), (8, 6), (3, 0)]) 17 rfl) (by show zn Z + 18 + 1 ≤ 1000; omega)) (C18.nw.2.1 ("WornDots$State", 46, yX4_init, "WornDots") (List.mem_of_getElem? (i := 3) rfl)) wd_1_101 wd_1_8 wd_1_102 rfl ⟨by decide, by decide, by decide⟩ rfl (by decide) rfl (Nat.le_of_ble_eq_true rfl) ⟨Nat.le_of_ble_eq_true rfl, Nat.le_of_ble_eq_true rfl⟩ (dk kX5_init 39 rfl) ?_
  obtain ⟨μ28, eμ28⟩ : ∃ x : Mm, x = i_X4_init (zn Z + 18) μ27 (zn Z + 17) := ⟨_, rfl⟩
  refine g_eq eμ28 ?_
  refine g_zeq (show _ = zx Z [(2, 0), (8, 24), (8, 24), (8, 24), (8, 7), (10, 6), (9, 6), (3, 0), (8, 6), (3, 0), (8, 6), (3, 0), (8, 6), (3, 0), (8, 6), (3, 0), (8, 6), (3, 0), (8, 6)] from zx_zx) ?_
  have C19 := cx_zx (L := [(2, 0), (8, 24), (8, 24), (8, 24), (8, 7), (10, 6), (9, 6), (3, 0), (8, 6), (3, 0), (8, 6), (3, 0), (8, 6), (3, 0), (8, 6), (3, 0), (8, 6), (3, 0), (8, 6)]) hct C (by show zn Z + 19 ≤ 1000; omega)
  obtain ⟨μ29, eμ29⟩ : ∃ x : Mm, x = sR μ28 (zn Z + 5) (ix 5) (some (zn Z + 17)) := ⟨_, rfl⟩
  refine pA_10 C19 (zx_k1 (L := [(2, 0), (8, 24), (8, 24), (8, 24), (8, 7), (10, 6), (9, 6), (3, 0), (8, 6), (3, 0), (8, 6), (3, 0), (8, 6), (3, 0), (8, 6), (3, 0), (8, 6), (3, 0), (8, 6)]) 5 rfl) (by rw [(zx_k (L := [(2, 0), (8, 24), (8, 24), (8, 24), (8, 7), (10, 6), (9, 6), (3, 0), (8, 6), (3, 0), (8, 6), (3, 0), (8, 6), (3, 0), (8, 6), (3, 0), (8, 6), (3, 0), (8, 6)]) 5 rfl)]; decide) (zx_k1 (L := [(2, 0), (8, 24), (8, 24), (8, 24), (8, 7), (10, 6), (9, 6), (3, 0), (8, 6), (3, 0), (8, 6), (3, 0), (8, 6), (3, 0), (8, 6), (3, 0), (8, 6), (3, 0), (8, 6)]) 17 rfl) eμ29 (dk kX5_init 40 rfl) ?_
  refine g_iinc C19 (i := 2) (v := 6) (lv' := [(2, .int 6), (0, .ref (za Z a0)), (1, .ref (za Z a1))]) 0 (dk kX5_init 41 rfl) rfl (by decide) (by decide) rfl ?_
  refine g_goto C19 (tgt := 62) (dk kX5_init 42 rfl) (by decide) ?_
  refine g_iload_n C19 (i := 2) 0 rfl rfl (dk kX5_init 31 rfl) ?_
  refine g_bipush C19 (v := 6) (by decide) (dk kX5_init 32 rfl) ?_
  refine g_icmp_ge C19 (tgt := 87) (dk kX5_init 33 rfl) (by decide) (fun _ => ?_) (fun c => absurd (by decide) c)
  refine g_iconst C19 (v := 0) (by decide) (dk kX5_init 43 rfl) ?_
  refine g_istore_n C19 (i := 2) (lv' := [(2, .int 0), (0, .ref (za Z a0)), (1, .ref (za Z a1))]) (dk kX5_init 44 rfl) rfl (by decide) rfl ?_
  refine g_iload_n C19 (i := 2) 0 rfl rfl (dk kX5_init 45 rfl) ?_
  refine g_bipush C19 (v := 6) (by decide) (dk kX5_init 46 rfl) ?_
  refine g_icmp_ge C19 (tgt := 114) (dk kX5_init 47 rfl) (by decide) (fun c => absurd c (by decide)) (fun _ => ?_)
  refine g_aload_n C19 (i := 0) 1 rfl rfl (dk kX5_init 48 rfl) ?_
  refine gR_4_5 C19 (zx_o1 C.ok k0 (by decide)) (C19.w wd_1_166) (r := (zn Z + 6)) (by simp [eμ29, eμ28, eμ27, eμ26, eμ25, eμ24, eμ23, eμ22, eμ21, eμ20, eμ19, eμ18, eμ17, eμ16, eμ15, eμ14, eμ13, eμ12, eμ11, eμ10, eμ9, eμ8, eμ7, eμ6, eμ5, eμ4, eμ3, eμ2, eμ1, sR, sI, sIr, nwM, up2, upR, hn0, hn1, hn2, hn3, hn4, hlt0, fr_X2_init, fr_X3_init, fr_X4_init, fr_X1_init]) (dk kX5_init 49 rfl) ?_
  refine g_iload_n C19 (i := 2) 0 rfl rfl (dk kX5_init 50 rfl) ?_
  refine g_new C19 E2 ⟨hct, by show (xs X).heap.size + _ = zb Z + (zn Z + 19); omega⟩ (by show zn Z + 19 < 1000; omega) (c := 1) inTX2 tyX2_ok rfl (by decide) wd_1_92 wd_1_129 wd_1_9 ob_1 ⟨Nat.le_of_ble_eq_true rfl, Nat.le_of_ble_eq_true rfl⟩ (dk kX5_init 51 rfl) ?_
  obtain ⟨μ30, eμ30⟩ : ∃ x : Mm, x = nwM μ29 (zn Z + 19) := ⟨_, rfl⟩
  refine g_eq eμ30 ?_
  refine g_zeq (show _ = zx Z [(2, 0), (8, 24), (8, 24), (8, 24), (8, 7), (10, 6), (9, 6), (3, 0), (8, 6), (3, 0), (8, 6), (3, 0), (8, 6), (3, 0), (8, 6), (3, 0), (8, 6), (3, 0), (8, 6), (1, 0)] from zx_zx) ?_
  have C20 := cx_zx (L := [(2, 0), (8, 24), (8, 24), (8, 24), (8, 7), (10, 6), (9, 6), (3, 0), (8, 6), (3, 0), (8, 6), (3, 0), (8, 6), (3, 0), (8, 6), (3, 0), (8, 6), (3, 0), (8, 6), (1, 0)]) hct C (by show zn Z + 20 ≤ 1000; omega)
  refine g_dup C20 rfl (dk kX5_init 52 rfl) ?_
  refine g_callIN C20 E2 ⟨hct, by show (xs X).heap.size + _ = zb Z + (zn Z + 20); omega⟩ (rest := [.ref (za Z (zn Z + 19)), .int 0, .ref (za Z (zn Z + 6))]) (host := "WornDots") 0 (ct_X2_init (zx_k1 (L := [(2, 0), (8, 24), (8, 24), (8, 24), (8, 7), (10, 6), (9, 6), (3, 0), (8, 6), (3, 0), (8, 6), (3, 0), (8, 6), (3, 0), (8, 6), (3, 0), (8, 6), (3, 0), (8, 6), (1, 0)]) 19 rfl) (by show zn Z + 20 + 0 ≤ 1000; omega)) (C20.nw.2.1 ("WornDots$State", 47, yX2_init, "WornDots") (List.mem_of_getElem? (i := 4) rfl)) wd_1_131 wd_1_9 wd_1_132 rfl ⟨by decide, by decide, by decide⟩ rfl (by decide) rfl (Nat.le_of_ble_eq_true rfl) ⟨Nat.le_of_ble_eq_true rfl, Nat.le_of_ble_eq_true rfl⟩ (dk kX5_init 53 rfl) ?_
  obtain ⟨μ31, eμ31⟩ : ∃ x : Mm, x = i_X2_init (zn Z + 20) μ30 (zn Z + 19) := ⟨_, rfl⟩
  refine g_eq eμ31 ?_
  refine g_zeq (show _ = zx Z [(2, 0), (8, 24), (8, 24), (8, 24), (8, 7), (10, 6), (9, 6), (3, 0), (8, 6), (3, 0), (8, 6), (3, 0), (8, 6), (3, 0), (8, 6), (3, 0), (8, 6), (3, 0), (8, 6), (1, 0)] from zx_zx) ?_
  have C20 := cx_zx (L := [(2, 0), (8, 24), (8, 24), (8, 24), (8, 7), (10, 6), (9, 6), (3, 0), (8, 6), (3, 0), (8, 6), (3, 0), (8, 6), (3, 0), (8, 6), (3, 0), (8, 6), (3, 0), (8, 6), (1, 0)]) hct C (by show zn Z + 20 ≤ 1000; omega)
  obtain ⟨μ32, eμ32⟩ : ∃ x : Mm, x = sR μ31 (zn Z + 6) (ix 0) (some (zn Z + 19)) := ⟨_, rfl⟩
  refine pA_9 C20 (zx_k1 (L := [(2, 0), (8, 24), (8, 24), (8, 24), (8, 7), (10, 6), (9, 6), (3, 0), (8, 6), (3, 0), (8, 6), (3, 0), (8, 6), (3, 0), (8, 6), (3, 0), (8, 6), (3, 0), (8, 6), (1, 0)]) 6 rfl) (by rw [(zx_k (L := [(2, 0), (8, 24), (8, 24), (8, 24), (8, 7), (10, 6), (9, 6), (3, 0), (8, 6), (3, 0), (8, 6), (3, 0), (8, 6), (3, 0), (8, 6), (3, 0), (8, 6), (3, 0), (8, 6), (1, 0)]) 6 rfl)]; decide) (zx_k1 (L := [(2, 0), (8, 24), (8, 24), (8, 24), (8, 7), (10, 6), (9, 6), (3, 0), (8, 6), (3, 0), (8, 6), (3, 0), (8, 6), (3, 0), (8, 6), (3, 0), (8, 6), (3, 0), (8, 6), (1, 0)]) 19 rfl) eμ32 (dk kX5_init 54 rfl) ?_
  refine g_iinc C20 (i := 2) (v := 1) (lv' := [(2, .int 1), (0, .ref (za Z a0)), (1, .ref (za Z a1))]) 0 (dk kX5_init 55 rfl) rfl (by decide) (by decide) rfl ?_
  refine g_goto C20 (tgt := 89) (dk kX5_init 56 rfl) (by decide) ?_
  refine g_iload_n C20 (i := 2) 0 rfl rfl (dk kX5_init 45 rfl) ?_
  refine g_bipush C20 (v := 6) (by decide) (dk kX5_init 46 rfl) ?_
  refine g_icmp_ge C20 (tgt := 114) (dk kX5_init 47 rfl) (by decide) (fun c => absurd c (by decide)) (fun _ => ?_)
  refine g_aload_n C20 (i := 0) 1 rfl rfl (dk kX5_init 48 rfl) ?_
  refine gR_4_5 C20 (zx_o1 C.ok k0 (by decide)) (C20.w wd_1_166) (r := (zn Z + 6)) (by simp [eμ32, eμ31, eμ30, eμ29, eμ28, eμ27, eμ26, eμ25, eμ24, eμ23, eμ22, eμ21, eμ20, eμ19, eμ18, eμ17, eμ16, eμ15, eμ14, eμ13, eμ12, eμ11, eμ10, eμ9, eμ8, eμ7, eμ6, eμ5, eμ4, eμ3, eμ2, eμ1, sR, sI, sIr, nwM, up2, upR, hn0, hn1, hn2, hn3, hn4, hlt0, fr_X2_init, fr_X3_init, fr_X4_init, fr_X1_init]) (dk kX5_init 49 rfl) ?_
  refine g_iload_n C20 (i := 2) 0 rfl rfl (dk kX5_init 50 rfl) ?_
  refine g_new C20 E2 ⟨hct, by show (xs X).heap.size + _ = zb Z + (zn Z + 20); omega⟩ (by show zn Z + 20 < 1000; omega) (c := 1) inTX2 tyX2_ok rfl (by decide) wd_1_92 wd_1_129 wd_1_9 ob_1 ⟨Nat.le_of_ble_eq_true rfl, Nat.le_of_ble_eq_true rfl⟩ (dk kX5_init 51 rfl) ?_
  obtain ⟨μ33, eμ33⟩ : ∃ x : Mm, x = nwM μ32 (zn Z + 20) := ⟨_, rfl⟩
  refine g_eq eμ33 ?_
  refine g_zeq (show _ = zx Z [(2, 0), (8, 24), (8, 24), (8, 24), (8, 7), (10, 6), (9, 6), (3, 0), (8, 6), (3, 0), (8, 6), (3, 0), (8, 6), (3, 0), (8, 6), (3, 0), (8, 6), (3, 0), (8, 6), (1, 0), (1, 0)] from zx_zx) ?_
  have C21 := cx_zx (L := [(2, 0), (8, 24), (8, 24), (8, 24), (8, 7), (10, 6), (9, 6), (3, 0), (8, 6), (3, 0), (8, 6), (3, 0), (8, 6), (3, 0), (8, 6), (3, 0), (8, 6), (3, 0), (8, 6), (1, 0), (1, 0)]) hct C (by show zn Z + 21 ≤ 1000; omega)
  refine g_dup C21 rfl (dk kX5_init 52 rfl) ?_
  refine g_callIN C21 E2 ⟨hct, by show (xs X).heap.size + _ = zb Z + (zn Z + 21); omega⟩ (rest := [.ref (za Z (zn Z + 20)), .int 1, .ref (za Z (zn Z + 6))]) (host := "WornDots") 0 (ct_X2_init (zx_k1 (L := [(2, 0), (8, 24), (8, 24), (8, 24), (8, 7), (10, 6), (9, 6), (3, 0), (8, 6), (3, 0), (8, 6), (3, 0), (8, 6), (3, 0), (8, 6), (3, 0), (8, 6), (3, 0), (8, 6), (1, 0), (1, 0)]) 20 rfl) (by show zn Z + 21 + 0 ≤ 1000; omega)) (C21.nw.2.1 ("WornDots$State", 47, yX2_init, "WornDots") (List.mem_of_getElem? (i := 4) rfl)) wd_1_131 wd_1_9 wd_1_132 rfl ⟨by decide, by decide, by decide⟩ rfl (by decide) rfl (Nat.le_of_ble_eq_true rfl) ⟨Nat.le_of_ble_eq_true rfl, Nat.le_of_ble_eq_true rfl⟩ (dk kX5_init 53 rfl) ?_
  obtain ⟨μ34, eμ34⟩ : ∃ x : Mm, x = i_X2_init (zn Z + 21) μ33 (zn Z + 20) := ⟨_, rfl⟩
  refine g_eq eμ34 ?_
  refine g_zeq (show _ = zx Z [(2, 0), (8, 24), (8, 24), (8, 24), (8, 7), (10, 6), (9, 6), (3, 0), (8, 6), (3, 0), (8, 6), (3, 0), (8, 6), (3, 0), (8, 6), (3, 0), (8, 6), (3, 0), (8, 6), (1, 0), (1, 0)] from zx_zx) ?_
  have C21 := cx_zx (L := [(2, 0), (8, 24), (8, 24), (8, 24), (8, 7), (10, 6), (9, 6), (3, 0), (8, 6), (3, 0), (8, 6), (3, 0), (8, 6), (3, 0), (8, 6), (3, 0), (8, 6), (3, 0), (8, 6), (1, 0), (1, 0)]) hct C (by show zn Z + 21 ≤ 1000; omega)
  obtain ⟨μ35, eμ35⟩ : ∃ x : Mm, x = sR μ34 (zn Z + 6) (ix 1) (some (zn Z + 20)) := ⟨_, rfl⟩
  refine pA_9 C21 (zx_k1 (L := [(2, 0), (8, 24), (8, 24), (8, 24), (8, 7), (10, 6), (9, 6), (3, 0), (8, 6), (3, 0), (8, 6), (3, 0), (8, 6), (3, 0), (8, 6), (3, 0), (8, 6), (3, 0), (8, 6), (1, 0), (1, 0)]) 6 rfl) (by rw [(zx_k (L := [(2, 0), (8, 24), (8, 24), (8, 24), (8, 7), (10, 6), (9, 6), (3, 0), (8, 6), (3, 0), (8, 6), (3, 0), (8, 6), (3, 0), (8, 6), (3, 0), (8, 6), (3, 0), (8, 6), (1, 0), (1, 0)]) 6 rfl)]; decide) (zx_k1 (L := [(2, 0), (8, 24), (8, 24), (8, 24), (8, 7), (10, 6), (9, 6), (3, 0), (8, 6), (3, 0), (8, 6), (3, 0), (8, 6), (3, 0), (8, 6), (3, 0), (8, 6), (3, 0), (8, 6), (1, 0), (1, 0)]) 20 rfl) eμ35 (dk kX5_init 54 rfl) ?_
  refine g_iinc C21 (i := 2) (v := 2) (lv' := [(2, .int 2), (0, .ref (za Z a0)), (1, .ref (za Z a1))]) 0 (dk kX5_init 55 rfl) rfl (by decide) (by decide) rfl ?_
  refine g_goto C21 (tgt := 89) (dk kX5_init 56 rfl) (by decide) ?_
  refine g_iload_n C21 (i := 2) 0 rfl rfl (dk kX5_init 45 rfl) ?_
  refine g_bipush C21 (v := 6) (by decide) (dk kX5_init 46 rfl) ?_
  refine g_icmp_ge C21 (tgt := 114) (dk kX5_init 47 rfl) (by decide) (fun c => absurd c (by decide)) (fun _ => ?_)
  refine g_aload_n C21 (i := 0) 1 rfl rfl (dk kX5_init 48 rfl) ?_
  refine gR_4_5 C21 (zx_o1 C.ok k0 (by decide)) (C21.w wd_1_166) (r := (zn Z + 6)) (by simp [eμ35, eμ34, eμ33, eμ32, eμ31, eμ30, eμ29, eμ28, eμ27, eμ26, eμ25, eμ24, eμ23, eμ22, eμ21, eμ20, eμ19, eμ18, eμ17, eμ16, eμ15, eμ14, eμ13, eμ12, eμ11, eμ10, eμ9, eμ8, eμ7, eμ6, eμ5, eμ4, eμ3, eμ2, eμ1, sR, sI, sIr, nwM, up2, upR, hn0, hn1, hn2, hn3, hn4, hlt0, fr_X2_init, fr_X3_init, fr_X4_init, fr_X1_init]) (dk kX5_init 49 rfl) ?_
  refine g_iload_n C21 (i := 2) 0 rfl rfl (dk kX5_init 50 rfl) ?_
  refine g_new C21 E2 ⟨hct, by show (xs X).heap.size + _ = zb Z + (zn Z + 21); omega⟩ (by show zn Z + 21 < 1000; omega) (c := 1) inTX2 tyX2_ok rfl (by decide) wd_1_92 wd_1_129 wd_1_9 ob_1 ⟨Nat.le_of_ble_eq_true rfl, Nat.le_of_ble_eq_true rfl⟩ (dk kX5_init 51 rfl) ?_
  obtain ⟨μ36, eμ36⟩ : ∃ x : Mm, x = nwM μ35 (zn Z + 21) := ⟨_, rfl⟩
  refine g_eq eμ36 ?_
  refine g_zeq (show _ = zx Z [(2, 0), (8, 24), (8, 24), (8, 24), (8, 7), (10, 6), (9, 6), (3, 0), (8, 6), (3, 0), (8, 6), (3, 0), (8, 6), (3, 0), (8, 6), (3, 0), (8, 6), (3, 0), (8, 6), (1, 0), (1, 0), (1, 0)] from zx_zx) ?_
  have C22 := cx_zx (L := [(2, 0), (8, 24), (8, 24), (8, 24), (8, 7), (10, 6), (9, 6), (3, 0), (8, 6), (3, 0), (8, 6), (3, 0), (8, 6), (3, 0), (8, 6), (3, 0), (8, 6), (3, 0), (8, 6), (1, 0), (1, 0), (1, 0)]) hct C (by show zn Z + 22 ≤ 1000; omega)
  refine g_dup C22 rfl (dk kX5_init 52 rfl) ?_
  refine g_callIN C22 E2 ⟨hct, by show (xs X).heap.size + _ = zb Z + (zn Z + 22); omega⟩ (rest := [.ref (za Z (zn Z + 21)), .int 2, .ref (za Z (zn Z + 6))]) (host := "WornDots") 0 (ct_X2_init (zx_k1 (L := [(2, 0), (8, 24), (8, 24), (8, 24), (8, 7), (10, 6), (9, 6), (3, 0), (8, 6), (3, 0), (8, 6), (3, 0), (8, 6), (3, 0), (8, 6), (3, 0), (8, 6), (3, 0), (8, 6), (1, 0), (1, 0), (1, 0)]) 21 rfl) (by show zn Z + 22 + 0 ≤ 1000; omega)) (C22.nw.2.1 ("WornDots$State", 47, yX2_init, "WornDots") (List.mem_of_getElem? (i := 4) rfl)) wd_1_131 wd_1_9 wd_1_132 rfl ⟨by decide, by decide, by decide⟩ rfl (by decide) rfl (Nat.le_of_ble_eq_true rfl) ⟨Nat.le_of_ble_eq_true rfl, Nat.le_of_ble_eq_true rfl⟩ (dk kX5_init 53 rfl) ?_
  obtain ⟨μ37, eμ37⟩ : ∃ x : Mm, x = i_X2_init (zn Z + 22) μ36 (zn Z + 21) := ⟨_, rfl⟩
  refine g_eq eμ37 ?_
  refine g_zeq (show _ = zx Z [(2, 0), (8, 24), (8, 24), (8, 24), (8, 7), (10, 6), (9, 6), (3, 0), (8, 6), (3, 0), (8, 6), (3, 0), (8, 6), (3, 0), (8, 6), (3, 0), (8, 6), (3, 0), (8, 6), (1, 0), (1, 0), (1, 0)] from zx_zx) ?_
  have C22 := cx_zx (L := [(2, 0), (8, 24), (8, 24), (8, 24), (8, 7), (10, 6), (9, 6), (3, 0), (8, 6), (3, 0), (8, 6), (3, 0), (8, 6), (3, 0), (8, 6), (3, 0), (8, 6), (3, 0), (8, 6), (1, 0), (1, 0), (1, 0)]) hct C (by show zn Z + 22 ≤ 1000; omega)
  obtain ⟨μ38, eμ38⟩ : ∃ x : Mm, x = sR μ37 (zn Z + 6) (ix 2) (some (zn Z + 21)) := ⟨_, rfl⟩
  refine pA_9 C22 (zx_k1 (L := [(2, 0), (8, 24), (8, 24), (8, 24), (8, 7), (10, 6), (9, 6), (3, 0), (8, 6), (3, 0), (8, 6), (3, 0), (8, 6), (3, 0), (8, 6), (3, 0), (8, 6), (3, 0), (8, 6), (1, 0), (1, 0), (1, 0)]) 6 rfl) (by rw [(zx_k (L := [(2, 0), (8, 24), (8, 24), (8, 24), (8, 7), (10, 6), (9, 6), (3, 0), (8, 6), (3, 0), (8, 6), (3, 0), (8, 6), (3, 0), (8, 6), (3, 0), (8, 6), (3, 0), (8, 6), (1, 0), (1, 0), (1, 0)]) 6 rfl)]; decide) (zx_k1 (L := [(2, 0), (8, 24), (8, 24), (8, 24), (8, 7), (10, 6), (9, 6), (3, 0), (8, 6), (3, 0), (8, 6), (3, 0), (8, 6), (3, 0), (8, 6), (3, 0), (8, 6), (3, 0), (8, 6), (1, 0), (1, 0), (1, 0)]) 21 rfl) eμ38 (dk kX5_init 54 rfl) ?_
  refine g_iinc C22 (i := 2) (v := 3) (lv' := [(2, .int 3), (0, .ref (za Z a0)), (1, .ref (za Z a1))]) 0 (dk kX5_init 55 rfl) rfl (by decide) (by decide) rfl ?_
  refine g_goto C22 (tgt := 89) (dk kX5_init 56 rfl) (by decide) ?_
  refine g_iload_n C22 (i := 2) 0 rfl rfl (dk kX5_init 45 rfl) ?_
  refine g_bipush C22 (v := 6) (by decide) (dk kX5_init 46 rfl) ?_
  refine g_icmp_ge C22 (tgt := 114) (dk kX5_init 47 rfl) (by decide) (fun c => absurd c (by decide)) (fun _ => ?_)
  refine g_aload_n C22 (i := 0) 1 rfl rfl (dk kX5_init 48 rfl) ?_
  refine gR_4_5 C22 (zx_o1 C.ok k0 (by decide)) (C22.w wd_1_166) (r := (zn Z + 6)) (by simp [eμ38, eμ37, eμ36, eμ35, eμ34, eμ33, eμ32, eμ31, eμ30, eμ29, eμ28, eμ27, eμ26, eμ25, eμ24, eμ23, eμ22, eμ21, eμ20, eμ19, eμ18, eμ17, eμ16, eμ15, eμ14, eμ13, eμ12, eμ11, eμ10, eμ9, eμ8, eμ7, eμ6, eμ5, eμ4, eμ3, eμ2, eμ1, sR, sI, sIr, nwM, up2, upR, hn0, hn1, hn2, hn3, hn4, hlt0, fr_X2_init, fr_X3_init, fr_X4_init, fr_X1_init]) (dk kX5_init 49 rfl) ?_
  refine g_iload_n C22 (i := 2) 0 rfl rfl (dk kX5_init 50 rfl) ?_
  refine g_new C22 E2 ⟨hct, by show (xs X).heap.size + _ = zb Z + (zn Z + 22); omega⟩ (by show zn Z + 22 < 1000; omega) (c := 1) inTX2 tyX2_ok rfl (by decide) wd_1_92 wd_1_129 wd_1_9 ob_1 ⟨Nat.le_of_ble_eq_true rfl, Nat.le_of_ble_eq_true rfl⟩ (dk kX5_init 51 rfl) ?_
  obtain ⟨μ39, eμ39⟩ : ∃ x : Mm, x = nwM μ38 (zn Z + 22) := ⟨_, rfl⟩
  refine g_eq eμ39 ?_
  refine g_zeq (show _ = zx Z [(2, 0), (8, 24), (8, 24), (8, 24), (8, 7), (10, 6), (9, 6), (3, 0), (8, 6), (3, 0), (8, 6), (3, 0), (8, 6), (3, 0), (8, 6), (3, 0), (8, 6), (3, 0), (8, 6), (1, 0), (1, 0), (1, 0), (1, 0)] from zx_zx) ?_
  have C23 := cx_zx (L := [(2, 0), (8, 24), (8, 24), (8, 24), (8, 7), (10, 6), (9, 6), (3, 0), (8, 6), (3, 0), (8, 6), (3, 0), (8, 6), (3, 0), (8, 6), (3, 0), (8, 6), (3, 0), (8, 6), (1, 0), (1, 0), (1, 0), (1, 0)]) hct C (by show zn Z + 23 ≤ 1000; omega)
  refine g_dup C23 rfl (dk kX5_init 52 rfl) ?_
  refine g_callIN C23 E2 ⟨hct, by show (xs X).heap.size + _ = zb Z + (zn Z + 23); omega⟩ (rest := [.ref (za Z (zn Z + 22)), .int 3, .ref (za Z (zn Z + 6))]) (host := "WornDots") 0 (ct_X2_init (zx_k1 (L := [(2, 0), (8, 24), (8, 24), (8, 24), (8, 7), (10, 6), (9, 6), (3, 0), (8, 6), (3, 0), (8, 6), (3, 0), (8, 6), (3, 0), (8, 6), (3, 0), (8, 6), (3, 0), (8, 6), (1, 0), (1, 0), (1, 0), (1, 0)]) 22 rfl) (by show zn Z + 23 + 0 ≤ 1000; omega)) (C23.nw.2.1 ("WornDots$State", 47, yX2_init, "WornDots") (List.mem_of_getElem? (i := 4) rfl)) wd_1_131 wd_1_9 wd_1_132 rfl ⟨by decide, by decide, by decide⟩ rfl (by decide) rfl (Nat.le_of_ble_eq_true rfl) ⟨Nat.le_of_ble_eq_true rfl, Nat.le_of_ble_eq_true rfl⟩ (dk kX5_init 53 rfl) ?_
  obtain ⟨μ40, eμ40⟩ : ∃ x : Mm, x = i_X2_init (zn Z + 23) μ39 (zn Z + 22) := ⟨_, rfl⟩
  refine g_eq eμ40 ?_
  refine g_zeq (show _ = zx Z [(2, 0), (8, 24), (8, 24), (8, 24), (8, 7), (10, 6), (9, 6), (3, 0), (8, 6), (3, 0), (8, 6), (3, 0), (8, 6), (3, 0), (8, 6), (3, 0), (8, 6), (3, 0), (8, 6), (1, 0), (1, 0), (1, 0), (1, 0)] from zx_zx) ?_
  have C23 := cx_zx (L := [(2, 0), (8, 24), (8, 24), (8, 24), (8, 7), (10, 6), (9, 6), (3, 0), (8, 6), (3, 0), (8, 6), (3, 0), (8, 6), (3, 0), (8, 6), (3, 0), (8, 6), (3, 0), (8, 6), (1, 0), (1, 0), (1, 0), (1, 0)]) hct C (by show zn Z + 23 ≤ 1000; omega)
  obtain ⟨μ41, eμ41⟩ : ∃ x : Mm, x = sR μ40 (zn Z + 6) (ix 3) (some (zn Z + 22)) := ⟨_, rfl⟩
  refine pA_9 C23 (zx_k1 (L := [(2, 0), (8, 24), (8, 24), (8, 24), (8, 7), (10, 6), (9, 6), (3, 0), (8, 6), (3, 0), (8, 6), (3, 0), (8, 6), (3, 0), (8, 6), (3, 0), (8, 6), (3, 0), (8, 6), (1, 0), (1, 0), (1, 0), (1, 0)]) 6 rfl) (by rw [(zx_k (L := [(2, 0), (8, 24), (8, 24), (8, 24), (8, 7), (10, 6), (9, 6), (3, 0), (8, 6), (3, 0), (8, 6), (3, 0), (8, 6), (3, 0), (8, 6), (3, 0), (8, 6), (3, 0), (8, 6), (1, 0), (1, 0), (1, 0), (1, 0)]) 6 rfl)]; decide) (zx_k1 (L := [(2, 0), (8, 24), (8, 24), (8, 24), (8, 7), (10, 6), (9, 6), (3, 0), (8, 6), (3, 0), (8, 6), (3, 0), (8, 6), (3, 0), (8, 6), (3, 0), (8, 6), (3, 0), (8, 6), (1, 0), (1, 0), (1, 0), (1, 0)]) 22 rfl) eμ41 (dk kX5_init 54 rfl) ?_
  refine g_iinc C23 (i := 2) (v := 4) (lv' := [(2, .int 4), (0, .ref (za Z a0)), (1, .ref (za Z a1))]) 0 (dk kX5_init 55 rfl) rfl (by decide) (by decide) rfl ?_
  refine g_goto C23 (tgt := 89) (dk kX5_init 56 rfl) (by decide) ?_
  refine g_iload_n C23 (i := 2) 0 rfl rfl (dk kX5_init 45 rfl) ?_
  refine g_bipush C23 (v := 6) (by decide) (dk kX5_init 46 rfl) ?_
  refine g_icmp_ge C23 (tgt := 114) (dk kX5_init 47 rfl) (by decide) (fun c => absurd c (by decide)) (fun _ => ?_)
  refine g_aload_n C23 (i := 0) 1 rfl rfl (dk kX5_init 48 rfl) ?_
  refine gR_4_5 C23 (zx_o1 C.ok k0 (by decide)) (C23.w wd_1_166) (r := (zn Z + 6)) (by simp [eμ41, eμ40, eμ39, eμ38, eμ37, eμ36, eμ35, eμ34, eμ33, eμ32, eμ31, eμ30, eμ29, eμ28, eμ27, eμ26, eμ25, eμ24, eμ23, eμ22, eμ21, eμ20, eμ19, eμ18, eμ17, eμ16, eμ15, eμ14, eμ13, eμ12, eμ11, eμ10, eμ9, eμ8, eμ7, eμ6, eμ5, eμ4, eμ3, eμ2, eμ1, sR, sI, sIr, nwM, up2, upR, hn0, hn1, hn2, hn3, hn4, hlt0, fr_X2_init, fr_X3_init, fr_X4_init, fr_X1_init]) (dk kX5_init 49 rfl) ?_
  refine g_iload_n C23 (i := 2) 0 rfl rfl (dk kX5_init 50 rfl) ?_
  refine g_new C23 E2 ⟨hct, by show (xs X).heap.size + _ = zb Z + (zn Z + 23); omega⟩ (by show zn Z + 23 < 1000; omega) (c := 1) inTX2 tyX2_ok rfl (by decide) wd_1_92 wd_1_129 wd_1_9 ob_1 ⟨Nat.le_of_ble_eq_true rfl, Nat.le_of_ble_eq_true rfl⟩ (dk kX5_init 51 rfl) ?_
  obtain ⟨μ42, eμ42⟩ : ∃ x : Mm, x = nwM μ41 (zn Z + 23) := ⟨_, rfl⟩
  refine g_eq eμ42 ?_
  refine g_zeq (show _ = zx Z [(2, 0), (8, 24), (8, 24), (8, 24), (8, 7), (10, 6), (9, 6), (3, 0), (8, 6), (3, 0), (8, 6), (3, 0), (8, 6), (3, 0), (8, 6), (3, 0), (8, 6), (3, 0), (8, 6), (1, 0), (1, 0), (1, 0), (1, 0), (1, 0)] from zx_zx) ?_
  have C24 := cx_zx (L := [(2, 0), (8, 24), (8, 24), (8, 24), (8, 7), (10, 6), (9, 6), (3, 0), (8, 6), (3, 0), (8, 6), (3, 0), (8, 6), (3, 0), (8, 6), (3, 0), (8, 6), (3, 0), (8, 6), (1, 0), (1, 0), (1, 0), (1, 0), (1, 0)]) hct C (by show zn Z + 24 ≤ 1000; omega)
  refine g_dup C24 rfl (dk kX5_init 52 rfl) ?_
  refine g_callIN C24 E2 ⟨hct, by show (xs X).heap.size + _ = zb Z + (zn Z + 24); omega⟩ (rest := [.ref (za Z (zn Z + 23)), .int 4, .ref (za Z (zn Z + 6))]) (host := "WornDots") 0 (ct_X2_init (zx_k1 (L := [(2, 0), (8, 24), (8, 24), (8, 24), (8, 7), (10, 6), (9, 6), (3, 0), (8, 6), (3, 0), (8, 6), (3, 0), (8, 6), (3, 0), (8, 6), (3, 0), (8, 6), (3, 0), (8, 6), (1, 0), (1, 0), (1, 0), (1, 0), (1, 0)]) 23 rfl) (by show zn Z + 24 + 0 ≤ 1000; omega)) (C24.nw.2.1 ("WornDots$State", 47, yX2_init, "WornDots") (List.mem_of_getElem? (i := 4) rfl)) wd_1_131 wd_1_9 wd_1_132 rfl ⟨by decide, by decide, by decide⟩ rfl (by decide) rfl (Nat.le_of_ble_eq_true rfl) ⟨Nat.le_of_ble_eq_true rfl, Nat.le_of_ble_eq_true rfl⟩ (dk kX5_init 53 rfl) ?_
  obtain ⟨μ43, eμ43⟩ : ∃ x : Mm, x = i_X2_init (zn Z + 24) μ42 (zn Z + 23) := ⟨_, rfl⟩
  refine g_eq eμ43 ?_
  refine g_zeq (show _ = zx Z [(2, 0), (8, 24), (8, 24), (8, 24), (8, 7), (10, 6), (9, 6), (3, 0), (8, 6), (3, 0), (8, 6), (3, 0), (8, 6), (3, 0), (8, 6), (3, 0), (8, 6), (3, 0), (8, 6), (1, 0), (1, 0), (1, 0), (1, 0), (1, 0)] from zx_zx) ?_
  have C24 := cx_zx (L := [(2, 0), (8, 24), (8, 24), (8, 24), (8, 7), (10, 6), (9, 6), (3, 0), (8, 6), (3, 0), (8, 6), (3, 0), (8, 6), (3, 0), (8, 6), (3, 0), (8, 6), (3, 0), (8, 6), (1, 0), (1, 0), (1, 0), (1, 0), (1, 0)]) hct C (by show zn Z + 24 ≤ 1000; omega)
  obtain ⟨μ44, eμ44⟩ : ∃ x : Mm, x = sR μ43 (zn Z + 6) (ix 4) (some (zn Z + 23)) := ⟨_, rfl⟩
  refine pA_9 C24 (zx_k1 (L := [(2, 0), (8, 24), (8, 24), (8, 24), (8, 7), (10, 6), (9, 6), (3, 0), (8, 6), (3, 0), (8, 6), (3, 0), (8, 6), (3, 0), (8, 6), (3, 0), (8, 6), (3, 0), (8, 6), (1, 0), (1, 0), (1, 0), (1, 0), (1, 0)]) 6 rfl) (by rw [(zx_k (L := [(2, 0), (8, 24), (8, 24), (8, 24), (8, 7), (10, 6), (9, 6), (3, 0), (8, 6), (3, 0), (8, 6), (3, 0), (8, 6), (3, 0), (8, 6), (3, 0), (8, 6), (3, 0), (8, 6), (1, 0), (1, 0), (1, 0), (1, 0), (1, 0)]) 6 rfl)]; decide) (zx_k1 (L := [(2, 0), (8, 24), (8, 24), (8, 24), (8, 7), (10, 6), (9, 6), (3, 0), (8, 6), (3, 0), (8, 6), (3, 0), (8, 6), (3, 0), (8, 6), (3, 0), (8, 6), (3, 0), (8, 6), (1, 0), (1, 0), (1, 0), (1, 0), (1, 0)]) 23 rfl) eμ44 (dk kX5_init 54 rfl) ?_
  refine g_iinc C24 (i := 2) (v := 5) (lv' := [(2, .int 5), (0, .ref (za Z a0)), (1, .ref (za Z a1))]) 0 (dk kX5_init 55 rfl) rfl (by decide) (by decide) rfl ?_
  refine g_goto C24 (tgt := 89) (dk kX5_init 56 rfl) (by decide) ?_
  refine g_iload_n C24 (i := 2) 0 rfl rfl (dk kX5_init 45 rfl) ?_
  refine g_bipush C24 (v := 6) (by decide) (dk kX5_init 46 rfl) ?_
  refine g_icmp_ge C24 (tgt := 114) (dk kX5_init 47 rfl) (by decide) (fun c => absurd c (by decide)) (fun _ => ?_)
  refine g_aload_n C24 (i := 0) 1 rfl rfl (dk kX5_init 48 rfl) ?_
  refine gR_4_5 C24 (zx_o1 C.ok k0 (by decide)) (C24.w wd_1_166) (r := (zn Z + 6)) (by simp [eμ44, eμ43, eμ42, eμ41, eμ40, eμ39, eμ38, eμ37, eμ36, eμ35, eμ34, eμ33, eμ32, eμ31, eμ30, eμ29, eμ28, eμ27, eμ26, eμ25, eμ24, eμ23, eμ22, eμ21, eμ20, eμ19, eμ18, eμ17, eμ16, eμ15, eμ14, eμ13, eμ12, eμ11, eμ10, eμ9, eμ8, eμ7, eμ6, eμ5, eμ4, eμ3, eμ2, eμ1, sR, sI, sIr, nwM, up2, upR, hn0, hn1, hn2, hn3, hn4, hlt0, fr_X2_init, fr_X3_init, fr_X4_init, fr_X1_init]) (dk kX5_init 49 rfl) ?_
  refine g_iload_n C24 (i := 2) 0 rfl rfl (dk kX5_init 50 rfl) ?_
  refine g_new C24 E2 ⟨hct, by show (xs X).heap.size + _ = zb Z + (zn Z + 24); omega⟩ (by show zn Z + 24 < 1000; omega) (c := 1) inTX2 tyX2_ok rfl (by decide) wd_1_92 wd_1_129 wd_1_9 ob_1 ⟨Nat.le_of_ble_eq_true rfl, Nat.le_of_ble_eq_true rfl⟩ (dk kX5_init 51 rfl) ?_
  obtain ⟨μ45, eμ45⟩ : ∃ x : Mm, x = nwM μ44 (zn Z + 24) := ⟨_, rfl⟩
  refine g_eq eμ45 ?_
  refine g_zeq (show _ = zx Z [(2, 0), (8, 24), (8, 24), (8, 24), (8, 7), (10, 6), (9, 6), (3, 0), (8, 6), (3, 0), (8, 6), (3, 0), (8, 6), (3, 0), (8, 6), (3, 0), (8, 6), (3, 0), (8, 6), (1, 0), (1, 0), (1, 0), (1, 0), (1, 0), (1, 0)] from zx_zx) ?_
  have C25 := cx_zx (L := [(2, 0), (8, 24), (8, 24), (8, 24), (8, 7), (10, 6), (9, 6), (3, 0), (8, 6), (3, 0), (8, 6), (3, 0), (8, 6), (3, 0), (8, 6), (3, 0), (8, 6), (3, 0), (8, 6), (1, 0), (1, 0), (1, 0), (1, 0), (1, 0), (1, 0)]) hct C (by show zn Z + 25 ≤ 1000; omega)
  refine g_dup C25 rfl (dk kX5_init 52 rfl) ?_
  refine g_callIN C25 E2 ⟨hct, by show (xs X).heap.size + _ = zb Z + (zn Z + 25); omega⟩ (rest := [.ref (za Z (zn Z + 24)), .int 5, .ref (za Z (zn Z + 6))]) (host := "WornDots") 0 (ct_X2_init (zx_k1 (L := [(2, 0), (8, 24), (8, 24), (8, 24), (8, 7), (10, 6), (9, 6), (3, 0), (8, 6), (3, 0), (8, 6), (3, 0), (8, 6), (3, 0), (8, 6), (3, 0), (8, 6), (3, 0), (8, 6), (1, 0), (1, 0), (1, 0), (1, 0), (1, 0), (1, 0)]) 24 rfl) (by show zn Z + 25 + 0 ≤ 1000; omega)) (C25.nw.2.1 ("WornDots$State", 47, yX2_init, "WornDots") (List.mem_of_getElem? (i := 4) rfl)) wd_1_131 wd_1_9 wd_1_132 rfl ⟨by decide, by decide, by decide⟩ rfl (by decide) rfl (Nat.le_of_ble_eq_true rfl) ⟨Nat.le_of_ble_eq_true rfl, Nat.le_of_ble_eq_true rfl⟩ (dk kX5_init 53 rfl) ?_
  obtain ⟨μ46, eμ46⟩ : ∃ x : Mm, x = i_X2_init (zn Z + 25) μ45 (zn Z + 24) := ⟨_, rfl⟩
  refine g_eq eμ46 ?_
  refine g_zeq (show _ = zx Z [(2, 0), (8, 24), (8, 24), (8, 24), (8, 7), (10, 6), (9, 6), (3, 0), (8, 6), (3, 0), (8, 6), (3, 0), (8, 6), (3, 0), (8, 6), (3, 0), (8, 6), (3, 0), (8, 6), (1, 0), (1, 0), (1, 0), (1, 0), (1, 0), (1, 0)] from zx_zx) ?_
  have C25 := cx_zx (L := [(2, 0), (8, 24), (8, 24), (8, 24), (8, 7), (10, 6), (9, 6), (3, 0), (8, 6), (3, 0), (8, 6), (3, 0), (8, 6), (3, 0), (8, 6), (3, 0), (8, 6), (3, 0), (8, 6), (1, 0), (1, 0), (1, 0), (1, 0), (1, 0), (1, 0)]) hct C (by show zn Z + 25 ≤ 1000; omega)
  obtain ⟨μ47, eμ47⟩ : ∃ x : Mm, x = sR μ46 (zn Z + 6) (ix 5) (some (zn Z + 24)) := ⟨_, rfl⟩
  refine pA_9 C25 (zx_k1 (L := [(2, 0), (8, 24), (8, 24), (8, 24), (8, 7), (10, 6), (9, 6), (3, 0), (8, 6), (3, 0), (8, 6), (3, 0), (8, 6), (3, 0), (8, 6), (3, 0), (8, 6), (3, 0), (8, 6), (1, 0), (1, 0), (1, 0), (1, 0), (1, 0), (1, 0)]) 6 rfl) (by rw [(zx_k (L := [(2, 0), (8, 24), (8, 24), (8, 24), (8, 7), (10, 6), (9, 6), (3, 0), (8, 6), (3, 0), (8, 6), (3, 0), (8, 6), (3, 0), (8, 6), (3, 0), (8, 6), (3, 0), (8, 6), (1, 0), (1, 0), (1, 0), (1, 0), (1, 0), (1, 0)]) 6 rfl)]; decide) (zx_k1 (L := [(2, 0), (8, 24), (8, 24), (8, 24), (8, 7), (10, 6), (9, 6), (3, 0), (8, 6), (3, 0), (8, 6), (3, 0), (8, 6), (3, 0), (8, 6), (3, 0), (8, 6), (3, 0), (8, 6), (1, 0), (1, 0), (1, 0), (1, 0), (1, 0), (1, 0)]) 24 rfl) eμ47 (dk kX5_init 54 rfl) ?_
  refine g_iinc C25 (i := 2) (v := 6) (lv' := [(2, .int 6), (0, .ref (za Z a0)), (1, .ref (za Z a1))]) 0 (dk kX5_init 55 rfl) rfl (by decide) (by decide) rfl ?_
  refine g_goto C25 (tgt := 89) (dk kX5_init 56 rfl) (by decide) ?_
  refine g_iload_n C25 (i := 2) 0 rfl rfl (dk kX5_init 45 rfl) ?_
  refine g_bipush C25 (v := 6) (by decide) (dk kX5_init 46 rfl) ?_
  refine g_icmp_ge C25 (tgt := 114) (dk kX5_init 47 rfl) (by decide) (fun _ => ?_) (fun c => absurd (by decide) c)
  subst_vars
  exact g_vretZ C E (Nat.le_of_ble_eq_true rfl) (Nat.le_of_ble_eq_true rfl) (dk kX5_init 57 rfl)

theorem fr_X5_init {n b a1 : Nat} {μ : Mm} {k : Nat} (h1 : k ≠ b) (h2 : k < n) : (i_X5_init n μ b a1).2.1 k = μ.2.1 k := by
  have h3 : ∀ i, k ≠ n + i := fun i => by omega
  have h4 : k ≠ n := by omega
  have h5 : ∀ i, k < n + i := fun i => by omega
  funext j
  simp [i_X5_init, sR, sI, sIr, nwM, up2, upR, h1, h2, h3, h4, h5, fr_X2_init, fr_X3_init, fr_X4_init, fr_X1_init]

def qX7_init : List (Nat × Instr × Nat) := [(0, .aload_n 0, 1), (1, .invokespecial 1, 3), (4, .aload_n 0, 1), (5, .new 7, 3), (8, .dup, 1), (9, .invokespecial 9, 3), (12, .putfield 10, 3), (15, .aload_n 0, 1), (16, .iconst 4, 1), (17, .anewarray 16, 3), (20, .putfield 18, 3), (23, .new 22, 3), (26, .dup, 1), (27, .invokespecial 24, 3), (30, .astore_n 1, 1), (31, .aload_n 0, 1), (32, .new 16, 3), (35, .dup, 1), (36, .aload_n 1, 1), (37, .invokespecial 25, 3), (40, .putfield 28, 3), (43, .iconst 0, 1), (44, .istore_n 2, 1), (45, .iload_n 2, 1), (46, .iconst 4, 1), (47, .if_icmp .ge 23, 3), (50, .aload_n 0, 1), (51, .getfield 18, 3), (54, .iload_n 2, 1), (55, .new 16, 3), (58, .dup, 1), (59, .aload_n 1, 1), (60, .invokespecial 25, 3), (63, .aastore, 1), (64, .iinc 2 1, 3), (67, .goto (-22), 3), (70, .return_, 1)]
theorem kX7_init : ∀ q ∈ qX7_init, decode cX7_init q.1 = .ok q.2 := by decide +kernel
def i_X7_init (n : Nat) (μ : Mm) (a0 : Nat) : Mm :=
  let μ1 : Mm := nwM μ (n + 0)
  let μ2 : Mm := i_X1_init (n + 1) μ1 (n + 0)
  let μ3 : Mm := sR μ2 a0 0 (some (n + 0))
  let μ4 : Mm := nwM μ3 (n + 3)
  let μ5 : Mm := sR μ4 a0 1 (some (n + 3))
  let μ6 : Mm := nwM μ5 (n + 4)
  let μ7 : Mm := i_X3_init (n + 5) μ6 (n + 4)
  let μ8 : Mm := nwM μ7 (n + 8)
  let μ9 : Mm := i_X5_init (n + 9) μ8 (n + 8) (n + 4)
  let μ10 : Mm := sR μ9 a0 3 (some (n + 8))
  let μ11 : Mm := nwM μ10 (n + 34)
  let μ12 : Mm := i_X5_init (n + 35) μ11 (n + 34) (n + 4)
  let μ13 : Mm := sR μ12 (n + 3) (ix 0) (some (n + 34))
  let μ14 : Mm := nwM μ13 (n + 60)
  let μ15 : Mm := i_X5_init (n + 61) μ14 (n + 60) (n + 4)
  let μ16 : Mm := sR μ15 (n + 3) (ix 1) (some (n + 60))
  let μ17 : Mm := nwM μ16 (n + 86)
  let μ18 : Mm := i_X5_init (n + 87) μ17 (n + 86) (n + 4)
  let μ19 : Mm := sR μ18 (n + 3) (ix 2) (some (n + 86))
  let μ20 : Mm := nwM μ19 (n + 112)
  let μ21 : Mm := i_X5_init (n + 113) μ20 (n + 112) (n + 4)
  let μ22 : Mm := sR μ21 (n + 3) (ix 3) (some (n + 112))
  μ22
set_option maxRecDepth 100000 in
set_option maxHeartbeats 8000000 in
theorem ct_X7_init {l : Launch} {Z : ZZ} {μ : Mm} {a0 : Nat} (k0 : (zk Z a0).1 = 5) (h1000 : zn Z + 138 ≤ 1000) : CtM l Z true yX7_init cX7_init 3 none 3 138 1270 [.ref (za Z a0)] μ none (zx Z [(0, 0), (7, 150), (8, 3), (11, 4), (2, 0), (8, 24), (8, 24), (8, 24), (4, 0), (2, 0), (8, 24), (8, 24), (8, 24), (8, 7), (10, 6), (9, 6), (3, 0), (8, 6), (3, 0), (8, 6), (3, 0), (8, 6), (3, 0), (8, 6), (3, 0), (8, 6), (3, 0), (8, 6), (1, 0), (1, 0), (1, 0), (1, 0), (1, 0), (1, 0), (4, 0), (2, 0), (8, 24), (8, 24), (8, 24), (8, 7), (10, 6), (9, 6), (3, 0), (8, 6), (3, 0), (8, 6), (3, 0), (8, 6), (3, 0), (8, 6), (3, 0), (8, 6), (3, 0), (8, 6), (1, 0), (1, 0), (1, 0), (1, 0), (1, 0), (1, 0), (4, 0), (2, 0), (8, 24), (8, 24), (8, 24), (8, 7), (10, 6), (9, 6), (3, 0), (8, 6), (3, 0), (8, 6), (3, 0), (8, 6), (3, 0), (8, 6), (3, 0), (8, 6), (3, 0), (8, 6), (1, 0), (1, 0), (1, 0), (1, 0), (1, 0), (1, 0), (4, 0), (2, 0), (8, 24), (8, 24), (8, 24), (8, 7), (10, 6), (9, 6), (3, 0), (8, 6), (3, 0), (8, 6), (3, 0), (8, 6), (3, 0), (8, 6), (3, 0), (8, 6), (3, 0), (8, 6), (1, 0), (1, 0), (1, 0), (1, 0), (1, 0), (1, 0), (4, 0), (2, 0), (8, 24), (8, 24), (8, 24), (8, 7), (10, 6), (9, 6), (3, 0), (8, 6), (3, 0), (8, 6), (3, 0), (8, 6), (3, 0), (8, 6), (3, 0), (8, 6), (3, 0), (8, 6), (1, 0), (1, 0), (1, 0), (1, 0), (1, 0), (1, 0)]) (i_X7_init (zn Z) μ a0) := by
  refine ct_ofI rfl rfl (Nat.le_of_ble_eq_true rfl) (fun X C E hini => ?_)
  obtain ⟨hs0, hct⟩ := C.2.2.2.2.2.2 rfl
  have hlt0 : a0 < zn Z := zk_lt C.ok k0 (by decide)
  have hn0 : ∀ i, a0 ≠ zn Z + i := fun i => by omega
  have hn1 : a0 ≠ zn Z := by omega
  have hn4 : ∀ i, a0 < zn Z + i := fun i => by omega
  have hn2 : ∀ i, zn Z + i ≠ a0 := fun i => by omega
  have hn3 : zn Z ≠ a0 := by omega
  have C0 := cx_zx (L := []) hct C (by show zn Z + 0 ≤ 1000; omega)
  have E2 := E.2
  show G Z X 3 0 0 0 [(0, .ref (za Z a0))] [] μ
  refine g_zin C.ok ?_
  refine g_aload_n C0 (i := 0) 0 rfl rfl (dk kX7_init 0 rfl) ?_
  refine g_objI C0 E2 wd_1_23 wd_1_24 wd_1_25 (by decide) (Nat.le_of_ble_eq_true rfl) (dk kX7_init 1 rfl) ?_
  refine g_aload_n C0 (i := 0) 0 rfl rfl (dk kX7_init 2 rfl) ?_
  refine g_new C0 E2 ⟨hct, by show (xs X).heap.size + _ = zb Z + (zn Z + 0); omega⟩ (by show zn Z + 0 < 1000; omega) (c := 0) inTX1 tyX1_ok rfl (by decide) wd_1_26 wd_1_27 wd_1_2 ob_0 ⟨Nat.le_of_ble_eq_true rfl, Nat.le_of_ble_eq_true rfl⟩ (dk kX7_init 3 rfl) ?_
  obtain ⟨μ1, eμ1⟩ : ∃ x : Mm, x = nwM μ (zn Z + 0) := ⟨_, rfl⟩
  refine g_eq eμ1 ?_
  refine g_zeq (show _ = zx Z [(0, 0)] from zx_zx) ?_
  have C1 := cx_zx (L := [(0, 0)]) hct C (by show zn Z + 1 ≤ 1000; omega)
  refine g_dup C1 rfl (dk kX7_init 4 rfl) ?_
  refine g_callIN C1 E2 ⟨hct, by show (xs X).heap.size + _ = zb Z + (zn Z + 1); omega⟩ (rest := [.ref (za Z (zn Z + 0)), .ref (za Z a0)]) (host := "WornDots") 0 (ct_X1_init (zx_k1 (L := [(0, 0)]) 0 rfl) (by show zn Z + 1 + 2 ≤ 1000; omega)) (C1.nw.2.1 ("WornDots", 9, yX1_init, "WornDots") (List.mem_of_getElem? (i := 0) rfl)) wd_1_29 wd_1_2 wd_1_30 rfl ⟨by decide, by decide, by decide⟩ rfl (by decide) rfl (Nat.le_of_ble_eq_true rfl) ⟨Nat.le_of_ble_eq_true rfl, Nat.le_of_ble_eq_true rfl⟩ (dk kX7_init 5 rfl) ?_
  obtain ⟨μ2, eμ2⟩ : ∃ x : Mm, x = i_X1_init (zn Z + 1) μ1 (zn Z + 0) := ⟨_, rfl⟩
  refine g_eq eμ2 ?_
  refine g_zeq (show _ = zx Z [(0, 0), (7, 150), (8, 3)] from zx_zx) ?_
  have C3 := cx_zx (L := [(0, 0), (7, 150), (8, 3)]) hct C (by show zn Z + 3 ≤ 1000; omega)
  obtain ⟨μ3, eμ3⟩ : ∃ x : Mm, x = sR μ2 a0 0 (some (zn Z + 0)) := ⟨_, rfl⟩
  refine pF_5_0 C3 (zx_o1 C.ok k0 (by decide)) (C3.w wd_1_187) hini rfl eμ3 (dk kX7_init 6 rfl) ?_
  refine g_aload_n C3 (i := 0) 0 rfl rfl (dk kX7_init 7 rfl) ?_
  refine g_iconst C3 (v := 4) (by decide) (dk kX7_init 8 rfl) ?_
  refine g_newR C3 E2 ⟨hct, by show (xs X).heap.size + _ = zb Z + (zn Z + 3); omega⟩ (by show zn Z + 3 < 1000; omega) 4 (CN := "WornDots$State") 11 4 rfl (by decide) (by decide) rfl wd_1_54 (C3.nw.2.2.2.2.2.2 "WornDots$State" (List.mem_of_getElem? (i := 0) rfl)) (by decide) (by decide) (by decide) ⟨Nat.le_of_ble_eq_true rfl, Nat.le_of_ble_eq_true rfl⟩ (dk kX7_init 9 rfl) ?_
  obtain ⟨μ4, eμ4⟩ : ∃ x : Mm, x = nwM μ3 (zn Z + 3) := ⟨_, rfl⟩
  refine g_eq eμ4 ?_
  refine g_zeq (show _ = zx Z [(0, 0), (7, 150), (8, 3), (11, 4)] from zx_zx) ?_
  have C4 := cx_zx (L := [(0, 0), (7, 150), (8, 3), (11, 4)]) hct C (by show zn Z + 4 ≤ 1000; omega)
  obtain ⟨μ5, eμ5⟩ : ∃ x : Mm, x = sR μ4 a0 1 (some (zn Z + 3)) := ⟨_, rfl⟩
  refine pF_5_1 C4 (zx_o1 C.ok k0 (by decide)) (C4.w wd_1_188) hini rfl eμ5 (dk kX7_init 10 rfl) ?_
  refine g_new C4 E2 ⟨hct, by show (xs X).heap.size + _ = zb Z + (zn Z + 4); omega⟩ (by show zn Z + 4 < 1000; omega) (c := 2) inTX3 tyX3_ok rfl (by decide) wd_1_56 wd_1_57 wd_1_5 ob_2 ⟨Nat.le_of_ble_eq_true rfl, Nat.le_of_ble_eq_true rfl⟩ (dk kX7_init 11 rfl) ?_
  obtain ⟨μ6, eμ6⟩ : ∃ x : Mm, x = nwM μ5 (zn Z + 4) := ⟨_, rfl⟩
  refine g_eq eμ6 ?_
  refine g_zeq (show _ = zx Z [(0, 0), (7, 150), (8, 3), (11, 4), (2, 0)] from zx_zx) ?_
  have C5 := cx_zx (L := [(0, 0), (7, 150), (8, 3), (11, 4), (2, 0)]) hct C (by show zn Z + 5 ≤ 1000; omega)
  refine g_dup C5 rfl (dk kX7_init 12 rfl) ?_
  refine g_callIN C5 E2 ⟨hct, by show (xs X).heap.size + _ = zb Z + (zn Z + 5); omega⟩ (rest := [.ref (za Z (zn Z + 4))]) (host := "WornDots") 0 (ct_X3_init (zx_k1 (L := [(0, 0), (7, 150), (8, 3), (11, 4), (2, 0)]) 4 rfl) (by show zn Z + 5 + 3 ≤ 1000; omega)) (C5.nw.2.1 ("WornDots", 24, yX3_init, "WornDots") (List.mem_of_getElem? (i := 1) rfl)) wd_1_59 wd_1_5 wd_1_60 rfl ⟨by decide, by decide, by decide⟩ rfl (by decide) rfl (Nat.le_of_ble_eq_true rfl) ⟨Nat.le_of_ble_eq_true rfl, Nat.le_of_ble_eq_true rfl⟩ (dk kX7_init 13 rfl) ?_
  obtain ⟨μ7, eμ7⟩ : ∃ x : Mm, x = i_X3_init (zn Z + 5) μ6 (zn Z + 4) := ⟨_, rfl⟩
  refine g_eq eμ7 ?_
  refine g_zeq (show _ = zx Z [(0, 0), (7, 150), (8, 3), (11, 4), (2, 0), (8, 24), (8, 24), (8, 24)] from zx_zx) ?_
  have C8 := cx_zx (L := [(0, 0), (7, 150), (8, 3), (11, 4), (2, 0), (8, 24), (8, 24), (8, 24)]) hct C (by show zn Z + 8 ≤ 1000; omega)
  refine g_astore_n C8 (i := 1) (lv' := [(1, .ref (za Z (zn Z + 4))), (0, .ref (za Z a0))]) (dk kX7_init 14 rfl) rfl (by decide) rfl ?_
  refine g_aload_n C8 (i := 0) 1 rfl rfl (dk kX7_init 15 rfl) ?_
  refine g_new C8 E2 ⟨hct, by show (xs X).heap.size + _ = zb Z + (zn Z + 8); omega⟩ (by show zn Z + 8 < 1000; omega) (c := 4) inTX5 tyX5_ok rfl (by decide) wd_1_54 wd_1_83 wd_1_6 ob_4 ⟨Nat.le_of_ble_eq_true rfl, Nat.le_of_ble_eq_true rfl⟩ (dk kX7_init 16 rfl) ?_
  obtain ⟨μ8, eμ8⟩ : ∃ x : Mm, x = nwM μ7 (zn Z + 8) := ⟨_, rfl⟩
  refine g_eq eμ8 ?_
  refine g_zeq (show _ = zx Z [(0, 0), (7, 150), (8, 3), (11, 4), (2, 0), (8, 24), (8, 24), (8, 24), (4, 0)] from zx_zx) ?_
  have C9 := cx_zx (L := [(0, 0), (7, 150), (8, 3), (11, 4), (2, 0), (8, 24), (8, 24), (8, 24), (4, 0)]) hct C (by show zn Z + 9 ≤ 1000; omega)
  refine g_dup C9 rfl (dk kX7_init 17 rfl) ?_
  refine g_aload_n C9 (i := 1) 0 rfl rfl (dk kX7_init 18 rfl) ?_
  refine g_callI C9 E2 ⟨hct, by show (xs X).heap.size + _ = zb Z + (zn Z + 9); omega⟩ (rest := [.ref (za Z (zn Z + 8)), .ref (za Z a0)]) 1 (ct_X5_init (zx_k1 (L := [(0, 0), (7, 150), (8, 3), (11, 4), (2, 0), (8, 24), (8, 24), (8, 24), (4, 0)]) 8 rfl) (zx_k1 (L := [(0, 0), (7, 150), (8, 3), (11, 4), (2, 0), (8, 24), (8, 24), (8, 24), (4, 0)]) 4 rfl) (by show zn Z + 9 + 25 ≤ 1000; omega)) wd_1_84 wd_1_85 wd_1_6 wd_1_86 rfl ⟨by decide, by decide, by decide⟩ rfl (by decide) rfl (Nat.le_of_ble_eq_true rfl) ⟨Nat.le_of_ble_eq_true rfl, Nat.le_of_ble_eq_true rfl⟩ (dk kX7_init 19 rfl) ?_
  obtain ⟨μ9, eμ9⟩ : ∃ x : Mm, x = i_X5_init (zn Z + 9) μ8 (zn Z + 8) (zn Z + 4) := ⟨_, rfl⟩
  refine g_eq eμ9 ?_
  refine g_zeq (show _ = zx Z [(0, 0), (7, 150), (8, 3), (11, 4), (2, 0), (8, 24), (8, 24), (8, 24), (4, 0), (2, 0), (8, 24), (8, 24), (8, 24), (8, 7), (10, 6), (9, 6), (3, 0), (8, 6), (3, 0), (8, 6), (3, 0), (8, 6), (3, 0), (8, 6), (3, 0), (8, 6), (3, 0), (8, 6), (1, 0), (1, 0), (1, 0), (1, 0), (1, 0), (1, 0)] from zx_zx) ?_
  have C34 := cx_zx (L := [(0, 0), (7, 150), (8, 3), (11, 4), (2, 0), (8, 24), (8, 24), (8, 24), (4, 0), (2, 0), (8, 24), (8, 24), (8, 24), (8, 7), (10, 6), (9, 6), (3, 0), (8, 6), (3, 0), (8, 6), (3, 0), (8, 6), (3, 0), (8, 6), (3, 0), (8, 6), (3, 0), (8, 6), (1, 0), (1, 0), (1, 0), (1, 0), (1, 0), (1, 0)]) hct C (by show zn Z + 34 ≤ 1000; omega)
  obtain ⟨μ10, eμ10⟩ : ∃ x : Mm, x = sR μ9 a0 3 (some (zn Z + 8)) := ⟨_, rfl⟩
  refine pF_5_3 C34 (zx_o1 C.ok k0 (by decide)) (C34.w wd_1_190) hini rfl eμ10 (dk kX7_init 20 rfl) ?_
  refine g_iconst C34 (v := 0) (by decide) (dk kX7_init 21 rfl) ?_
  refine g_istore_n C34 (i := 2) (lv' := [(2, .int 0), (1, .ref (za Z (zn Z + 4))), (0, .ref (za Z a0))]) (dk kX7_init 22 rfl) rfl (by decide) rfl ?_
  refine g_iload_n C34 (i := 2) 0 rfl rfl (dk kX7_init 23 rfl) ?_
  refine g_iconst C34 (v := 4) (by decide) (dk kX7_init 24 rfl) ?_
  refine g_icmp_ge C34 (tgt := 70) (dk kX7_init 25 rfl) (by decide) (fun c => absurd c (by decide)) (fun _ => ?_)
  refine g_aload_n C34 (i := 0) 2 rfl rfl (dk kX7_init 26 rfl) ?_
  refine gR_5_1 C34 (zx_o1 C.ok k0 (by decide)) (C34.w wd_1_188) (r := (zn Z + 3)) (by simp [eμ10, eμ9, eμ8, eμ7, eμ6, eμ5, eμ4, eμ3, eμ2, eμ1, sR, sI, sIr, nwM, up2, upR, hn0, hn1, hn2, hn3, hn4, hlt0, fr_X2_init, fr_X3_init, fr_X4_init, fr_X1_init, fr_X5_init]) (dk kX7_init 27 rfl) ?_
  refine g_iload_n C34 (i := 2) 0 rfl rfl (dk kX7_init 28 rfl) ?_
  refine g_new C34 E2 ⟨hct, by show (xs X).heap.size + _ = zb Z + (zn Z + 34); omega⟩ (by show zn Z + 34 < 1000; omega) (c := 4) inTX5 tyX5_ok rfl (by decide) wd_1_54 wd_1_83 wd_1_6 ob_4 ⟨Nat.le_of_ble_eq_true rfl, Nat.le_of_ble_eq_true rfl⟩ (dk kX7_init 29 rfl) ?_
  obtain ⟨μ11, eμ11⟩ : ∃ x : Mm, x = nwM μ10 (zn Z + 34) := ⟨_, rfl⟩
  refine g_eq eμ11 ?_
  refine g_zeq (show _ = zx Z [(0, 0), (7, 150), (8, 3), (11, 4), (2, 0), (8, 24), (8, 24), (8, 24), (4, 0), (2, 0), (8, 24), (8, 24), (8, 24), (8, 7), (10, 6), (9, 6), (3, 0), (8, 6), (3, 0), (8, 6), (3, 0), (8, 6), (3, 0), (8, 6), (3, 0), (8, 6), (3, 0), (8, 6), (1, 0), (1, 0), (1, 0), (1, 0), (1, 0), (1, 0), (4, 0)] from zx_zx) ?_
  have C35 := cx_zx (L := [(0, 0), (7, 150), (8, 3), (11, 4), (2, 0), (8, 24), (8, 24), (8, 24), (4, 0), (2, 0), (8, 24), (8, 24), (8, 24), (8, 7), (10, 6), (9, 6), (3, 0), (8, 6), (3, 0), (8, 6), (3, 0), (8, 6), (3, 0), (8, 6), (3, 0), (8, 6), (3, 0), (8, 6), (1, 0), (1, 0), (1, 0), (1, 0), (1, 0), (1, 0), (4, 0)]) hct C (by show zn Z + 35 ≤ 1000; omega)
  refine g_dup C35 rfl (dk kX7_init 30 rfl) ?_
  refine g_aload_n C35 (i := 1) 1 rfl rfl (dk kX7_init 31 rfl) ?_
  refine g_callI C35 E2 ⟨hct, by show (xs X).heap.size + _ = zb Z + (zn Z + 35); omega⟩ (rest := [.ref (za Z (zn Z + 34)), .int 0, .ref (za Z (zn Z + 3))]) 1 (ct_X5_init (zx_k1 (L := [(0, 0), (7, 150), (8, 3), (11, 4), (2, 0), (8, 24), (8, 24), (8, 24), (4, 0), (2, 0), (8, 24), (8, 24), (8, 24), (8, 7), (10, 6), (9, 6), (3, 0), (8, 6), (3, 0), (8, 6), (3, 0), (8, 6), (3, 0), (8, 6), (3, 0), (8, 6), (3, 0), (8, 6), (1, 0), (1, 0), (1, 0), (1, 0), (1, 0), (1, 0), (4, 0)]) 34 rfl) (zx_k1 (L := [(0, 0), (7, 150), (8, 3), (11, 4), (2, 0), (8, 24), (8, 24), (8, 24), (4, 0), (2, 0), (8, 24), (8, 24), (8, 24), (8, 7), (10, 6), (9, 6), (3, 0), (8, 6), (3, 0), (8, 6), (3, 0), (8, 6), (3, 0), (8, 6), (3, 0), (8, 6), (3, 0), (8, 6), (1, 0), (1, 0), (1, 0), (1, 0), (1, 0), (1, 0), (4, 0)]) 4 rfl) (by show zn Z + 35 + 25 ≤ 1000; omega)) wd_1_84 wd_1_85 wd_1_6 wd_1_86 rfl ⟨by decide, by decide, by decide⟩ rfl (by decide) rfl (Nat.le_of_ble_eq_true rfl) ⟨Nat.le_of_ble_eq_true rfl, Nat.le_of_ble_eq_true rfl⟩ (dk kX7_init 32 rfl) ?_
  obtain ⟨μ12, eμ12⟩ : ∃ x : Mm, x = i_X5_init (zn Z + 35) μ11 (zn Z + 34) (zn Z + 4) := ⟨_, rfl⟩
  refine g_eq eμ12 ?_
  refine g_zeq (show _ = zx Z [(0, 0), (7, 150), (8, 3), (11, 4), (2, 0), (8, 24), (8, 24), (8, 24), (4, 0), (2, 0), (8, 24), (8, 24), (8, 24), (8, 7), (10, 6), (9, 6), (3, 0), (8, 6), (3, 0), (8, 6), (3, 0), (8, 6), (3, 0), (8, 6), (3, 0), (8, 6), (3, 0), (8, 6), (1, 0), (1, 0), (1, 0), (1, 0), (1, 0), (1, 0), (4, 0), (2, 0), (8, 24), (8, 24), (8, 24), (8, 7), (10, 6), (9, 6), (3, 0), (8, 6), (3, 0), (8, 6), (3, 0), (8, 6), (3, 0), (8, 6), (3, 0), (8, 6), (3, 0), (8, 6), (1, 0), (1, 0), (1, 0), (1, 0), (1, 0), (1, 0)] from zx_zx) ?_
  have C60 := cx_zx (L := [(0, 0), (7, 150), (8, 3), (11, 4), (2, 0), (8, 24), (8, 24), (8, 24), (4, 0), (2, 0), (8, 24), (8, 24), (8, 24), (8, 7), (10, 6), (9, 6), (3, 0), (8, 6), (3, 0), (8, 6), (3, 0), (8, 6), (3, 0), (8, 6), (3, 0), (8, 6), (3, 0), (8, 6), (1, 0), (1, 0), (1, 0), (1, 0), (1, 0), (1, 0), (4, 0), (2, 0), (8, 24), (8, 24), (8, 24), (8, 7), (10, 6), (9, 6), (3, 0), (8, 6), (3, 0), (8, 6), (3, 0), (8, 6), (3, 0), (8, 6), (3, 0), (8, 6), (3, 0), (8, 6), (1, 0), (1, 0), (1, 0), (1, 0), (1, 0), (1, 0)]) hct C (by show zn Z + 60 ≤ 1000; omega)
  obtain ⟨μ13, eμ13⟩ : ∃ x : Mm, x = sR μ12 (zn Z + 3) (ix 0) (some (zn Z + 34)) := ⟨_, rfl⟩
  refine pA_11 C60 (zx_k1 (L := [(0, 0), (7, 150), (8, 3), (11, 4), (2, 0), (8, 24), (8, 24), (8, 24), (4, 0), (2, 0), (8, 24), (8, 24), (8, 24), (8, 7), (10, 6), (9, 6), (3, 0), (8, 6), (3, 0), (8, 6), (3, 0), (8, 6), (3, 0), (8, 6), (3, 0), (8, 6), (3, 0), (8, 6), (1, 0), (1, 0), (1, 0), (1, 0), (1, 0), (1, 0), (4, 0), (2, 0), (8, 24), (8, 24), (8, 24), (8, 7), (10, 6), (9, 6), (3, 0), (8, 6), (3, 0), (8, 6), (3, 0), (8, 6), (3, 0), (8, 6), (3, 0), (8, 6), (3, 0), (8, 6), (1, 0), (1, 0), (1, 0), (1, 0), (1, 0), (1, 0)]) 3 rfl) (by rw [(zx_k (L := [(0, 0), (7, 150), (8, 3), (11, 4), (2, 0), (8, 24), (8, 24), (8, 24), (4, 0), (2, 0), (8, 24), (8, 24), (8, 24), (8, 7), (10, 6), (9, 6), (3, 0), (8, 6), (3, 0), (8, 6), (3, 0), (8, 6), (3, 0), (8, 6), (3, 0), (8, 6), (3, 0), (8, 6), (1, 0), (1, 0), (1, 0), (1, 0), (1, 0), (1, 0), (4, 0), (2, 0), (8, 24), (8, 24), (8, 24), (8, 7), (10, 6), (9, 6), (3, 0), (8, 6), (3, 0), (8, 6), (3, 0), (8, 6), (3, 0), (8, 6), (3, 0), (8, 6), (3, 0), (8, 6), (1, 0), (1, 0), (1, 0), (1, 0), (1, 0), (1, 0)]) 3 rfl)]; decide) (zx_k1 (L := [(0, 0), (7, 150), (8, 3), (11, 4), (2, 0), (8, 24), (8, 24), (8, 24), (4, 0), (2, 0), (8, 24), (8, 24), (8, 24), (8, 7), (10, 6), (9, 6), (3, 0), (8, 6), (3, 0), (8, 6), (3, 0), (8, 6), (3, 0), (8, 6), (3, 0), (8, 6), (3, 0), (8, 6), (1, 0), (1, 0), (1, 0), (1, 0), (1, 0), (1, 0), (4, 0), (2, 0), (8, 24), (8, 24), (8, 24), (8, 7), (10, 6), (9, 6), (3, 0), (8, 6), (3, 0), (8, 6), (3, 0), (8, 6), (3, 0), (8, 6), (3, 0), (8, 6), (3, 0), (8, 6), (1, 0), (1, 0), (1, 0), (1, 0), (1, 0), (1, 0)]) 34 rfl) eμ13 (dk kX7_init 33 rfl) ?_
  refine g_iinc C60 (i := 2) (v := 1) (lv' := [(2, .int 1), (1, .ref (za Z (zn Z + 4))), (0, .ref (za Z a0))]) 0 (dk kX7_init 34 rfl) rfl (by decide) (by decide) rfl ?_
  refine g_goto C60 (tgt := 45) (dk kX7_init 35 rfl) (by decide) ?_
  refine g_iload_n C60 (i := 2) 0 rfl rfl (dk kX7_init 23 rfl) ?_
  refine g_iconst C60 (v := 4) (by decide) (dk kX7_init 24 rfl) ?_
  refine g_icmp_ge C60 (tgt := 70) (dk kX7_init 25 rfl) (by decide) (fun c => absurd c (by decide)) (fun _ => ?_)
  refine g_aload_n C60 (i := 0) 2 rfl rfl (dk kX7_init 26 rfl) ?_
  refine gR_5_1 C60 (zx_o1 C.ok k0 (by decide)) (C60.w wd_1_188) (r := (zn Z + 3)) (by simp [eμ13, eμ12, eμ11, eμ10, eμ9, eμ8, eμ7, eμ6, eμ5, eμ4, eμ3, eμ2, eμ1, sR, sI, sIr, nwM, up2, upR, hn0, hn1, hn2, hn3, hn4, hlt0, fr_X2_init, fr_X3_init, fr_X4_init, fr_X1_init, fr_X5_init]) (dk kX7_init 27 rfl) ?_
  refine g_iload_n C60 (i := 2) 0 rfl rfl (dk kX7_init 28 rfl) ?_
  refine g_new C60 E2 ⟨hct, by show (xs X).heap.size + _ = zb Z + (zn Z + 60); omega⟩ (by show zn Z + 60 < 1000; omega) (c := 4) inTX5 tyX5_ok rfl (by decide) wd_1_54 wd_1_83 wd_1_6 ob_4 ⟨Nat.le_of_ble_eq_true rfl, Nat.le_of_ble_eq_true rfl⟩ (dk kX7_init 29 rfl) ?_
  obtain ⟨μ14, eμ14⟩ : ∃ x : Mm, x = nwM μ13 (zn Z + 60) := ⟨_, rfl⟩
  refine g_eq eμ14 ?_
  refine g_zeq (show _ = zx Z [(0, 0), (7, 150), (8, 3), (11, 4), (2, 0), (8, 24), (8, 24), (8, 24), (4, 0), (2, 0), (8, 24), (8, 24), (8, 24), (8, 7), (10, 6), (9, 6), (3, 0), (8, 6), (3, 0), (8, 6), (3, 0), (8, 6), (3, 0), (8, 6), (3, 0), (8, 6), (3, 0), (8, 6), (1, 0), (1, 0), (1, 0), (1, 0), (1, 0), (1, 0), (4, 0), (2, 0), (8, 24), (8, 24), (8, 24), (8, 7), (10, 6), (9, 6), (3, 0), (8, 6), (3, 0), (8, 6), (3, 0), (8, 6), (3, 0), (8, 6), (3, 0), (8, 6), (3, 0), (8, 6), (1, 0), (1, 0), (1, 0), (1, 0), (1, 0), (1, 0), (4, 0)] from zx_zx) ?_
  have C61 := cx_zx (L := [(0, 0), (7, 150), (8, 3), (11, 4), (2, 0), (8, 24), (8, 24), (8, 24), (4, 0), (2, 0), (8, 24), (8, 24), (8, 24), (8, 7), (10, 6), (9, 6), (3, 0), (8, 6), (3, 0), (8, 6), (3, 0), (8, 6), (3, 0), (8, 6), (3, 0), (8, 6), (3, 0), (8, 6), (1, 0), (1, 0), (1, 0), (1, 0), (1, 0), (1, 0), (4, 0), (2, 0), (8, 24), (8, 24), (8, 24), (8, 7), (10, 6), (9, 6), (3, 0), (8, 6), (3, 0), (8, 6), (3, 0), (8, 6), (3, 0), (8, 6), (3, 0), (8, 6), (3, 0), (8, 6), (1, 0), (1, 0), (1, 0), (1, 0), (1, 0), (1, 0), (4, 0)]) hct C (by show zn Z + 61 ≤ 1000; omega)
  refine g_dup C61 rfl (dk kX7_init 30 rfl) ?_
  refine g_aload_n C61 (i := 1) 1 rfl rfl (dk kX7_init 31 rfl) ?_
  refine g_callI C61 E2 ⟨hct, by show (xs X).heap.size + _ = zb Z + (zn Z + 61); omega⟩ (rest := [.ref (za Z (zn Z + 60)), .int 1, .ref (za Z (zn Z + 3))]) 1 (ct_X5_init (zx_k1 (L := [(0, 0), (7, 150), (8, 3), (11, 4), (2, 0), (8, 24), (8, 24), (8, 24), (4, 0), (2, 0), (8, 24), (8, 24), (8, 24), (8, 7), (10, 6), (9, 6), (3, 0), (8, 6), (3, 0), (8, 6), (3, 0), (8, 6), (3, 0), (8, 6), (3, 0), (8, 6), (3, 0), (8, 6), (1, 0), (1, 0), (1, 0), (1, 0), (1, 0), (1, 0), (4, 0), (2, 0), (8, 24), (8, 24), (8, 24), (8, 7), (10, 6), (9, 6), (3, 0), (8, 6), (3, 0), (8, 6), (3, 0), (8, 6), (3, 0), (8, 6), (3, 0), (8, 6), (3, 0), (8, 6), (1, 0), (1, 0), (1, 0), (1, 0), (1, 0), (1, 0), (4, 0)]) 60 rfl) (zx_k1 (L := [(0, 0), (7, 150), (8, 3), (11, 4), (2, 0), (8, 24), (8, 24), (8, 24), (4, 0), (2, 0), (8, 24), (8, 24), (8, 24), (8, 7), (10, 6), (9, 6), (3, 0), (8, 6), (3, 0), (8, 6), (3, 0), (8, 6), (3, 0), (8, 6), (3, 0), (8, 6), (3, 0), (8, 6), (1, 0), (1, 0), (1, 0), (1, 0), (1, 0), (1, 0), (4, 0), (2, 0), (8, 24), (8, 24), (8, 24), (8, 7), (10, 6), (9, 6), (3, 0), (8, 6), (3, 0), (8, 6), (3, 0), (8, 6), (3, 0), (8, 6), (3, 0), (8, 6), (3, 0), (8, 6), (1, 0), (1, 0), (1, 0), (1, 0), (1, 0), (1, 0), (4, 0)]) 4 rfl) (by show zn Z + 61 + 25 ≤ 1000; omega)) wd_1_84 wd_1_85 wd_1_6 wd_1_86 rfl ⟨by decide, by decide, by decide⟩ rfl (by decide) rfl (Nat.le_of_ble_eq_true rfl) ⟨Nat.le_of_ble_eq_true rfl, Nat.le_of_ble_eq_true rfl⟩ (dk kX7_init 32 rfl) ?_
  obtain ⟨μ15, eμ15⟩ : ∃ x : Mm, x = i_X5_init (zn Z + 61) μ14 (zn Z + 60) (zn Z + 4) := ⟨_, rfl⟩
  refine g_eq eμ15 ?_
  refine g_zeq (show _ = zx Z [(0, 0), (7, 150), (8, 3), (11, 4), (2, 0), (8, 24), (8, 24), (8, 24), (4, 0), (2, 0), (8, 24), (8, 24), (8, 24), (8, 7), (10, 6), (9, 6), (3, 0), (8, 6), (3, 0), (8, 6), (3, 0), (8, 6), (3, 0), (8, 6), (3, 0), (8, 6), (3, 0), (8, 6), (1, 0), (1, 0), (1, 0), (1, 0), (1, 0), (1, 0), (4, 0), (2, 0), (8, 24), (8, 24), (8, 24), (8, 7), (10, 6), (9, 6), (3, 0), (8, 6), (3, 0), (8, 6), (3, 0), (8, 6), (3, 0), (8, 6), (3, 0), (8, 6), (3, 0), (8, 6), (1, 0), (1, 0), (1, 0), (1, 0), (1, 0), (1, 0), (4, 0), (2, 0), (8, 24), (8, 24), (8, 24), (8, 7), (10, 6), (9, 6), (3, 0), (8, 6), (3, 0), (8, 6), (3, 0), (8, 6), (3, 0), (8, 6), (3, 0), (8, 6), (3, 0), (8, 6), (1, 0), (1, 0), (1, 0), (1, 0), (1, 0), (1, 0)] from zx_zx) ?_
  have C86 := cx_zx (L := [(0, 0), (7, 150), (8, 3), (11, 4), (2, 0), (8, 24), (8, 24), (8, 24), (4, 0), (2, 0), (8, 24), (8, 24), (8, 24), (8, 7), (10, 6), (9, 6), (3, 0), (8, 6), (3, 0), (8, 6), (3, 0), (8, 6), (3, 0), (8, 6), (3, 0), (8, 6), (3, 0), (8, 6), (1, 0), (1, 0), (1, 0), (1, 0), (1, 0), (1, 0), (4, 0), (2, 0), (8, 24), (8, 24), (8, 24), (8, 7), (10, 6), (9, 6), (3, 0), (8, 6), (3, 0), (8, 6), (3, 0), (8, 6), (3, 0), (8, 6), (3, 0), (8, 6), (3, 0), (8, 6), (1, 0), (1, 0), (1, 0), (1, 0), (1, 0), (1, 0), (4, 0), (2, 0), (8, 24), (8, 24), (8, 24), (8, 7), (10, 6), (9, 6), (3, 0), (8, 6), (3, 0), (8, 6), (3, 0), (8, 6), (3, 0), (8, 6), (3, 0), (8, 6), (3, 0), (8, 6), (1, 0), (1, 0), (1, 0), (1, 0), (1, 0), (1, 0)]) hct C (by show zn Z + 86 ≤ 1000; omega)
  obtain ⟨μ16, eμ16⟩ : ∃ x : Mm, x = sR μ15 (zn Z + 3) (ix 1) (some (zn Z + 60)) := ⟨_, rfl⟩
  refine pA_11 C86 (zx_k1 (L := [(0, 0), (7, 150), (8, 3), (11, 4), (2, 0), (8, 24), (8, 24), (8, 24), (4, 0), (2, 0), (8, 24), (8, 24), (8, 24), (8, 7), (10, 6), (9, 6), (3, 0), (8, 6), (3, 0), (8, 6), (3, 0), (8, 6), (3, 0), (8, 6), (3, 0), (8, 6), (3, 0), (8, 6), (1, 0), (1, 0), (1, 0), (1, 0), (1, 0), (1, 0), (4, 0), (2, 0), (8, 24), (8, 24), (8, 24), (8, 7), (10, 6), (9, 6), (3, 0), (8, 6), (3, 0), (8, 6), (3, 0), (8, 6), (3, 0), (8, 6), (3, 0), (8, 6), (3, 0), (8, 6), (1, 0), (1, 0), (1, 0), (1, 0), (1, 0), (1, 0), (4, 0), (2, 0), (8, 24), (8, 24), (8, 24), (8, 7), (10, 6), (9, 6), (3, 0), (8, 6), (3, 0), (8, 6), (3, 0), (8, 6), (3, 0), (8, 6), (3, 0), (8, 6), (3, 0), (8, 6), (1, 0), (1, 0), (1, 0), (1, 0), (1, 0), (1, 0)]) 3 rfl) (by rw [(zx_k (L := [(0, 0), (7, 150), (8, 3), (11, 4), (2, 0), (8, 24), (8, 24), (8, 24), (4, 0), (2, 0), (8, 24), (8, 24), (8, 24), (8, 7), (10, 6), (9, 6), (3, 0), (8, 6), (3, 0), (8, 6), (3, 0), (8, 6), (3, 0), (8, 6), (3, 0), (8, 6), (3, 0), (8, 6), (1, 0), (1, 0), (1, 0), (1, 0), (1, 0), (1, 0), (4, 0), (2, 0), (8, 24), (8, 24), (8, 24), (8, 7), (10, 6), (9, 6), (3, 0), (8, 6), (3, 0), (8, 6), (3, 0), (8, 6), (3, 0), (8, 6), (3, 0), (8, 6), (3, 0), (8, 6), (1, 0), (1, 0), (1, 0), (1, 0), (1, 0), (1, 0), (4, 0), (2, 0), (8, 24), (8, 24), (8, 24), (8, 7), (10, 6), (9, 6), (3, 0), (8, 6), (3, 0), (8, 6), (3, 0), (8, 6), (3, 0), (8, 6), (3, 0), (8, 6), (3, 0), (8, 6), (1, 0), (1, 0), (1, 0), (1, 0), (1, 0), (1, 0)]) 3 rfl)]; decide) (zx_k1 (L := [(0, 0), (7, 150), (8, 3), (11, 4), (2, 0), (8, 24), (8, 24), (8, 24), (4, 0), (2, 0), (8, 24), (8, 24), (8, 24), (8, 7), (10, 6), (9, 6), (3, 0), (8, 6), (3, 0), (8, 6), (3, 0), (8, 6), (3, 0), (8, 6), (3, 0), (8, 6), (3, 0), (8, 6), (1, 0), (1, 0), (1, 0), (1, 0), (1, 0), (1, 0), (4, 0), (2, 0), (8, 24), (8, 24), (8, 24), (8, 7), (10, 6), (9, 6), (3, 0), (8, 6), (3, 0), (8, 6), (3, 0), (8, 6), (3, 0), (8, 6), (3, 0), (8, 6), (3, 0), (8, 6), (1, 0), (1, 0), (1, 0), (1, 0), (1, 0), (1, 0), (4, 0), (2, 0), (8, 24), (8, 24), (8, 24), (8, 7), (10, 6), (9, 6), (3, 0), (8, 6), (3, 0), (8, 6), (3, 0), (8, 6), (3, 0), (8, 6), (3, 0), (8, 6), (3, 0), (8, 6), (1, 0), (1, 0), (1, 0), (1, 0), (1, 0), (1, 0)]) 60 rfl) eμ16 (dk kX7_init 33 rfl) ?_
  refine g_iinc C86 (i := 2) (v := 2) (lv' := [(2, .int 2), (1, .ref (za Z (zn Z + 4))), (0, .ref (za Z a0))]) 0 (dk kX7_init 34 rfl) rfl (by decide) (by decide) rfl ?_
  refine g_goto C86 (tgt := 45) (dk kX7_init 35 rfl) (by decide) ?_
  refine g_iload_n C86 (i := 2) 0 rfl rfl (dk kX7_init 23 rfl) ?_
  refine g_iconst C86 (v := 4) (by decide) (dk kX7_init 24 rfl) ?_
  refine g_icmp_ge C86 (tgt := 70) (dk kX7_init 25 rfl) (by decide) (fun c => absurd c (by decide)) (fun _ => ?_)
  refine g_aload_n C86 (i := 0) 2 rfl rfl (dk kX7_init 26 rfl) ?_
  refine gR_5_1 C86 (zx_o1 C.ok k0 (by decide)) (C86.w wd_1_188) (r := (zn Z + 3)) (by simp [eμ16, eμ15, eμ14, eμ13, eμ12, eμ11, eμ10, eμ9, eμ8, eμ7, eμ6, eμ5, eμ4, eμ3, eμ2, eμ1, sR, sI, sIr, nwM, up2, upR, hn0, hn1, hn2, hn3, hn4, hlt0, fr_X2_init, fr_X3_init, fr_X4_init, fr_X1_init, fr_X5_init]) (dk kX7_init 27 rfl) ?_
  refine g_iload_n C86 (i := 2) 0 rfl rfl (dk kX7_init 28 rfl) ?_
  refine g_new C86 E2 ⟨hct, by show (xs X).heap.size + _ = zb Z + (zn Z + 86); omega⟩ (by show zn Z + 86 < 1000; omega) (c := 4) inTX5 tyX5_ok rfl (by decide) wd_1_54 wd_1_83 wd_1_6 ob_4 ⟨Nat.le_of_ble_eq_true rfl, Nat.le_of_ble_eq_true rfl⟩ (dk kX7_init 29 rfl) ?_
  obtain ⟨μ17, eμ17⟩ : ∃ x : Mm, x = nwM μ16 (zn Z + 86) := ⟨_, rfl⟩
  refine g_eq eμ17 ?_
  refine g_zeq (show _ = zx Z [(0, 0), (7, 150), (8, 3), (11, 4), (2, 0), (8, 24), (8, 24), (8, 24), (4, 0), (2, 0), (8, 24), (8, 24), (8, 24), (8, 7), (10, 6), (9, 6), (3, 0), (8, 6), (3, 0), (8, 6), (3, 0), (8, 6), (3, 0), (8, 6), (3, 0), (8, 6), (3, 0), (8, 6), (1, 0), (1, 0), (1, 0), (1, 0), (1, 0), (1, 0), (4, 0), (2, 0), (8, 24), (8, 24), (8, 24), (8, 7), (10, 6), (9, 6), (3, 0), (8, 6), (3, 0), (8, 6), (3, 0), (8, 6), (3, 0), (8, 6), (3, 0), (8, 6), (3, 0), (8, 6), (1, 0), (1, 0), (1, 0), (1, 0), (1, 0), (1, 0), (4, 0), (2, 0), (8, 24), (8, 24), (8, 24), (8, 7), (10, 6), (9, 6), (3, 0), (8, 6), (3, 0), (8, 6), (3, 0), (8, 6), (3, 0), (8, 6), (3, 0), (8, 6), (3, 0), (8, 6), (1, 0), (1, 0), (1, 0), (1, 0), (1, 0), (1, 0), (4, 0)] from zx_zx) ?_
  have C87 := cx_zx (L := [(0, 0), (7, 150), (8, 3), (11, 4), (2, 0), (8, 24), (8, 24), (8, 24), (4, 0), (2, 0), (8, 24), (8, 24), (8, 24), (8, 7), (10, 6), (9, 6), (3, 0), (8, 6), (3, 0), (8, 6), (3, 0), (8, 6), (3, 0), (8, 6), (3, 0), (8, 6), (3, 0), (8, 6), (1, 0), (1, 0), (1, 0), (1, 0), (1, 0), (1, 0), (4, 0), (2, 0), (8, 24), (8, 24), (8, 24), (8, 7), (10, 6), (9, 6), (3, 0), (8, 6), (3, 0), (8, 6), (3, 0), (8, 6), (3, 0), (8, 6), (3, 0), (8, 6), (3, 0), (8, 6), (1, 0), (1, 0), (1, 0), (1, 0), (1, 0), (1, 0), (4, 0), (2, 0), (8, 24), (8, 24), (8, 24), (8, 7), (10, 6), (9, 6), (3, 0), (8, 6), (3, 0), (8, 6), (3, 0), (8, 6), (3, 0), (8, 6), (3, 0), (8, 6), (3, 0), (8, 6), (1, 0), (1, 0), (1, 0), (1, 0), (1, 0), (1, 0), (4, 0)]) hct C (by show zn Z + 87 ≤ 1000; omega)
  refine g_dup C87 rfl (dk kX7_init 30 rfl) ?_
  refine g_aload_n C87 (i := 1) 1 rfl rfl (dk kX7_init 31 rfl) ?_
  refine g_callI C87 E2 ⟨hct, by show (xs X).heap.size + _ = zb Z + (zn Z + 87); omega⟩ (rest := [.ref (za Z (zn Z + 86)), .int 2, .ref (za Z (zn Z + 3))]) 1 (ct_X5_init (zx_k1 (L := [(0, 0), (7, 150), (8, 3), (11, 4), (2, 0), (8, 24), (8, 24), (8, 24), (4, 0), (2, 0), (8, 24), (8, 24), (8, 24), (8, 7), (10, 6), (9, 6), (3, 0), (8, 6), (3, 0), (8, 6), (3, 0), (8, 6), (3, 0), (8, 6), (3, 0), (8, 6), (3, 0), (8, 6), (1, 0), (1, 0), (1, 0), (1, 0), (1, 0), (1, 0), (4, 0), (2, 0), (8, 24), (8, 24), (8, 24), (8, 7), (10, 6), (9, 6), (3, 0), (8, 6), (3, 0), (8, 6), (3, 0), (8, 6), (3, 0), (8, 6), (3, 0), (8, 6), (3, 0), (8, 6), (1, 0), (1, 0), (1, 0), (1, 0), (1, 0), (1, 0), (4, 0), (2, 0), (8, 24), (8, 24), (8, 24), (8, 7), (10, 6), (9, 6), (3, 0), (8, 6), (3, 0), (8, 6), (3, 0), (8, 6), (3, 0), (8, 6), (3, 0), (8, 6), (3, 0), (8, 6), (1, 0), (1, 0), (1, 0), (1, 0), (1, 0), (1, 0), (4, 0)]) 86 rfl) (zx_k1 (L := [(0, 0), (7, 150), (8, 3), (11, 4), (2, 0), (8, 24), (8, 24), (8, 24), (4, 0), (2, 0), (8, 24), (8, 24), (8, 24), (8, 7), (10, 6), (9, 6), (3, 0), (8, 6), (3, 0), (8, 6), (3, 0), (8, 6), (3, 0), (8, 6), (3, 0), (8, 6), (3, 0), (8, 6), (1, 0), (1, 0), (1, 0), (1, 0), (1, 0), (1, 0), (4, 0), (2, 0), (8, 24), (8, 24), (8, 24), (8, 7), (10, 6), (9, 6), (3, 0), (8, 6), (3, 0), (8, 6), (3, 0), (8, 6), (3, 0), (8, 6), (3, 0), (8, 6), (3, 0), (8, 6), (1, 0), (1, 0), (1, 0), (1, 0), (1, 0), (1, 0), (4, 0), (2, 0), (8, 24), (8, 24), (8, 24), (8, 7), (10, 6), (9, 6), (3, 0), (8, 6), (3, 0), (8, 6), (3, 0), (8, 6), (3, 0), (8, 6), (3, 0), (8, 6), (3, 0), (8, 6), (1, 0), (1, 0), (1, 0), (1, 0), (1, 0), (1, 0), (4, 0)]) 4 rfl) (by show zn Z + 87 + 25 ≤ 1000; omega)) wd_1_84 wd_1_85 wd_1_6 wd_1_86 rfl ⟨by decide, by decide, by decide⟩ rfl (by decide) rfl (Nat.le_of_ble_eq_true rfl) ⟨Nat.le_of_ble_eq_true rfl, Nat.le_of_ble_eq_true rfl⟩ (dk kX7_init 32 rfl) ?_
  obtain ⟨μ18, eμ18⟩ : ∃ x : Mm, x = i_X5_init (zn Z + 87) μ17 (zn Z + 86) (zn Z + 4) := ⟨_, rfl⟩
  refine g_eq eμ18 ?_
  refine g_zeq (show _ = zx Z [(0, 0), (7, 150), (8, 3), (11, 4), (2, 0), (8, 24), (8, 24), (8, 24), (4, 0), (2, 0), (8, 24), (8, 24), (8, 24), (8, 7), (10, 6), (9, 6), (3, 0), (8, 6), (3, 0), (8, 6), (3, 0), (8, 6), (3, 0), (8, 6), (3, 0), (8, 6), (3, 0), (8, 6), (1, 0), (1, 0), (1, 0), (1, 0), (1, 0), (1, 0), (4, 0), (2, 0), (8, 24), (8, 24), (8, 24), (8, 7), (10, 6), (9, 6), (3, 0), (8, 6), (3, 0), (8, 6), (3, 0), (8, 6), (3, 0), (8, 6), (3, 0), (8, 6), (3, 0), (8, 6), (1, 0), (1, 0), (1, 0), (1, 0), (1, 0), (1, 0), (4, 0), (2, 0), (8, 24), (8, 24), (8, 24), (8, 7), (10, 6), (9, 6), (3, 0), (8, 6), (3, 0), (8, 6), (3, 0), (8, 6), (3, 0), (8, 6), (3, 0), (8, 6), (3, 0), (8, 6), (1, 0), (1, 0), (1, 0), (1, 0), (1, 0), (1, 0), (4, 0), (2, 0), (8, 24), (8, 24), (8, 24), (8, 7), (10, 6), (9, 6), (3, 0), (8, 6), (3, 0), (8, 6), (3, 0), (8, 6), (3, 0), (8, 6), (3, 0), (8, 6), (3, 0), (8, 6), (1, 0), (1, 0), (1, 0), (1, 0), (1, 0), (1, 0)] from zx_zx) ?_
  have C112 := cx_zx (L := [(0, 0), (7, 150), (8, 3), (11, 4), (2, 0), (8, 24), (8, 24), (8, 24), (4, 0), (2, 0), (8, 24), (8, 24), (8, 24), (8, 7), (10, 6), (9, 6), (3, 0), (8, 6), (3, 0), (8, 6), (3, 0), (8, 6), (3, 0), (8, 6), (3, 0), (8, 6), (3, 0), (8, 6), (1, 0), (1, 0), (1, 0), (1, 0), (1, 0), (1, 0), (4, 0), (2, 0), (8, 24), (8, 24), (8, 24), (8, 7), (10, 6), (9, 6), (3, 0), (8, 6), (3, 0), (8, 6), (3, 0), (8, 6), (3, 0), (8, 6), (3, 0), (8, 6), (3, 0), (8, 6), (1, 0), (1, 0), (1, 0), (1, 0), (1, 0), (1, 0), (4, 0), (2, 0), (8, 24), (8, 24), (8, 24), (8, 7), (10, 6), (9, 6), (3, 0), (8, 6), (3, 0), (8, 6), (3, 0), (8, 6), (3, 0), (8, 6), (3, 0), (8, 6), (3, 0), (8, 6), (1, 0), (1, 0), (1, 0), (1, 0), (1, 0), (1, 0), (4, 0), (2, 0), (8, 24), (8, 24), (8, 24), (8, 7), (10, 6), (9, 6), (3, 0), (8, 6), (3, 0), (8, 6), (3, 0), (8, 6), (3, 0), (8, 6), (3, 0), (8, 6), (3, 0), (8, 6), (1, 0), (1, 0), (1, 0), (1, 0), (1, 0), (1, 0)]) hct C (by show zn Z + 112 ≤ 1000; omega)
  obtain ⟨μ19, eμ19⟩ : ∃ x : Mm, x = sR μ18 (zn Z + 3) (ix 2) (some (zn Z + 86)) := ⟨_, rfl⟩
  refine pA_11 C112 (zx_k1 (L := [(0, 0), (7, 150), (8, 3), (11, 4), (2, 0), (8, 24), (8, 24), (8, 24), (4, 0), (2, 0), (8, 24), (8, 24), (8, 24), (8, 7), (10, 6), (9, 6), (3, 0), (8, 6), (3, 0), (8, 6), (3, 0), (8, 6), (3, 0), (8, 6), (3, 0), (8, 6), (3, 0), (8, 6), (1, 0), (1, 0), (1, 0), (1, 0), (1, 0), (1, 0), (4, 0), (2, 0), (8, 24), (8, 24), (8, 24), (8, 7), (10, 6), (9, 6), (3, 0), (8, 6), (3, 0), (8, 6), (3, 0), (8, 6), (3, 0), (8, 6), (3, 0), (8, 6), (3, 0), (8, 6), (1, 0), (1, 0), (1, 0), (1, 0), (1, 0), (1, 0), (4, 0), (2, 0), (8, 24), (8, 24), (8, 24), (8, 7), (10, 6), (9, 6), (3, 0), (8, 6), (3, 0), (8, 6), (3, 0), (8, 6), (3, 0), (8, 6), (3, 0), (8, 6), (3, 0), (8, 6), (1, 0), (1, 0), (1, 0), (1, 0), (1, 0), (1, 0), (4, 0), (2, 0), (8, 24), (8, 24), (8, 24), (8, 7), (10, 6), (9, 6), (3, 0), (8, 6), (3, 0), (8, 6), (3, 0), (8, 6), (3, 0), (8, 6), (3, 0), (8, 6), (3, 0), (8, 6), (1, 0), (1, 0), (1, 0), (1, 0), (1, 0), (1, 0)]) 3 rfl) (by rw [(zx_k (L := [(0, 0), (7, 150), (8, 3), (11, 4), (2, 0), (8, 24), (8, 24), (8, 24), (4, 0), (2, 0), (8, 24), (8, 24), (8, 24), (8, 7), (10, 6), (9, 6), (3, 0), (8, 6), (3, 0), (8, 6), (3, 0), (8, 6), (3, 0), (8, 6), (3, 0), (8, 6), (3, 0), (8, 6), (1, 0), (1, 0), (1, 0), (1, 0), (1, 0), (1, 0), (4, 0), (2, 0), (8, 24), (8, 24), (8, 24), (8, 7), (10, 6), (9, 6), (3, 0), (8, 6), (3, 0), (8, 6), (3, 0), (8, 6), (3, 0), (8, 6), (3, 0), (8, 6), (3, 0), (8, 6), (1, 0), (1, 0), (1, 0), (1, 0), (1, 0), (1, 0), (4, 0), (2, 0), (8, 24), (8, 24), (8, 24), (8, 7), (10, 6), (9, 6), (3, 0), (8, 6), (3, 0), (8, 6), (3, 0), (8, 6), (3, 0), (8, 6), (3, 0), (8, 6), (3, 0), (8, 6), (1, 0), (1, 0), (1, 0), (1, 0), (1, 0), (1, 0), (4, 0), (2, 0), (8, 24), (8, 24), (8, 24), (8, 7), (10, 6), (9, 6), (3, 0), (8, 6), (3, 0), (8, 6), (3, 0), (8, 6), (3, 0), (8, 6), (3, 0), (8, 6), (3, 0), (8, 6), (1, 0), (1, 0), (1, 0), (1, 0), (1, 0), (1, 0)]) 3 rfl)]; decide) (zx_k1 (L := [(0, 0), (7, 150), (8, 3), (11, 4), (2, 0), (8, 24), (8, 24), (8, 24), (4, 0), (2, 0), (8, 24), (8, 24), (8, 24), (8, 7), (10, 6), (9, 6), (3, 0), (8, 6), (3, 0), (8, 6), (3, 0), (8, 6), (3, 0), (8, 6), (3, 0), (8, 6), (3, 0), (8, 6), (1, 0), (1, 0), (1, 0), (1, 0), (1, 0), (1, 0), (4, 0), (2, 0), (8, 24), (8, 24), (8, 24), (8, 7), (10, 6), (9, 6), (3, 0), (8, 6), (3, 0), (8, 6), (3, 0), (8, 6), (3, 0), (8, 6), (3, 0), (8, 6), (3, 0), (8, 6), (1, 0), (1, 0), (1, 0), (1, 0), (1, 0), (1, 0), (4, 0), (2, 0), (8, 24), (8, 24), (8, 24), (8, 7), (10, 6), (9, 6), (3, 0), (8, 6), (3, 0), (8, 6), (3, 0), (8, 6), (3, 0), (8, 6), (3, 0), (8, 6), (3, 0), (8, 6), (1, 0), (1, 0), (1, 0), (1, 0), (1, 0), (1, 0), (4, 0), (2, 0), (8, 24), (8, 24), (8, 24), (8, 7), (10, 6), (9, 6), (3, 0), (8, 6), (3, 0), (8, 6), (3, 0), (8, 6), (3, 0), (8, 6), (3, 0), (8, 6), (3, 0), (8, 6), (1, 0), (1, 0), (1, 0), (1, 0), (1, 0), (1, 0)]) 86 rfl) eμ19 (dk kX7_init 33 rfl) ?_
  refine g_iinc C112 (i := 2) (v := 3) (lv' := [(2, .int 3), (1, .ref (za Z (zn Z + 4))), (0, .ref (za Z a0))]) 0 (dk kX7_init 34 rfl) rfl (by decide) (by decide) rfl ?_
  refine g_goto C112 (tgt := 45) (dk kX7_init 35 rfl) (by decide) ?_
  refine g_iload_n C112 (i := 2) 0 rfl rfl (dk kX7_init 23 rfl) ?_
  refine g_iconst C112 (v := 4) (by decide) (dk kX7_init 24 rfl) ?_
  refine g_icmp_ge C112 (tgt := 70) (dk kX7_init 25 rfl) (by decide) (fun c => absurd c (by decide)) (fun _ => ?_)
  refine g_aload_n C112 (i := 0) 2 rfl rfl (dk kX7_init 26 rfl) ?_
  refine gR_5_1 C112 (zx_o1 C.ok k0 (by decide)) (C112.w wd_1_188) (r := (zn Z + 3)) (by simp [eμ19, eμ18, eμ17, eμ16, eμ15, eμ14, eμ13, eμ12, eμ11, eμ10, eμ9, eμ8, eμ7, eμ6, eμ5, eμ4, eμ3, eμ2, eμ1, sR, sI, sIr, nwM, up2, upR, hn0, hn1, hn2, hn3, hn4, hlt0, fr_X2_init, fr_X3_init, fr_X4_init, fr_X1_init, fr_X5_init]) (dk kX7_init 27 rfl) ?_
  refine g_iload_n C112 (i := 2) 0 rfl rfl (dk kX7_init 28 rfl) ?_
  refine g_new C112 E2 ⟨hct, by show (xs X).heap.size + _ = zb Z + (zn Z + 112); omega⟩ (by show zn Z + 112 < 1000; omega) (c := 4) inTX5 tyX5_ok rfl (by decide) wd_1_54 wd_1_83 wd_1_6 ob_4 ⟨Nat.le_of_ble_eq_true rfl, Nat.le_of_ble_eq_true rfl⟩ (dk kX7_init 29 rfl) ?_
  obtain ⟨μ20, eμ20⟩ : ∃ x : Mm, x = nwM μ19 (zn Z + 112) := ⟨_, rfl⟩
  refine g_eq eμ20 ?_
  refine g_zeq (show _ = zx Z [(0, 0), (7, 150), (8, 3), (11, 4), (2, 0), (8, 24), (8, 24), (8, 24), (4, 0), (2, 0), (8, 24), (8, 24), (8, 24), (8, 7), (10, 6), (9, 6), (3, 0), (8, 6), (3, 0), (8, 6), (3, 0), (8, 6), (3, 0), (8, 6), (3, 0), (8, 6), (3, 0), (8, 6), (1, 0), (1, 0), (1, 0), (1, 0), (1, 0), (1, 0), (4, 0), (2, 0), (8, 24), (8, 24), (8, 24), (8, 7), (10, 6), (9, 6), (3, 0), (8, 6), (3, 0), (8, 6), (3, 0), (8, 6), (3, 0), (8, 6), (3, 0), (8, 6), (3, 0), (8, 6), (1, 0), (1, 0), (1, 0), (1, 0), (1, 0), (1, 0), (4, 0), (2, 0), (8, 24), (8, 24), (8, 24), (8, 7), (10, 6), (9, 6), (3, 0), (8, 6), (3, 0), (8, 6), (3, 0), (8, 6), (3, 0), (8, 6), (3, 0), (8, 6), (3, 0), (8, 6), (1, 0), (1, 0), (1, 0), (1, 0), (1, 0), (1, 0), (4, 0), (2, 0), (8, 24), (8, 24), (8, 24), (8, 7), (10, 6), (9, 6), (3, 0), (8, 6), (3, 0), (8, 6), (3, 0), (8, 6), (3, 0), (8, 6), (3, 0), (8, 6), (3, 0), (8, 6), (1, 0), (1, 0), (1, 0), (1, 0), (1, 0), (1, 0), (4, 0)] from zx_zx) ?_
  have C113 := cx_zx (L := [(0, 0), (7, 150), (8, 3), (11, 4), (2, 0), (8, 24), (8, 24), (8, 24), (4, 0), (2, 0), (8, 24), (8, 24), (8, 24), (8, 7), (10, 6), (9, 6), (3, 0), (8, 6), (3, 0), (8, 6), (3, 0), (8, 6), (3, 0), (8, 6), (3, 0), (8, 6), (3, 0), (8, 6), (1, 0), (1, 0), (1, 0), (1, 0), (1, 0), (1, 0), (4, 0), (2, 0), (8, 24), (8, 24), (8, 24), (8, 7), (10, 6), (9, 6), (3, 0), (8, 6), (3, 0), (8, 6), (3, 0), (8, 6), (3, 0), (8, 6), (3, 0), (8, 6), (3, 0), (8, 6), (1, 0), (1, 0), (1, 0), (1, 0), (1, 0), (1, 0), (4, 0), (2, 0), (8, 24), (8, 24), (8, 24), (8, 7), (10, 6), (9, 6), (3, 0), (8, 6), (3, 0), (8, 6), (3, 0), (8, 6), (3, 0), (8, 6), (3, 0), (8, 6), (3, 0), (8, 6), (1, 0), (1, 0), (1, 0), (1, 0), (1, 0), (1, 0), (4, 0), (2, 0), (8, 24), (8, 24), (8, 24), (8, 7), (10, 6), (9, 6), (3, 0), (8, 6), (3, 0), (8, 6), (3, 0), (8, 6), (3, 0), (8, 6), (3, 0), (8, 6), (3, 0), (8, 6), (1, 0), (1, 0), (1, 0), (1, 0), (1, 0), (1, 0), (4, 0)]) hct C (by show zn Z + 113 ≤ 1000; omega)
  refine g_dup C113 rfl (dk kX7_init 30 rfl) ?_
  refine g_aload_n C113 (i := 1) 1 rfl rfl (dk kX7_init 31 rfl) ?_
  refine g_callI C113 E2 ⟨hct, by show (xs X).heap.size + _ = zb Z + (zn Z + 113); omega⟩ (rest := [.ref (za Z (zn Z + 112)), .int 3, .ref (za Z (zn Z + 3))]) 1 (ct_X5_init (zx_k1 (L := [(0, 0), (7, 150), (8, 3), (11, 4), (2, 0), (8, 24), (8, 24), (8, 24), (4, 0), (2, 0), (8, 24), (8, 24), (8, 24), (8, 7), (10, 6), (9, 6), (3, 0), (8, 6), (3, 0), (8, 6), (3, 0), (8, 6), (3, 0), (8, 6), (3, 0), (8, 6), (3, 0), (8, 6), (1, 0), (1, 0), (1, 0), (1, 0), (1, 0), (1, 0), (4, 0), (2, 0), (8, 24), (8, 24), (8, 24), (8, 7), (10, 6), (9, 6), (3, 0), (8, 6), (3, 0), (8, 6), (3, 0), (8, 6), (3, 0), (8, 6), (3, 0), (8, 6), (3, 0), (8, 6), (1, 0), (1, 0), (1, 0), (1, 0), (1, 0), (1, 0), (4, 0), (2, 0), (8, 24), (8, 24), (8, 24), (8, 7), (10, 6), (9, 6), (3, 0), (8, 6), (3, 0), (8, 6), (3, 0), (8, 6), (3, 0), (8, 6), (3, 0), (8, 6), (3, 0), (8, 6), (1, 0), (1, 0), (1, 0), (1, 0), (1, 0), (1, 0), (4, 0), (2, 0), (8, 24), (8, 24), (8, 24), (8, 7), (10, 6), (9, 6), (3, 0), (8, 6), (3, 0), (8, 6), (3, 0), (8, 6), (3, 0), (8, 6), (3, 0), (8, 6), (3, 0), (8, 6), (1, 0), (1, 0), (1, 0), (1, 0), (1, 0), (1, 0), (4, 0)]) 112 rfl) (zx_k1 (L := [(0, 0), (7, 150), (8, 3), (11, 4), (2, 0), (8, 24), (8, 24), (8, 24), (4, 0), (2, 0), (8, 24), (8, 24), (8, 24), (8, 7), (10, 6), (9, 6), (3, 0), (8, 6), (3, 0), (8, 6), (3, 0), (8, 6), (3, 0), (8, 6), (3, 0), (8, 6), (3, 0), (8, 6), (1, 0), (1, 0), (1, 0), (1, 0), (1, 0), (1, 0), (4, 0), (2, 0), (8, 24), (8, 24), (8, 24), (8, 7), (10, 6), (9, 6), (3, 0), (8, 6), (3, 0), (8, 6), (3, 0), (8, 6), (3, 0), (8, 6), (3, 0), (8, 6), (3, 0), (8, 6), (1, 0), (1, 0), (1, 0), (1, 0), (1, 0), (1, 0), (4, 0), (2, 0), (8, 24), (8, 24), (8, 24), (8, 7), (10, 6), (9, 6), (3, 0), (8, 6), (3, 0), (8, 6), (3, 0), (8, 6), (3, 0), (8, 6), (3, 0), (8, 6), (3, 0), (8, 6), (1, 0), (1, 0), (1, 0), (1, 0), (1, 0), (1, 0), (4, 0), (2, 0), (8, 24), (8, 24), (8, 24), (8, 7), (10, 6), (9, 6), (3, 0), (8, 6), (3, 0), (8, 6), (3, 0), (8, 6), (3, 0), (8, 6), (3, 0), (8, 6), (3, 0), (8, 6), (1, 0), (1, 0), (1, 0), (1, 0), (1, 0), (1, 0), (4, 0)]) 4 rfl) (by show zn Z + 113 + 25 ≤ 1000; omega)) wd_1_84 wd_1_85 wd_1_6 wd_1_86 rfl ⟨by decide, by decide, by decide⟩ rfl (by decide) rfl (Nat.le_of_ble_eq_true rfl) ⟨Nat.le_of_ble_eq_true rfl, Nat.le_of_ble_eq_true rfl⟩ (dk kX7_init 32 rfl) ?_
  obtain ⟨μ21, eμ21⟩ : ∃ x : Mm, x = i_X5_init (zn Z + 113) μ20 (zn Z + 112) (zn Z + 4) := ⟨_, rfl⟩
  refine g_eq eμ21 ?_
  refine g_zeq (show _ = zx Z [(0, 0), (7, 150), (8, 3), (11, 4), (2, 0), (8, 24), (8, 24), (8, 24), (4, 0), (2, 0), (8, 24), (8, 24), (8, 24), (8, 7), (10, 6), (9, 6), (3, 0), (8, 6), (3, 0), (8, 6), (3, 0), (8, 6), (3, 0), (8, 6), (3, 0), (8, 6), (3, 0), (8, 6), (1, 0), (1, 0), (1, 0), (1, 0), (1, 0), (1, 0), (4, 0), (2, 0), (8, 24), (8, 24), (8, 24), (8, 7), (10, 6), (9, 6), (3, 0), (8, 6), (3, 0), (8, 6), (3, 0), (8, 6), (3, 0), (8, 6), (3, 0), (8, 6), (3, 0), (8, 6), (1, 0), (1, 0), (1, 0), (1, 0), (1, 0), (1, 0), (4, 0), (2, 0), (8, 24), (8, 24), (8, 24), (8, 7), (10, 6), (9, 6), (3, 0), (8, 6), (3, 0), (8, 6), (3, 0), (8, 6), (3, 0), (8, 6), (3, 0), (8, 6), (3, 0), (8, 6), (1, 0), (1, 0), (1, 0), (1, 0), (1, 0), (1, 0), (4, 0), (2, 0), (8, 24), (8, 24), (8, 24), (8, 7), (10, 6), (9, 6), (3, 0), (8, 6), (3, 0), (8, 6), (3, 0), (8, 6), (3, 0), (8, 6), (3, 0), (8, 6), (3, 0), (8, 6), (1, 0), (1, 0), (1, 0), (1, 0), (1, 0), (1, 0), (4, 0), (2, 0), (8, 24), (8, 24), (8, 24), (8, 7), (10, 6), (9, 6), (3, 0), (8, 6), (3, 0), (8, 6), (3, 0), (8, 6), (3, 0), (8, 6), (3, 0), (8, 6), (3, 0), (8, 6), (1, 0), (1, 0), (1, 0), (1, 0), (1, 0), (1, 0)] from zx_zx) ?_
  have C138 := cx_zx (L := [(0, 0), (7, 150), (8, 3), (11, 4), (2, 0), (8, 24), (8, 24), (8, 24), (4, 0), (2, 0), (8, 24), (8, 24), (8, 24), (8, 7), (10, 6), (9, 6), (3, 0), (8, 6), (3, 0), (8, 6), (3, 0), (8, 6), (3, 0), (8, 6), (3, 0), (8, 6), (3, 0), (8, 6), (1, 0), (1, 0), (1, 0), (1, 0), (1, 0), (1, 0), (4, 0), (2, 0), (8, 24), (8, 24), (8, 24), (8, 7), (10, 6), (9, 6), (3, 0), (8, 6), (3, 0), (8, 6), (3, 0), (8, 6), (3, 0), (8, 6), (3, 0), (8, 6), (3, 0), (8, 6), (1, 0), (1, 0), (1, 0), (1, 0), (1, 0), (1, 0), (4, 0), (2, 0), (8, 24), (8, 24), (8, 24), (8, 7), (10, 6), (9, 6), (3, 0), (8, 6), (3, 0), (8, 6), (3, 0), (8, 6), (3, 0), (8, 6), (3, 0), (8, 6), (3, 0), (8, 6), (1, 0), (1, 0), (1, 0), (1, 0), (1, 0), (1, 0), (4, 0), (2, 0), (8, 24), (8, 24), (8, 24), (8, 7), (10, 6), (9, 6), (3, 0), (8, 6), (3, 0), (8, 6), (3, 0), (8, 6), (3, 0), (8, 6), (3, 0), (8, 6), (3, 0), (8, 6), (1, 0), (1, 0), (1, 0), (1, 0), (1, 0), (1, 0), (4, 0), (2, 0), (8, 24), (8, 24), (8, 24), (8, 7), (10, 6), (9, 6), (3, 0), (8, 6), (3, 0), (8, 6), (3, 0), (8, 6), (3, 0), (8, 6), (3, 0), (8, 6), (3, 0), (8, 6), (1, 0), (1, 0), (1, 0), (1, 0), (1, 0), (1, 0)]) hct C (by show zn Z + 138 ≤ 1000; omega)
  obtain ⟨μ22, eμ22⟩ : ∃ x : Mm, x = sR μ21 (zn Z + 3) (ix 3) (some (zn Z + 112)) := ⟨_, rfl⟩
  refine pA_11 C138 (zx_k1 (L := [(0, 0), (7, 150), (8, 3), (11, 4), (2, 0), (8, 24), (8, 24), (8, 24), (4, 0), (2, 0), (8, 24), (8, 24), (8, 24), (8, 7), (10, 6), (9, 6), (3, 0), (8, 6), (3, 0), (8, 6), (3, 0), (8, 6), (3, 0), (8, 6), (3, 0), (8, 6), (3, 0), (8, 6), (1, 0), (1, 0), (1, 0), (1, 0), (1, 0), (1, 0), (4, 0), (2, 0), (8, 24), (8, 24), (8, 24), (8, 7), (10, 6), (9, 6), (3, 0), (8, 6), (3, 0), (8, 6), (3, 0), (8, 6), (3, 0), (8, 6), (3, 0), (8, 6), (3, 0), (8, 6), (1, 0), (1, 0), (1, 0), (1, 0), (1, 0), (1, 0), (4, 0), (2, 0), (8, 24), (8, 24), (8, 24), (8, 7), (10, 6), (9, 6), (3, 0), (8, 6), (3, 0), (8, 6), (3, 0), (8, 6), (3, 0), (8, 6), (3, 0), (8, 6), (3, 0), (8, 6), (1, 0), (1, 0), (1, 0), (1, 0), (1, 0), (1, 0), (4, 0), (2, 0), (8, 24), (8, 24), (8, 24), (8, 7), (10, 6), (9, 6), (3, 0), (8, 6), (3, 0), (8, 6), (3, 0), (8, 6), (3, 0), (8, 6), (3, 0), (8, 6), (3, 0), (8, 6), (1, 0), (1, 0), (1, 0), (1, 0), (1, 0), (1, 0), (4, 0), (2, 0), (8, 24), (8, 24), (8, 24), (8, 7), (10, 6), (9, 6), (3, 0), (8, 6), (3, 0), (8, 6), (3, 0), (8, 6), (3, 0), (8, 6), (3, 0), (8, 6), (3, 0), (8, 6), (1, 0), (1, 0), (1, 0), (1, 0), (1, 0), (1, 0)]) 3 rfl) (by rw [(zx_k (L := [(0, 0), (7, 150), (8, 3), (11, 4), (2, 0), (8, 24), (8, 24), (8, 24), (4, 0), (2, 0), (8, 24), (8, 24), (8, 24), (8, 7), (10, 6), (9, 6), (3, 0), (8, 6), (3, 0), (8, 6), (3, 0), (8, 6), (3, 0), (8, 6), (3, 0), (8, 6), (3, 0), (8, 6), (1, 0), (1, 0), (1, 0), (1, 0), (1, 0), (1, 0), (4, 0), (2, 0), (8, 24), (8, 24), (8, 24), (8, 7), (10, 6), (9, 6), (3, 0), (8, 6), (3, 0), (8, 6), (3, 0), (8, 6), (3, 0), (8, 6), (3, 0), (8, 6), (3, 0), (8, 6), (1, 0), (1, 0), (1, 0), (1, 0), (1, 0), (1, 0), (4, 0), (2, 0), (8, 24), (8, 24), (8, 24), (8, 7), (10, 6), (9, 6), (3, 0), (8, 6), (3, 0), (8, 6), (3, 0), (8, 6), (3, 0), (8, 6), (3, 0), (8, 6), (3, 0), (8, 6), (1, 0), (1, 0), (1, 0), (1, 0), (1, 0), (1, 0), (4, 0), (2, 0), (8, 24), (8, 24), (8, 24), (8, 7), (10, 6), (9, 6), (3, 0), (8, 6), (3, 0), (8, 6), (3, 0), (8, 6), (3, 0), (8, 6), (3, 0), (8, 6), (3, 0), (8, 6), (1, 0), (1, 0), (1, 0), (1, 0), (1, 0), (1, 0), (4, 0), (2, 0), (8, 24), (8, 24), (8, 24), (8, 7), (10, 6), (9, 6), (3, 0), (8, 6), (3, 0), (8, 6), (3, 0), (8, 6), (3, 0), (8, 6), (3, 0), (8, 6), (3, 0), (8, 6), (1, 0), (1, 0), (1, 0), (1, 0), (1, 0), (1, 0)]) 3 rfl)]; decide) (zx_k1 (L := [(0, 0), (7, 150), (8, 3), (11, 4), (2, 0), (8, 24), (8, 24), (8, 24), (4, 0), (2, 0), (8, 24), (8, 24), (8, 24), (8, 7), (10, 6), (9, 6), (3, 0), (8, 6), (3, 0), (8, 6), (3, 0), (8, 6), (3, 0), (8, 6), (3, 0), (8, 6), (3, 0), (8, 6), (1, 0), (1, 0), (1, 0), (1, 0), (1, 0), (1, 0), (4, 0), (2, 0), (8, 24), (8, 24), (8, 24), (8, 7), (10, 6), (9, 6), (3, 0), (8, 6), (3, 0), (8, 6), (3, 0), (8, 6), (3, 0), (8, 6), (3, 0), (8, 6), (3, 0), (8, 6), (1, 0), (1, 0), (1, 0), (1, 0), (1, 0), (1, 0), (4, 0), (2, 0), (8, 24), (8, 24), (8, 24), (8, 7), (10, 6), (9, 6), (3, 0), (8, 6), (3, 0), (8, 6), (3, 0), (8, 6), (3, 0), (8, 6), (3, 0), (8, 6), (3, 0), (8, 6), (1, 0), (1, 0), (1, 0), (1, 0), (1, 0), (1, 0), (4, 0), (2, 0), (8, 24), (8, 24), (8, 24), (8, 7), (10, 6), (9, 6), (3, 0), (8, 6), (3, 0), (8, 6), (3, 0), (8, 6), (3, 0), (8, 6), (3, 0), (8, 6), (3, 0), (8, 6), (1, 0), (1, 0), (1, 0), (1, 0), (1, 0), (1, 0), (4, 0), (2, 0), (8, 24), (8, 24), (8, 24), (8, 7), (10, 6), (9, 6), (3, 0), (8, 6), (3, 0), (8, 6), (3, 0), (8, 6), (3, 0), (8, 6), (3, 0), (8, 6), (3, 0), (8, 6), (1, 0), (1, 0), (1, 0), (1, 0), (1, 0), (1, 0)]) 112 rfl) eμ22 (dk kX7_init 33 rfl) ?_
  refine g_iinc C138 (i := 2) (v := 4) (lv' := [(2, .int 4), (1, .ref (za Z (zn Z + 4))), (0, .ref (za Z a0))]) 0 (dk kX7_init 34 rfl) rfl (by decide) (by decide) rfl ?_
  refine g_goto C138 (tgt := 45) (dk kX7_init 35 rfl) (by decide) ?_
  refine g_iload_n C138 (i := 2) 0 rfl rfl (dk kX7_init 23 rfl) ?_
  refine g_iconst C138 (v := 4) (by decide) (dk kX7_init 24 rfl) ?_
  refine g_icmp_ge C138 (tgt := 70) (dk kX7_init 25 rfl) (by decide) (fun _ => ?_) (fun c => absurd (by decide) c)
  subst_vars
  exact g_vretZ C E (Nat.le_of_ble_eq_true rfl) (Nat.le_of_ble_eq_true rfl) (dk kX7_init 36 rfl)
