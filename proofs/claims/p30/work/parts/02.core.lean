/-! CORE: one memory for all objects of the system (ints, references, longs by the object's number and the place in it), one world made of it, one judgement G over it -/
section CoreA
abbrev Mm : Type := (Nat → Nat → Int32) × (Nat → Nat → Option Nat) × (Nat → Nat → Int64)
def up2 {α : Type} (f : Nat → Nat → α) (k j : Nat) (v : α) : Nat → Nat → α := fun a b => if a = k then (if b = j then v else f a b) else f a b
def upR {α : Type} (f : Nat → Nat → α) (k : Nat) (g : Nat → α) : Nat → Nat → α := fun a b => if a = k then g b else f a b
def sI (μ : Mm) (k j : Nat) (v : Int32) : Mm := (up2 μ.1 k j v, μ.2)
def sR (μ : Mm) (k j : Nat) (v : Option Nat) : Mm := (μ.1, up2 μ.2.1 k j v, μ.2.2)
def sJ (μ : Mm) (k j : Nat) (v : Int64) : Mm := (μ.1, μ.2.1, up2 μ.2.2 k j v)
def sIr (μ : Mm) (k : Nat) (g : Nat → Int32) : Mm := (upR μ.1 k g, μ.2)
theorem up2_row {α : Type} (f : Nat → Nat → α) {k j a : Nat} {v : α} (h : a ≠ k) : up2 f k j v a = f a := by funext b; simp [up2, h]
theorem up2_self {α : Type} (f : Nat → Nat → α) {k j : Nat} {v : α} : up2 f k j v k = fun b => if b = j then v else f k b := by funext b; simp [up2]
theorem upR_row {α : Type} (f : Nat → Nat → α) {k a : Nat} {g : Nat → α} (h : a ≠ k) : upR f k g a = f a := by funext b; simp [upR, h]
theorem upR_self {α : Type} (f : Nat → Nat → α) {k : Nat} {g : Nat → α} : upR f k g k = g := by funext b; simp [upR]
abbrev inb (i : Int32) (n : Nat) : Prop := ¬ (i < 0 ∨ n ≤ i.toNatClampNeg)
abbrev ix (i : Int32) : Nat := i.toNatClampNeg
/-- what a copy wants -/
abbrev okc (sp dp n : Int32) (a b : Nat) : Prop := ¬ sp < 0 ∧ ¬ dp < 0 ∧ ¬ n < 0 ∧ ix sp + ix n ≤ a ∧ ix dp + ix n ≤ b
/-- the pieces of the functions that the methods are: a test, a named value, a reference of a kind -/
def gd {α : Type} (c : Prop) [Decidable c] (k : Option α) : Option α := if c then k else none
def lt1 {α β : Type} (v : α) (k : α → Option β) : Option β := k v
def bd {α β : Type} (v : Option α) (k : α → Option β) : Option β := v.bind k
def rf (K : Nat → Nat × Nat) (μ : Mm) (k j c : Nat) : Option Nat := match μ.2.1 k j with
  | some h => if (K h).1 = c then some h else none
  | none => none
theorem gd_inv {α : Type} {c : Prop} [Decidable c] {k : Option α} {r : α} (h : gd c k = some r) : c ∧ k = some r := by
  unfold gd at h
  split at h
  · exact ⟨by assumption, h⟩
  · cases h
theorem lt_inv {α β : Type} {v : α} {k : α → Option β} {r : β} (h : lt1 v k = some r) : ∃ x, x = v ∧ k x = some r := ⟨v, rfl, h⟩
theorem bd_inv {α β : Type} {v : Option α} {k : α → Option β} {r : β} (h : bd v k = some r) : ∃ x, v = some x ∧ k x = some r := by
  cases v with
  | none => cases h
  | some x => exact ⟨x, rfl, h⟩
theorem rf_inv {K : Nat → Nat × Nat} {μ : Mm} {k j c h : Nat} (e : rf K μ k j c = some h) : μ.2.1 k j = some h ∧ (K h).1 = c := by
  unfold rf at e
  split at e
  · rename_i h' e'
    split at e
    · cases e; exact ⟨e', by assumption⟩
    · cases e
  · cases e
theorem ite_t {α : Sort _} {c : Prop} [Decidable c] {a b r : α} (h : (if c then a else b) = r) (hc : c) : a = r := by rw [if_pos hc] at h; exact h
theorem ite_f {α : Sort _} {c : Prop} [Decidable c] {a b r : α} (h : (if c then a else b) = r) (hc : ¬ c) : b = r := by rw [if_neg hc] at h; exact h
end CoreA
section CoreB
/-- the world's numbers: what may change, where it begins, the address of each object, the classes' numbers and slots, the arrays' classes, what holds of the statics, the kind and length of each object, how many there are -/
abbrev ZZ : Type := (Nat → Prop) × Nat × (Nat → Nat) × (Nat → ClassId) × (Nat → Nat → Nat) × (Nat → ClassId) × (Nat → Nat × Nat) × Nat
def AA (Z : ZZ) : Nat → Prop := Z.1
def zb (Z : ZZ) : Nat := Z.2.1
def za (Z : ZZ) : Nat → Nat := Z.2.2.1
def zD (Z : ZZ) : va_G := (Z.2.2.2.1, Z.2.2.2.2.1)
def zc (Z : ZZ) : Nat → ClassId := Z.2.2.2.2.2.1
def zk (Z : ZZ) : Nat → Nat × Nat := Z.2.2.2.2.2.2.1
def zn (Z : ZZ) : Nat := Z.2.2.2.2.2.2.2
def zT (Z : ZZ) : List (ClassId × FieldType) := [(zc Z 0, .char), (zc Z 1, .int), (zc Z 2, .object "WornDots$Customer"), (zc Z 3, .object "WornDots$Label"), (zc Z 4, .object "WornDots$State")]
def iv (μ : Mm) (k j : Nat) : Value := .int (μ.1 k j)
def rv (Z : ZZ) (μ : Mm) (k j : Nat) : Value := va_rf ((μ.2.1 k j).map (za Z))
def flds (Z : ZZ) (c k : Nat) (μ : Mm) : List Value := match c with
  | 0 => [rv Z μ k 0, iv μ k 1, iv μ k 2, iv μ k 3, rv Z μ k 4, rv Z μ k 5]
  | 1 => [iv μ k 0, iv μ k 1, iv μ k 2, iv μ k 3, iv μ k 4, iv μ k 5]
  | 2 => [iv μ k 0, iv μ k 1, rv Z μ k 2, rv Z μ k 3, rv Z μ k 4]
  | 3 => [iv μ k 0, iv μ k 1, iv μ k 2, iv μ k 3, rv Z μ k 4]
  | 4 => [rv Z μ k 0, rv Z μ k 1, rv Z μ k 2, rv Z μ k 3, iv μ k 4, rv Z μ k 5, iv μ k 6, iv μ k 7]
  | 5 => [rv Z μ k 0, rv Z μ k 1, iv μ k 2, rv Z μ k 3]
  | _ => []
def ce (Z : ZZ) (μ : Mm) (k : Nat) : va_E :=
  if (zk Z k).1 < 7 then .inr ((zk Z k).1, flds Z (zk Z k).1 k μ)
  else if (zk Z k).1 < 9 then .inl (zc Z ((zk Z k).1 - 7), (zk Z k).2, .inl (μ.1 k))
  else if (zk Z k).1 < 12 then .inl (zc Z ((zk Z k).1 - 7), (zk Z k).2, .inr (.inr (.inr (.inr (fun j => (μ.2.1 k j).map (za Z))))))
  else .inr (98, [])
def wl (Z : ZZ) (μ : Mm) : va_W := (List.range (zn Z)).map (fun k => (za Z k, ce Z μ k))
def OkZ (Z : ZZ) : Prop := zn Z ≤ 1000 ∧ ((∀ i, i < zn Z → AA Z (za Z i)) ∧ ∀ i j, i < zn Z → j < zn Z → za Z i = za Z j → i = j) ∧ (∀ i, ¬ i < zn Z → (zk Z i).1 = 99)
/-- a world whose objects lie one behind another -/
def CT (Z : ZZ) : Prop := (∀ i, i < 1000 → za Z i = zb Z + i) ∧ ∀ q, AA Z q ↔ zb Z ≤ q
/-- the objects that were there before: a word, the tables; their numbers are 2000 and on -/
def sC (k : Nat) : String := (["WornDots", "WornDots", "WornDots"] : List String).getD k ""
def sF (k : Nat) : String := (["LOWEST_SETTING", "HIGHEST_SETTING", "FIRST_SETTING"] : List String).getD k ""
def sA (k : Nat) : List Int32 := ([[0, 10, 0, 1, 0, 0, 1], [30, 90, 9999, 100, 8, 20, 100], [8, 60, 100, 20, 1, 2, 5]] : List (List Int32)).getD k []
def ST (ad : Nat → Nat) (A : Nat → Prop) (U : State) (H : Heap) : Prop :=
  (∀ k, k < 3 → va_Z (sC k) (sF k) "[I" (.ref (ad (2300 + k))) A U H ∧ va_T .int (ad (2300 + k)) (sA k).length (fun j => .int ((sA k).getD j 0)) A U H) ∧
  va_Z "WornDots$Word" "HEAD" "LWornDots$Word;" (.ref (ad 2000)) A U H ∧
  (vx_Zq Bundle.tN "UNASSIGNED_STACK" Bundle.steD A U H ∧ vx_Zq Bundle.tN "SUPPRESSED_SENTINEL" Bundle.listD A U H)
theorem ST.moved {ad : Nat → Nat} {A : Nat → Prop} {u U : State} {H : Heap} (hvm : u.vm.Alike U.vm) (h : ST ad A u H) : ST ad A U H := by
  obtain ⟨h3, h6, h9, h10⟩ := h
  refine ⟨fun k hk => ?_, va_Z.moved hvm h6, vx_Zq.moved hvm h9, vx_Zq.moved hvm h10⟩
  obtain ⟨a, b⟩ := h3 k hk
  exact ⟨va_Z.moved hvm a, va_T.moved hvm b⟩
theorem ST.kept {ad : Nat → Nat} {A : Nat → Prop} {U : State} {H H1 : Heap} (h : ST ad A U H) (hq : ∀ a : Nat, a < H.size → ¬ A a → H1[a]? = H[a]?) : ST ad A U H1 := by
  obtain ⟨h3, h6, h9, h10⟩ := h
  refine ⟨fun k hk => ?_, h6.kept hq, h9.kept hq, h10.kept hq⟩
  obtain ⟨a, b⟩ := h3 k hk
  exact ⟨a.kept hq, b.kept hq⟩
def zs (Z : ZZ) (U : State) (H : Heap) : Prop := ST (za Z) (AA Z) U H
def Wd (Z : ZZ) (μ : Mm) (U : State) (H : Heap) : Prop := va_P (zD Z) vwCl (wl Z μ) H ∧ zs Z U H
def KK (Z : ZZ) (U : State) : Prop := va_K (zD Z) vwCl (zT Z) U
theorem wl_get {Z : ZZ} {μ : Mm} {k : Nat} (h : k < zn Z) : (wl Z μ)[k]? = some (za Z k, ce Z μ k) := by
  unfold wl
  rw [List.getElem?_map, List.getElem?_range h]
  rfl
theorem wl_len {Z : ZZ} {μ : Mm} : (wl Z μ).length = zn Z := by simp [wl]
theorem wl_inv {Z : ZZ} {μ : Mm} {k : Nat} {q : Nat × va_E} (h : (wl Z μ)[k]? = some q) : k < zn Z ∧ q = (za Z k, ce Z μ k) := by
  have hl := (List.getElem?_eq_some_iff.mp h).1
  rw [wl_len] at hl
  rw [wl_get hl] at h
  exact ⟨hl, (Option.some.inj h).symm⟩
theorem wl_D {Z : ZZ} (hZ : OkZ Z) (μ : Mm) : va_D (AA Z) (wl Z μ) := by
  obtain ⟨-, ⟨h1, h2⟩, -⟩ := hZ
  refine ⟨fun i j p q hp hq e => ?_, fun k q hq => ?_⟩
  · obtain ⟨hi, rfl⟩ := wl_inv hp
    obtain ⟨hj, rfl⟩ := wl_inv hq
    exact h2 i j hi hj e
  · obtain ⟨hi, rfl⟩ := wl_inv hq
    exact h1 k hi
theorem wl_set {Z : ZZ} {μ μ' : Mm} {k : Nat} {e : va_E} (h : k < zn Z) (he : e = ce Z μ' k) (ho : ∀ j, j ≠ k → ce Z μ' j = ce Z μ j) : (wl Z μ).set k (za Z k, e) = wl Z μ' := by
  subst he
  apply List.ext_getElem?
  intro i
  by_cases hi : i = k
  · subst hi
    rw [wl_get h, List.getElem?_set_self (by rw [wl_len]; exact h)]
  · rw [List.getElem?_set_ne (Ne.symm hi)]
    by_cases hl : i < zn Z
    · rw [wl_get hl, wl_get hl, ho i hi]
    · rw [List.getElem?_eq_none (by rw [wl_len]; omega), List.getElem?_eq_none (by rw [wl_len]; omega)]
theorem zk_lt {Z : ZZ} (hZ : OkZ Z) {k c : Nat} (h : (zk Z k).1 = c) (hc : c < 99) : k < zn Z := by
  rcases Nat.lt_or_ge k (zn Z) with q | q
  · exact q
  · have := hZ.2.2 k (by omega)
    omega
theorem ce_obj {Z : ZZ} {μ : Mm} {k c : Nat} (h : (zk Z k).1 = c) (hc : c < 7) : ce Z μ k = .inr (c, flds Z c k μ) := by
  unfold ce
  rw [h, if_pos hc]
theorem ce_int {Z : ZZ} {μ : Mm} {k : Nat} (h : (zk Z k).1 = 8) : ce Z μ k = .inl (zc Z 1, (zk Z k).2, .inl (μ.1 k)) := by
  unfold ce
  rw [h]
  rfl
theorem ce_chr {Z : ZZ} {μ : Mm} {k : Nat} (h : (zk Z k).1 = 7) : ce Z μ k = .inl (zc Z 0, (zk Z k).2, .inl (μ.1 k)) := by
  unfold ce
  rw [h]
  rfl
theorem ce_ref {Z : ZZ} {μ : Mm} {k c : Nat} (h : (zk Z k).1 = c) (h1 : ¬ c < 9) (h2 : c < 12) : ce Z μ k = .inl (zc Z (c - 7), (zk Z k).2, .inr (.inr (.inr (.inr (fun j => (μ.2.1 k j).map (za Z)))))) := by
  unfold ce
  rw [h, if_neg (by omega), if_neg h1, if_pos h2]
theorem ce_cong {Z : ZZ} {μ μ' : Mm} {k : Nat} (h1 : μ'.1 k = μ.1 k) (h2 : μ'.2.1 k = μ.2.1 k) (h3 : μ'.2.2 k = μ.2.2 k) : ce Z μ' k = ce Z μ k := by
  unfold ce flds
  simp only [h1, h2, h3, iv, rv]
theorem ce_sI {Z : ZZ} {μ : Mm} {k j a : Nat} {v : Int32} (h : a ≠ k) : ce Z (sI μ k j v) a = ce Z μ a := ce_cong (up2_row _ h) rfl rfl
theorem ce_sR {Z : ZZ} {μ : Mm} {k j a : Nat} {v : Option Nat} (h : a ≠ k) : ce Z (sR μ k j v) a = ce Z μ a := ce_cong rfl (up2_row _ h) rfl
theorem ce_sJ {Z : ZZ} {μ : Mm} {k j a : Nat} {v : Int64} (h : a ≠ k) : ce Z (sJ μ k j v) a = ce Z μ a := ce_cong rfl rfl (up2_row _ h)
theorem ce_sIr {Z : ZZ} {μ : Mm} {k a : Nat} {g : Nat → Int32} (h : a ≠ k) : ce Z (sIr μ k g) a = ce Z μ a := ce_cong (upR_row _ h) rfl rfl
/-- a kind's class: its name, fields, how many -/
def kN (c : Nat) : Nat := match c with | 0 => 6 | 1 => 6 | 2 => 5 | 3 => 5 | 4 => 8 | 5 => 4 | _ => 0
def isI (c j : Nat) : Bool := match c with
  | 0 => j == 1 || j == 2 || j == 3
  | 1 => decide (j < 6)
  | 2 => decide (j < 2)
  | 3 => decide (j < 4)
  | 4 => j == 4 || j == 6 || j == 7
  | 5 => j == 2
  | _ => false
theorem fl_len {Z : ZZ} {μ : Mm} {k : Nat} : ∀ c, c < 7 → (flds Z c k μ).length = kN c
  | 0, _ => rfl | 1, _ => rfl | 2, _ => rfl | 3, _ => rfl | 4, _ => rfl | 5, _ => rfl | 6, _ => rfl
  | n + 7, h => absurd h (by omega)
end CoreB
section CoreW
/-- the tables' words that every call can hand on -/
def TB : List Cond := lw_tbl.filter goodWord
theorem TB_good {w : Cond} (h : w ∈ TB) : goodWord w = true := (List.mem_filter.mp h).2
theorem TB_in {w : Cond} (h : w ∈ TB) : w ∈ lw_tbl := (List.mem_filter.mp h).1
theorem TB_of {w : Cond} (h : w ∈ tables_1) (g : goodWord w = true) : w ∈ TB := List.mem_filter.mpr ⟨List.mem_append_right _ h, g⟩
theorem tb1 {w : Cond} (h : w ∈ tables_1_1) (g : goodWord w = true) : w ∈ TB := TB_of (List.mem_append_left _ h) g
theorem tb2 {w : Cond} (h : w ∈ tables_1_2) (g : goodWord w = true) : w ∈ TB := TB_of (List.mem_append_right _ (List.mem_append_left _ h)) g
theorem tb3 {w : Cond} (h : w ∈ tables_1_3) (g : goodWord w = true) : w ∈ TB := TB_of (List.mem_append_right _ (List.mem_append_right _ (List.mem_append_left _ h))) g
theorem tb4 {w : Cond} (h : w ∈ tables_1_4) (g : goodWord w = true) : w ∈ TB := TB_of (List.mem_append_right _ (List.mem_append_right _ (List.mem_append_right _ h))) g
theorem tbs {q : MethodName × Nat} (h : q ∈ lw_privs) : Cond.selects q.1.cls q.1 q.1 ∈ TB := List.mem_filter.mpr ⟨List.mem_append_left _ (List.mem_map.mpr ⟨q, h, rfl⟩), rfl⟩
theorem tbs1 {q : MethodName × Nat} (h : q ∈ lw_privs_1) : Cond.selects q.1.cls q.1 q.1 ∈ TB := tbs h
theorem good_TB {w : Cond} (h : w ∈ TB) : w ∈ TB ∧ ((w.onTables && w.keeps) = true ∨ ∃ ty, w = .arrayClass ty) := ⟨h, good_of_word (TB_good h)⟩
theorem goodC {y : MethodName} {bytes : ByteArray} {maxL : Nat} {rt : Option FieldType} (m5 : Cond.code y bytes maxL rt ∈ TB) : GoodIn TB (Cond.code y bytes maxL rt :: TB) := fun w h => by
  rcases List.mem_cons.mp h with rfl | h
  · exact good_TB m5
  · exact good_TB h
theorem goodV {own CN : String} {index : Nat} {y : MethodName} {bytes : ByteArray} {maxL : Nat} {rt : Option FieldType} (m1 : Cond.methodLink own index y ∈ TB) (m2 : Cond.instanceMethod y ∈ TB) (m3 : Cond.selects CN y y ∈ TB) (m4 : Cond.initialized CN ∈ TB) (m5 : Cond.code y bytes maxL rt ∈ TB) : GoodIn TB (wsV own index CN y (Cond.code y bytes maxL rt :: TB)) := fun w h => by
  unfold wsV at h
  simp only [List.cons_append, List.nil_append, List.mem_cons] at h
  rcases h with rfl | rfl | rfl | rfl | rfl | h
  · exact good_TB m1
  · exact good_TB m2
  · exact good_TB m3
  · exact good_TB m4
  · exact good_TB m5
  · exact good_TB h
theorem goodS {own : String} {index : Nat} {y : MethodName} {bytes : ByteArray} {maxL : Nat} {rt : Option FieldType} (m1 : Cond.methodLink own index y ∈ TB) (m2 : Cond.static y ∈ TB) (m4 : Cond.initialized y.cls ∈ TB) (m5 : Cond.code y bytes maxL rt ∈ TB) : GoodIn TB (va_wsS own index y (Cond.code y bytes maxL rt :: TB)) := fun w h => by
  unfold va_wsS at h
  simp only [List.cons_append, List.nil_append, List.mem_cons] at h
  rcases h with rfl | rfl | rfl | rfl | h
  · exact good_TB m1
  · exact good_TB m2
  · exact good_TB m4
  · exact good_TB m5
  · exact good_TB h
/-- the links of nest mates -/
def NF : List (String × Nat × String × String × String × String) := [("WornDots", 141, "WornDots$CommandText", "length", "I", "WornDots"), ("WornDots$State", 68, "WornDots$Head", "dots", "I", "WornDots"), ("WornDots$State", 194, "WornDots$Head", "burntInAll", "I", "WornDots"), ("WornDots$State", 180, "WornDots$Head", "heat", "[I", "WornDots"), ("WornDots$State", 107, "WornDots$Head", "wear", "[I", "WornDots"), ("WornDots$State", 187, "WornDots$Head", "burnt", "[I", "WornDots"), ("WornDots$State", 37, "WornDots", "FIRST_SETTING", "[I", "WornDots"), ("WornDots$State", 88, "WornDots$Label", "width", "I", "WornDots"), ("WornDots$Head", 38, "WornDots$Label", "width", "I", "WornDots"), ("WornDots$State", 91, "WornDots$Label", "blackness", "I", "WornDots"), ("WornDots$Head", 50, "WornDots$Label", "blackness", "I", "WornDots"), ("WornDots$State", 162, "WornDots$Label", "printed", "I", "WornDots"), ("WornDots$State", 169, "WornDots$Label", "failed", "I", "WornDots"), ("WornDots$Head", 43, "WornDots$Label", "rows", "[I", "WornDots"), ("WornDots$State", 101, "WornDots$Label", "rows", "[I", "WornDots"), ("WornDots", 127, "WornDots$Label", "rows", "[I", "WornDots"), ("WornDots$State", 126, "WornDots$Customer", "first", "I", "WornDots"), ("WornDots$State", 129, "WornDots$Customer", "last", "I", "WornDots"), ("WornDots$State", 156, "WornDots$Customer", "paid", "I", "WornDots"), ("WornDots$State", 163, "WornDots$Customer", "paidBack", "I", "WornDots"), ("WornDots$State", 159, "WornDots$Customer", "printed", "I", "WornDots"), ("WornDots$State", 166, "WornDots$Customer", "failed", "I", "WornDots"), ("WornDots", 169, "WornDots$State", "head", "LWornDots$Head;", "WornDots"), ("WornDots", 118, "WornDots$State", "labels", "[LWornDots$Label;", "WornDots"), ("WornDots", 134, "WornDots$State", "customers", "[LWornDots$Customer;", "WornDots"), ("WornDots$State", 82, "WornDots", "LOWEST_SETTING", "[I", "WornDots"), ("WornDots$State", 85, "WornDots", "HIGHEST_SETTING", "[I", "WornDots")]
def NM : List (String × Nat × MethodName × String) := [("WornDots", 9, ⟨"WornDots$CommandText", "<init>", "()V"⟩, "WornDots"), ("WornDots", 24, ⟨"WornDots$Head", "<init>", "()V"⟩, "WornDots"), ("WornDots$State", 11, ⟨"WornDots$Head", "<init>", "()V"⟩, "WornDots"), ("WornDots$State", 46, ⟨"WornDots$Label", "<init>", "()V"⟩, "WornDots"), ("WornDots$State", 47, ⟨"WornDots$Customer", "<init>", "()V"⟩, "WornDots")]
/-- what the exceptions want beside them: what can be cast, what is declared, what cannot be cast, the texts -/
def NC : List (String × String) := [("java/lang/IndexOutOfBoundsException", "java/lang/IndexOutOfBoundsException"), ("java/lang/IllegalArgumentException", "java/lang/IllegalArgumentException"), ("java/lang/IllegalStateException", "java/lang/IllegalStateException")]
def ND : List MethodName := [⟨"java/lang/RuntimeException", "<init>", "(Ljava/lang/String;)V"⟩, ⟨"java/lang/Exception", "<init>", "(Ljava/lang/String;)V"⟩, ⟨"java/lang/Throwable", "<init>", "(Ljava/lang/String;)V"⟩]
def NN : List (String × String) := [("java/lang/IllegalArgumentException", "java/lang/IndexOutOfBoundsException"), ("java/lang/IllegalStateException", "java/lang/IndexOutOfBoundsException"), ("java/lang/IllegalStateException", "java/lang/IllegalArgumentException")]
def SR : List (Nat × String) := [(251, "there is no such dot, label or customer"), (258, "an argument is out of range"), (263, "this cannot be done now")]
def NA : List String := ["WornDots$State", "WornDots$Label", "WornDots$Customer"]
def NW (U : State) : Prop := (∀ q ∈ NF, va_Nw (.fieldLinkNest q.1 q.2.1 q.2.2.1 q.2.2.2.1 q.2.2.2.2.1 q.2.2.2.2.2) U) ∧ (∀ q ∈ NM, va_Nw (.methodLinkNest q.1 q.2.1 q.2.2.1 q.2.2.2) U) ∧
  (∀ q ∈ NC, va_Nw (.castable q.1 q.2) U) ∧ (∀ q ∈ ND, va_Nw (.declares q) U) ∧ (∀ q ∈ NN, va_Nc q.1 q.2 U) ∧ (∀ q ∈ SR, ∃ a, vk_R "WornDots" q.1 q.2 a U) ∧ ∀ q ∈ NA, va_AO q U
theorem NW.warm {s U : State} (hW : s.WarmedH U.vm) (h : NW s) : NW U := ⟨fun q hq => va_Nw.warmF hW (h.1 q hq), fun q hq => va_Nw.warmM hW (h.2.1 q hq), fun q hq => va_Nw.warmC hW (h.2.2.1 q hq), fun q hq => va_Nw.warmD hW (h.2.2.2.1 q hq), fun q hq => va_Nc.moved hW.alike (h.2.2.2.2.1 q hq), fun q hq => by
  obtain ⟨a, ha⟩ := h.2.2.2.2.2.1 q hq
  exact ⟨a, vk_R.warm hW ha⟩, fun q hq => va_AO.moved hW.alike (h.2.2.2.2.2.2 q hq)⟩
theorem NW.same {u U : State} (hv : u.vm = U.vm) (h : NW u) : NW U := ⟨fun q hq => va_Nw.same rfl hv (h.1 q hq), fun q hq => va_Nw.same rfl hv (h.2.1 q hq), fun q hq => va_Nw.same rfl hv (h.2.2.1 q hq), fun q hq => va_Nw.same rfl hv (h.2.2.2.1 q hq), fun q hq => va_Nc.moved (by rw [hv]; exact Vm.Alike.refl _) (h.2.2.2.2.1 q hq), fun q hq => by
  obtain ⟨a, ha⟩ := h.2.2.2.2.2.1 q hq
  exact ⟨a, vk_R.same hv.symm ha⟩, fun q hq => va_AO.moved (by rw [hv]; exact Vm.Alike.refl _) (h.2.2.2.2.2.2 q hq)⟩
end CoreW
