/-! PURE: printing, in numbers: a line's work dot by dot -/
section PureSpec
def SN (t : Nat → Nat) : Nat → Nat | 0 => 0 | n + 1 => SN t n + t n
theorem SN_cong {t u : Nat → Nat} : ∀ {n : Nat}, (∀ i, i < n → t i = u i) → SN t n = SN u n
  | 0, _ => rfl
  | n + 1, h => by
    show SN t n + t n = SN u n + u n
    rw [SN_cong (n := n) (fun i hi => h i (by omega)), h n (by omega)]
theorem SN_le {t : Nat → Nat} {M : Nat} : ∀ {n : Nat}, (∀ i, i < n → t i ≤ M) → SN t n ≤ n * M
  | 0, _ => by
    show 0 ≤ 0 * M
    omega
  | n + 1, h => by
    have := SN_le (n := n) (fun i hi => h i (by omega))
    have := h n (by omega)
    have e : (n + 1) * M = n * M + M := Nat.succ_mul n M
    show SN t n + t n ≤ (n + 1) * M
    omega
/-- a sum over all dots of what lies under a label alone -/
theorem SN_part {t : Nat → Nat} {o w : Nat} (h : ∀ d, (d < o ∨ o + w ≤ d) → t d = 0) : ∀ n, SN t n = SN (fun c => t (o + c)) (if n ≤ o then 0 else if n ≤ o + w then n - o else w)
  | 0 => by
    rw [if_pos (Nat.zero_le o)]
    rfl
  | n + 1 => by
    show SN t n + t n = _
    rw [SN_part h n]
    by_cases h1 : n + 1 ≤ o
    · rw [if_pos (by omega), if_pos h1, h n (by omega)]
      rfl
    · rw [if_neg h1]
      by_cases h2 : n + 1 ≤ o + w
      · rw [if_pos h2]
        by_cases h3 : n ≤ o
        · rw [if_pos h3, show n = o by omega, show o + 1 - o = 1 by omega]
          rfl
        · rw [if_neg h3, if_pos (by omega), show n + 1 - o = (n - o) + 1 by omega]
          show _ = SN (fun c => t (o + c)) (n - o) + t (o + (n - o))
          rw [show o + (n - o) = n by omega]
      · rw [if_neg h2]
        by_cases h3 : n ≤ o
        · rw [if_pos h3, h n (by omega), show w = 0 by omega]
          rfl
        · rw [if_neg h3, h n (by omega)]
          by_cases h4 : n ≤ o + w
          · rw [if_pos h4, show n - o = w by omega]
            rfl
          · rw [if_neg h4]
            rfl
/-- numbers that a print wants: cooling, smear heat, limit, fading, tolerance, width, blackness in heat, offset; the cells -/
abbrev PP : Type := Nat × Nat × Nat × Nat × Nat × Nat × Nat × (Nat → Int32)
def pg (P : PP) : Nat := P.1
def psm (P : PP) : Nat := P.2.1
def plm (P : PP) : Nat := P.2.2.1
def pfd (P : PP) : Nat := P.2.2.2.1
def ptl (P : PP) : Nat := P.2.2.2.2.1
def pw (P : PP) : Nat := P.2.2.2.2.2.1
def pdu (P : PP) : Nat := P.2.2.2.2.2.2.1
def pR (P : PP) : Nat → Int32 := P.2.2.2.2.2.2.2
def blk (P : PP) (r c : Nat) : Prop := bitI (pR P r) c = 1
def blB (P : PP) (r c : Nat) : Bool := decide (bitI (pR P r) c = 1)
theorem blB_t {P : PP} {r c : Nat} (h : bitI (pR P r) c = 1) : blB P r c = true := decide_eq_true h
theorem blB_f {P : PP} {r c : Nat} (h : ¬ bitI (pR P r) c = 1) : blB P r c = false := decide_eq_false h
/-- units, a cell that can't be read -/
def unN (P : PP) (x : Nat) : Nat := (pdu P - x + 9) / 10
def fdN (P : PP) (y : Nat) : Nat := (y - plm P) / pfd P
def bdN (P : PP) (b : Bool) (x y : Nat) : Nat := if b then (if ptl P < fdN P y then 1 else 0) else (if psm P < x then 1 else 0)
/-- the state: heat, wear, burnt, burnt in all, cells that couldn't be read -/
abbrev QQ : Type := (Nat → Nat) × (Nat → Nat) × (Nat → Int32) × Int32 × Nat
def qh (s : QQ) : Nat → Nat := s.1
def qy (s : QQ) : Nat → Nat := s.2.1
def qu (s : QQ) : Nat → Int32 := s.2.2.1
def qt (s : QQ) : Int32 := s.2.2.2.1
def qb (s : QQ) : Nat := s.2.2.2.2
/-- does a dot burn in a row -/
def acB (P : PP) (o r d : Nat) : Bool := decide (o ≤ d ∧ d < o + pw P) && blB P r (d - o)
def unD (P : PP) (o r : Nat) (h : Nat → Nat) (d : Nat) : Nat := if acB P o r d then unN P (h d) else 0
def bdD (P : PP) (o r : Nat) (h y : Nat → Nat) (d : Nat) : Nat := if o ≤ d ∧ d < o + pw P then bdN P (blB P r (d - o)) (h d) (y d) else 0
def hotD (P : PP) (o r : Nat) (h : Nat → Nat) (d : Nat) : Nat := if acB P o r d then (if h d < pdu P then pdu P else h d) else h d
def weaD (P : PP) (o r : Nat) (h y : Nat → Nat) (d : Nat) : Nat := if y d + unD P o r h d ≤ 9999 then y d + unD P o r h d else 9999
/-- a line -/
def LN (P : PP) (o r : Nat) (s : QQ) : QQ :=
  (fun d => hotD P o r (qh s) d - pg P, fun d => weaD P o r (qh s) (qy s) d, fun d => qu s d + nI (unD P o r (qh s) d), qt s + nI (SN (fun c => unD P o r (qh s) (o + c)) (pw P)), qb s + SN (fun c => bdD P o r (qh s) (qy s) (o + c)) (pw P))
def PL (P : PP) (o : Nat) : Nat → QQ → QQ | 0, s => s | r + 1, s => LN P o r (PL P o r s)
theorem acB_no {P : PP} {o r d : Nat} (h : ¬ (o ≤ d ∧ d < o + pw P)) : acB P o r d = false := by
  unfold acB
  rw [decide_eq_false h]
  rfl
theorem acB_in {P : PP} {o r d : Nat} (h : o ≤ d ∧ d < o + pw P) : acB P o r d = blB P r (d - o) := by
  unfold acB
  rw [decide_eq_true h]
  rfl
theorem unD_no {P : PP} {o r d : Nat} {h : Nat → Nat} (q : ¬ (o ≤ d ∧ d < o + pw P)) : unD P o r h d = 0 := by
  unfold unD
  rw [acB_no q]
  rfl
theorem bdD_no {P : PP} {o r d : Nat} {h y : Nat → Nat} (q : ¬ (o ≤ d ∧ d < o + pw P)) : bdD P o r h y d = 0 := if_neg q
theorem hotD_no {P : PP} {o r d : Nat} {h : Nat → Nat} (q : ¬ (o ≤ d ∧ d < o + pw P)) : hotD P o r h d = h d := by
  unfold hotD
  rw [acB_no q]
  rfl
theorem bdN_le {P : PP} {b : Bool} {x y : Nat} : bdN P b x y ≤ 1 := by
  unfold bdN
  cases b
  · show (if psm P < x then 1 else 0) ≤ 1
    split <;> omega
  · show (if ptl P < fdN P y then 1 else 0) ≤ 1
    split <;> omega
theorem bdD_le {P : PP} {o r d : Nat} {h y : Nat → Nat} : bdD P o r h y d ≤ 1 := by
  unfold bdD
  split
  · exact bdN_le
  · omega
theorem unN_le {P : PP} (h : pdu P ≤ 90) (x : Nat) : unN P x ≤ 9 := by
  unfold unN
  omega
theorem unD_le {P : PP} (h : pdu P ≤ 90) {o r d : Nat} {hh : Nat → Nat} : unD P o r hh d ≤ 9 := by
  unfold unD
  split
  · exact unN_le h _
  · omega
/-- bounds -/
def QB (N : Nat) (s : QQ) : Prop := ∀ d, d < N → qh s d ≤ 90 ∧ qy s d ≤ 9999
theorem LN_b {P : PP} (hd : pdu P ≤ 90) {o r N : Nat} {s : QQ} (h : QB N s) : QB N (LN P o r s) := by
  intro d hd'
  obtain ⟨h1, h2⟩ := h d hd'
  constructor
  · show hotD P o r (qh s) d - pg P ≤ 90
    unfold hotD
    split
    · split <;> omega
    · omega
  · show weaD P o r (qh s) (qy s) d ≤ 9999
    unfold weaD
    split <;> omega
theorem PL_b {P : PP} (hd : pdu P ≤ 90) {o N : Nat} {s : QQ} (h : QB N s) : ∀ r, QB N (PL P o r s)
  | 0 => h
  | r + 1 => LN_b hd (PL_b hd h r)
theorem PL_q {P : PP} {o : Nat} {s : QQ} : ∀ r, qb (PL P o r s) ≤ qb s + 12 * r ∨ 12 < pw P
  | 0 => Or.inl (Nat.le_refl _)
  | r + 1 => by
    rcases PL_q (P := P) (o := o) (s := s) r with h | h
    · by_cases hw : 12 < pw P
      · exact Or.inr hw
      · refine Or.inl ?_
        have := SN_le (n := pw P) (M := 1) (t := fun c => bdD P o r (qh (PL P o r s)) (qy (PL P o r s)) (o + c)) (fun i _ => bdD_le)
        show qb (PL P o r s) + SN (fun c => bdD P o r (qh (PL P o r s)) (qy (PL P o r s)) (o + c)) (pw P) ≤ _
        omega
    · exact Or.inr h
/-- the same label further along a head -/
def SH (N o : Nat) (s t : QQ) : Prop := (∀ x, x < N → qh t x = qh s (x + o) ∧ qy t x = qy s (x + o)) ∧ qb t = qb s
theorem LN_sh {P : PP} {o r : Nat} {s t : QQ} (h : SH (pw P) o s t) : SH (pw P) o (LN P o r s) (LN P 0 r t) := by
  obtain ⟨h1, h2⟩ := h
  have ea : ∀ x, x < pw P → acB P 0 r x = acB P o r (x + o) := by
    intro x hx
    rw [acB_in (by omega), acB_in (by omega), Nat.sub_zero, Nat.add_sub_cancel]
  have eu : ∀ x, x < pw P → unD P 0 r (qh t) x = unD P o r (qh s) (x + o) := by
    intro x hx
    unfold unD
    rw [ea x hx, (h1 x hx).1]
  refine ⟨fun x hx => ⟨?_, ?_⟩, ?_⟩
  · show hotD P 0 r (qh t) x - pg P = hotD P o r (qh s) (x + o) - pg P
    unfold hotD
    rw [ea x hx, (h1 x hx).1]
  · show weaD P 0 r (qh t) (qy t) x = weaD P o r (qh s) (qy s) (x + o)
    unfold weaD
    rw [eu x hx, (h1 x hx).2]
  · show qb t + SN (fun c => bdD P 0 r (qh t) (qy t) (0 + c)) (pw P) = qb s + SN (fun c => bdD P o r (qh s) (qy s) (o + c)) (pw P)
    rw [h2]
    congr 1
    refine SN_cong (fun c hc => ?_)
    show bdD P 0 r (qh t) (qy t) (0 + c) = bdD P o r (qh s) (qy s) (o + c)
    unfold bdD
    rw [if_pos (by omega), if_pos (by omega), Nat.zero_add, Nat.sub_zero, Nat.add_sub_cancel_left, (h1 c hc).1, (h1 c hc).2, Nat.add_comm c o]
theorem PL_sh {P : PP} {o : Nat} {s t : QQ} (h : SH (pw P) o s t) : ∀ r, SH (pw P) o (PL P o r s) (PL P 0 r t)
  | 0 => h
  | r + 1 => LN_sh (PL_sh h r)
/-- what is not seen doesn't matter -/
def SE0 (N : Nat) (s t : QQ) : Prop := (∀ x, x < N → qh t x = qh s x ∧ qy t x = qy s x ∧ qu t x = qu s x) ∧ qt t = qt s ∧ qb t = qb s
theorem LN_e {P : PP} {o r N : Nat} {s t : QQ} (hN : o + pw P ≤ N) (h : SE0 N s t) : SE0 N (LN P o r s) (LN P o r t) := by
  obtain ⟨h1, h2, h3⟩ := h
  have eu : ∀ x, x < N → unD P o r (qh t) x = unD P o r (qh s) x := by
    intro x hx
    unfold unD
    rw [(h1 x hx).1]
  refine ⟨fun x hx => ⟨?_, ?_, ?_⟩, ?_, ?_⟩
  · show hotD P o r (qh t) x - pg P = hotD P o r (qh s) x - pg P
    unfold hotD
    rw [(h1 x hx).1]
  · show weaD P o r (qh t) (qy t) x = weaD P o r (qh s) (qy s) x
    unfold weaD
    rw [eu x hx, (h1 x hx).2.1]
  · show qu t x + nI (unD P o r (qh t) x) = qu s x + nI (unD P o r (qh s) x)
    rw [eu x hx, (h1 x hx).2.2]
  · show qt t + nI (SN (fun c => unD P o r (qh t) (o + c)) (pw P)) = qt s + nI (SN (fun c => unD P o r (qh s) (o + c)) (pw P))
    rw [h2, SN_cong (t := fun c => unD P o r (qh t) (o + c)) (u := fun c => unD P o r (qh s) (o + c)) (fun c hc => eu (o + c) (by omega))]
  · show qb t + SN (fun c => bdD P o r (qh t) (qy t) (o + c)) (pw P) = qb s + SN (fun c => bdD P o r (qh s) (qy s) (o + c)) (pw P)
    rw [h3]
    congr 1
    refine SN_cong (fun c hc => ?_)
    show bdD P o r (qh t) (qy t) (o + c) = bdD P o r (qh s) (qy s) (o + c)
    unfold bdD
    rw [(h1 (o + c) (by omega)).1, (h1 (o + c) (by omega)).2.1]
theorem PL_e {P : PP} {o N : Nat} {s t : QQ} (hN : o + pw P ≤ N) (h : SE0 N s t) : ∀ r, SE0 N (PL P o r s) (PL P o r t)
  | 0 => h
  | r + 1 => LN_e hN (PL_e hN h r)
end PureSpec
