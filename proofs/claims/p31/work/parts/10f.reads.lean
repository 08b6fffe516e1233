/-! what a text is as a rule -/
def qcm (k : Nat) (a b : Int32) : Bool := if k = 60 then decide (a < b) else if k = 61 then decide (a = b) else if k = 62 then decide (b < a) else !decide (a = b)
def isop (k : Nat) : Bool := decide (k = 60) || (decide (k = 61) || (decide (k = 62) || decide (k = 33)))
def ts1 (T : qTp) (q : Nat) (V : Nat → Bool) : pR := pSum T (pLv T 5) q V
def ts2 (T : qTp) (q : Nat) (V : Nat → Bool) : pR := pSum T (pLv T 5) (qnt T (ts1 T q V).2.1) (ts1 T q V).2.2.1
def tgo (T : qTp) (q : Nat) (V : Nat → Bool) : Bool := (ts1 T q V).1 && isop (qkd T (ts1 T q V).2.1)
def tok (T : qTp) (q : Nat) (V : Nat → Bool) : Bool := tgo T q V && (ts2 T q V).1
def tpl (T : qTp) (q : Nat) (V : Nat → Bool) : Nat := if tgo T q V = true then (ts2 T q V).2.1 else (ts1 T q V).2.1
def tval (T : qTp) (q : Nat) (V : Nat → Bool) (e : Nat → Int32) : Bool := qcm (qkd T (ts1 T q V).2.1) ((ts1 T q V).2.2.2.2 e) ((ts2 T q V).2.2.2.2 e)
abbrev rdR : Type := Bool × Nat × Nat × (Nat → Bool) × ((Nat → Int32) → Bool)
def rno (p : Nat) : rdR := (false, p, 0, fun _ => false, fun _ => false)
def qne : Nat → Bool := fun _ => false
/-- no two of V have the same value -/
def qun (V : Nat → Bool) (e : Nat → Int32) : Bool := (List.range 8).all fun i => (List.range 8).all fun j => !(V i && (V j && decide (e i = e j))) || decide (i = j)
theorem qun_iff (V : Nat → Bool) (e : Nat → Int32) : qun V e = true ↔ ∀ i, i < 8 → ∀ j, j < 8 → V i = true → V j = true → e i = e j → i = j := by
  unfold qun
  rw [List.all_eq_true]
  constructor
  · intro H i hi j hj vi vj ee
    have := List.all_eq_true.mp (H i (List.mem_range.mpr hi)) j (List.mem_range.mpr hj)
    rw [vi, vj, decide_eq_true ee] at this
    simpa using this
  · intro H i hi
    rw [List.all_eq_true]
    intro j hj
    by_cases c : V i = true ∧ V j = true ∧ e i = e j
    · rw [decide_eq_true (H i (List.mem_range.mp hi) j (List.mem_range.mp hj) c.1 c.2.1 c.2.2), Bool.or_true]
    · cases a : V i
      · rfl
      · cases b : V j
        · rfl
        · rw [decide_eq_false (fun z => c ⟨a, b, z⟩)]; rfl
/-- a name that is new -/
def qfr (T : qTp) (p : Nat) (V : Nat → Bool) : Bool := decide (qkd T p = 2) && !V (qvl T p)
def qds1 (T : qTp) (p : Nat) (V : Nat → Bool) : rdR := if qkd T p = 0 then (true, p, 2, V, qun V) else rno p
def qds2 (T : qTp) (p : Nat) (V : Nat → Bool) : rdR := if qkd T p = 0 then (true, p, 2, V, qun V) else if qfr T p V = true then qds1 T (qnt T p) (padd V (qvl T p)) else rno p
def qds3 (T : qTp) (p : Nat) (V : Nat → Bool) : rdR := if qfr T p V = true then qds2 T (qnt T p) (padd V (qvl T p)) else rno p
def qds (T : qTp) (p : Nat) : rdR := if qfr T p qne = true then qds3 T (qnt T p) (padd qne (qvl T p)) else rno p
def qpl (T : qTp) (q : Nat) : rdR := if tok T q qne = true ∧ qkd T (tpl T q qne) = 0 then (true, tpl T q qne, 0, (ts2 T q qne).2.2.1, tval T q qne) else rno (tpl T q qne)
def qrf (T : qTp) (b q : Nat) : rdR := if tok T q (padd qne b) = true ∧ qkd T (tpl T q (padd qne b)) = 0 then (true, tpl T q (padd qne b), 1, (ts2 T q (padd qne b)).2.2.1, fun e => (decide (e b = 1) && tval T q (padd qne b) e) || (decide (e b = 0) && !tval T q (padd qne b) e)) else rno (tpl T q (padd qne b))
def qrd (T : qTp) : rdR := if qkd T (qskip T 0) = 3 then qds T (qnt T (qskip T 0)) else if qkd T (qskip T 0) = 2 ∧ qkd T (qnt T (qskip T 0)) = 58 then qrf T (qvl T (qskip T 0)) (qnt T (qnt T (qskip T 0))) else qpl T (qskip T 0)
theorem qrf_t {T : qTp} {b q : Nat} (c : tok T q (padd qne b) = true ∧ qkd T (tpl T q (padd qne b)) = 0) : qrf T b q = (true, tpl T q (padd qne b), 1, (ts2 T q (padd qne b)).2.2.1, fun e => (decide (e b = 1) && tval T q (padd qne b) e) || (decide (e b = 0) && !tval T q (padd qne b) e)) := if_pos c
theorem qrf_f {T : qTp} {b q : Nat} (c : ¬ (tok T q (padd qne b) = true ∧ qkd T (tpl T q (padd qne b)) = 0)) : qrf T b q = rno (tpl T q (padd qne b)) := if_neg c
theorem qcnt_padd (V : Nat → Bool) (v : Nat) : ∀ n, qcnt (padd V v) n ≤ qcnt V n + 1 ∧ (n ≤ v → qcnt (padd V v) n = qcnt V n) := by
  intro n
  induction n with
  | zero => exact ⟨Nat.zero_le _, fun _ => rfl⟩
  | succ n ih =>
    show (qcnt (padd V v) n + (if padd V v n then 1 else 0) ≤ qcnt V n + (if V n then 1 else 0) + 1) ∧ (n + 1 ≤ v → qcnt (padd V v) n + (if padd V v n then 1 else 0) = qcnt V n + (if V n then 1 else 0))
    by_cases c : n = v
    · refine ⟨?_, fun z => by omega⟩
      have := ih.2 (by omega)
      rw [this]
      split <;> omega
    · have : padd V v n = V n := by unfold padd; rw [decide_eq_false c, Bool.or_false]
      rw [this]
      refine ⟨by omega, fun z => ?_⟩
      rw [ih.2 (by omega)]
theorem qcnt_ne : qcnt qne 8 = 0 := by decide
