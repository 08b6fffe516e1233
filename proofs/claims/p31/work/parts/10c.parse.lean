/-! what a text means: whether it goes, where it ends, its variables, its steps, its value -/
abbrev qX : Type := (Nat → Int32) → Int32
abbrev pR : Type := Bool × Nat × (Nat → Bool) × List Int32 × qX
abbrev pP : Type := Nat → (Nat → Bool) → pR
def padd (V : Nat → Bool) (v : Nat) : Nat → Bool := fun i => V i || decide (i = v)
def pno (q : Nat) (V : Nat → Bool) : pR := (false, q, V, [], fun _ => 0)
def pOne (T : qTp) (dp : Bool) (neg sum : pP) : pP := fun q V =>
  if qkd T q = 1 then (true, qnt T q, V, [nI (qvl T q)], fun _ => nI (qvl T q))
  else if qkd T q = 2 then (if 3 < qcnt (padd V (qvl T q)) 8 then pno q V else (true, qnt T q, padd V (qvl T q), [nI (10000 + qvl T q)], fun e => e (qvl T q)))
  else if dp = false then pno q V
  else if qkd T q = 45 then ((neg (qnt T q) V).1, (neg (qnt T q) V).2.1, (neg (qnt T q) V).2.2.1, (neg (qnt T q) V).2.2.2.1 ++ [10008], fun e => - (neg (qnt T q) V).2.2.2.2 e)
  else if qkd T q = 40 then (if (sum (qnt T q) V).1 = true ∧ qkd T (sum (qnt T q) V).2.1 = 41 then (true, qnt T (sum (qnt T q) V).2.1, (sum (qnt T q) V).2.2) else pno (sum (qnt T q) V).2.1 V)
  else pno q V
/-- a chain: parts joined by the signs that p takes -/
def pCh (T : qTp) (p : Nat → Bool) (f : pP) : Nat → pR → pR
  | 0, r => r
  | m + 1, r => if p (qkd T r.2.1) = true then (if (f (qnt T r.2.1) r.2.2.1).1 = true then pCh T p f m (true, (f (qnt T r.2.1) r.2.2.1).2.1, (f (qnt T r.2.1) r.2.2.1).2.2.1, r.2.2.2.1 ++ ((f (qnt T r.2.1) r.2.2.1).2.2.2.1 ++ [nI (10100 + qkd T r.2.1)]), fun e => (if qkd T r.2.1 = 43 then r.2.2.2.2 e + (f (qnt T r.2.1) r.2.2.1).2.2.2.2 e else if qkd T r.2.1 = 45 then r.2.2.2.2 e - (f (qnt T r.2.1) r.2.2.1).2.2.2.2 e else r.2.2.2.2 e * (f (qnt T r.2.1) r.2.2.1).2.2.2.2 e)) else pno (f (qnt T r.2.1) r.2.2.1).2.1 r.2.2.1) else r
def pC (T : qTp) (p : Nat → Bool) (f : pP) : pP := fun q V => if (f q V).1 = true then pCh T p f 90 (f q V) else f q V
def s42 (k : Nat) : Bool := decide (k = 42)
def s43 (k : Nat) : Bool := decide (k = 43) || decide (k = 45)
def pTerm (T : qTp) (f : pP) : pP := pC T s42 f
def pSum (T : qTp) (f : pP) : pP := pC T s43 (pTerm T f)
def pLv (T : qTp) : Nat → pP
  | 0 => pOne T false (fun q V => pno q V) (fun q V => pno q V)
  | k + 1 => pOne T true (pLv T k) (pSum T (pLv T k))
/-- what a parser keeps -/
def PG (T : qTp) (f : pP) : Prop := ∀ q V, q ≤ T.1 → q ≤ (f q V).2.1 ∧ (f q V).2.1 ≤ T.1 ∧ ((f q V).1 = true → q < (f q V).2.1 ∧ q + (f q V).2.2.2.1.length ≤ (f q V).2.1 ∧ (qcnt V 8 ≤ 3 → qcnt (f q V).2.2.1 8 ≤ 3))
theorem PG_no (T : qTp) : PG T (fun q V => pno q V) := fun q V hq => ⟨Nat.le_refl _, hq, fun z => by cases z⟩
theorem pOne_1 {T : qTp} {dp : Bool} {neg sum : pP} {q : Nat} {V : Nat → Bool} (h : qkd T q = 1) : pOne T dp neg sum q V = (true, qnt T q, V, [nI (qvl T q)], fun _ => nI (qvl T q)) := if_pos h
theorem pOne_2b {T : qTp} {dp : Bool} {neg sum : pP} {q : Nat} {V : Nat → Bool} (h : qkd T q = 2) (c : 3 < qcnt (padd V (qvl T q)) 8) : pOne T dp neg sum q V = pno q V := by unfold pOne; rw [if_neg (by omega), if_pos h, if_pos c]
theorem pOne_2 {T : qTp} {dp : Bool} {neg sum : pP} {q : Nat} {V : Nat → Bool} (h : qkd T q = 2) (c : ¬ 3 < qcnt (padd V (qvl T q)) 8) : pOne T dp neg sum q V = (true, qnt T q, padd V (qvl T q), [nI (10000 + qvl T q)], fun e => e (qvl T q)) := by unfold pOne; rw [if_neg (by omega), if_pos h, if_neg c]
theorem pOne_f {T : qTp} {neg sum : pP} {q : Nat} {V : Nat → Bool} (h : ¬ qkd T q = 1) (h2 : ¬ qkd T q = 2) : pOne T false neg sum q V = pno q V := by unfold pOne; rw [if_neg h, if_neg h2, if_pos rfl]
theorem pOne_45 {T : qTp} {neg sum : pP} {q : Nat} {V : Nat → Bool} (h : qkd T q = 45) : pOne T true neg sum q V = ((neg (qnt T q) V).1, (neg (qnt T q) V).2.1, (neg (qnt T q) V).2.2.1, (neg (qnt T q) V).2.2.2.1 ++ [10008], fun e => - (neg (qnt T q) V).2.2.2.2 e) := by unfold pOne; rw [if_neg (by omega), if_neg (by omega), if_neg (by decide), if_pos h]
theorem pOne_40 {T : qTp} {neg sum : pP} {q : Nat} {V : Nat → Bool} (h : qkd T q = 40) (c : (sum (qnt T q) V).1 = true ∧ qkd T (sum (qnt T q) V).2.1 = 41) : pOne T true neg sum q V = (true, qnt T (sum (qnt T q) V).2.1, (sum (qnt T q) V).2.2) := by unfold pOne; rw [if_neg (by omega), if_neg (by omega), if_neg (by decide), if_neg (by omega), if_pos h, if_pos c]
theorem pOne_40b {T : qTp} {neg sum : pP} {q : Nat} {V : Nat → Bool} (h : qkd T q = 40) (c : ¬ ((sum (qnt T q) V).1 = true ∧ qkd T (sum (qnt T q) V).2.1 = 41)) : pOne T true neg sum q V = pno (sum (qnt T q) V).2.1 V := by unfold pOne; rw [if_neg (by omega), if_neg (by omega), if_neg (by decide), if_neg (by omega), if_pos h, if_neg c]
theorem pOne_x {T : qTp} {neg sum : pP} {q : Nat} {V : Nat → Bool} (h : ¬ qkd T q = 1) (h2 : ¬ qkd T q = 2) (h3 : ¬ qkd T q = 45) (h4 : ¬ qkd T q = 40) : pOne T true neg sum q V = pno q V := by unfold pOne; rw [if_neg h, if_neg h2, if_neg (by decide), if_neg h3, if_neg h4]
theorem PG_one {T : qTp} {dp : Bool} {neg sum : pP} (hn : PG T neg) (hs : PG T sum) : PG T (pOne T dp neg sum) := by
  intro q V hq
  have no : ∀ q2 V2, q ≤ q2 → q2 ≤ T.1 → q ≤ (pno q2 V2).2.1 ∧ (pno q2 V2).2.1 ≤ T.1 ∧ ((pno q2 V2).1 = true → q < (pno q2 V2).2.1 ∧ q + (pno q2 V2).2.2.2.1.length ≤ (pno q2 V2).2.1 ∧ (qcnt V 8 ≤ 3 → qcnt (pno q2 V2).2.2.1 8 ≤ 3)) := fun q2 V2 h1 h2 => ⟨h1, h2, fun z => by cases z⟩
  by_cases k0 : qkd T q = 0
  · have : pOne T dp neg sum q V = pno q V := by
      cases dp with
      | false => exact pOne_f (by omega) (by omega)
      | true => exact pOne_x (by omega) (by omega) (by omega) (by omega)
    rw [this]; exact no q V (Nat.le_refl _) hq
  have hlt := qkd_lt k0
  have nx := qnt_gt hlt
  by_cases k1 : qkd T q = 1
  · rw [pOne_1 k1]
    exact ⟨by dsimp only; omega, nx.2, fun _ => ⟨nx.1, by show q + 1 ≤ qnt T q; omega, fun h => h⟩⟩
  by_cases k2 : qkd T q = 2
  · by_cases c : 3 < qcnt (padd V (qvl T q)) 8
    · rw [pOne_2b k2 c]; exact no q V (Nat.le_refl _) hq
    · rw [pOne_2 k2 c]
      exact ⟨by dsimp only; omega, nx.2, fun _ => ⟨nx.1, by show q + 1 ≤ qnt T q; omega, fun _ => by dsimp only; omega⟩⟩
  cases dp with
  | false => rw [pOne_f k1 k2]; exact no q V (Nat.le_refl _) hq
  | true =>
    by_cases k3 : qkd T q = 45
    · rw [pOne_45 k3]
      have := hn (qnt T q) V nx.2
      refine ⟨by dsimp only; omega, this.2.1, fun z => ?_⟩
      have := this.2.2 z
      dsimp only
      rw [List.length_append]
      exact ⟨by omega, by show q + (_ + 1) ≤ _; omega, this.2.2⟩
    by_cases k4 : qkd T q = 40
    · have := hs (qnt T q) V nx.2
      by_cases c : (sum (qnt T q) V).1 = true ∧ qkd T (sum (qnt T q) V).2.1 = 41
      · rw [pOne_40 k4 c]
        have n2 := qnt_gt (qkd_lt (T := T) (q := (sum (qnt T q) V).2.1) (by omega))
        have t := this.2.2 c.1
        refine ⟨by dsimp only; omega, n2.2, fun _ => ⟨by dsimp only; omega, ?_, t.2.2⟩⟩
        dsimp only
        omega
      · rw [pOne_40b k4 c]; exact no _ V (by omega) this.2.1
    rw [pOne_x k1 k2 k3 k4]; exact no q V (Nat.le_refl _) hq
theorem PG_ch {T : qTp} {p : Nat → Bool} (p0 : p 0 = false) {f : pP} (hf : PG T f) : ∀ (m : Nat) (r : pR) (q : Nat) (V : Nat → Bool), r.1 = true → q < r.2.1 → r.2.1 ≤ T.1 → q + r.2.2.2.1.length ≤ r.2.1 → (qcnt V 8 ≤ 3 → qcnt r.2.2.1 8 ≤ 3) → q ≤ (pCh T p f m r).2.1 ∧ (pCh T p f m r).2.1 ≤ T.1 ∧ ((pCh T p f m r).1 = true → q < (pCh T p f m r).2.1 ∧ q + (pCh T p f m r).2.2.2.1.length ≤ (pCh T p f m r).2.1 ∧ (qcnt V 8 ≤ 3 → qcnt (pCh T p f m r).2.2.1 8 ≤ 3)) := by
  intro m
  induction m with
  | zero => intro r q V h1 h2 h3 h4 h5; exact ⟨Nat.le_of_lt h2, h3, fun _ => ⟨h2, h4, h5⟩⟩
  | succ m ih =>
    intro r q V h1 h2 h3 h4 h5
    unfold pCh
    by_cases c : p (qkd T r.2.1) = true
    · have k0 : ¬ qkd T r.2.1 = 0 := fun z => by rw [z, p0] at c; cases c
      have nx := qnt_gt (qkd_lt k0)
      have hf := hf (qnt T r.2.1) r.2.2.1 nx.2
      rw [if_pos c]
      by_cases c2 : (f (qnt T r.2.1) r.2.2.1).1 = true
      · rw [if_pos c2]
        have g := hf.2.2 c2
        refine ih _ q V rfl (by dsimp only; omega) hf.2.1 ?_ (fun h => g.2.2 (h5 h))
        dsimp only
        rw [List.length_append, List.length_append]
        show q + (_ + (_ + 1)) ≤ _
        omega
      · rw [if_neg c2]
        exact ⟨by show q ≤ (f (qnt T r.2.1) r.2.2.1).2.1; omega, hf.2.1, fun z => by cases z⟩
    · rw [if_neg c]; exact ⟨Nat.le_of_lt h2, h3, fun _ => ⟨h2, h4, h5⟩⟩
theorem PG_C {T : qTp} {p : Nat → Bool} (p0 : p 0 = false) {f : pP} (hf : PG T f) : PG T (pC T p f) := by
  intro q V hq
  have g := hf q V hq
  unfold pC
  by_cases c : (f q V).1 = true
  · rw [if_pos c]
    have t := g.2.2 c
    exact PG_ch p0 hf 90 _ q V c t.1 g.2.1 t.2.1 t.2.2
  · rw [if_neg c]; exact g
theorem PG_term {T : qTp} {f : pP} (hf : PG T f) : PG T (pTerm T f) := PG_C rfl hf
theorem PG_sum {T : qTp} {f : pP} (hf : PG T f) : PG T (pSum T f) := PG_C rfl (PG_term hf)
theorem PG_lv (T : qTp) : ∀ k, PG T (pLv T k) := by
  intro k
  induction k with
  | zero => exact PG_one (PG_no T) (PG_no T)
  | succ k ih => exact PG_one ih (PG_sum ih)

