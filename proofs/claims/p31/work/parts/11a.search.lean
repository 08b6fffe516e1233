/-! the search, told apart from both heaps -/
/-- rules, picture, (tries, fails, found), the solution -/
abbrev sQ : Type := qE × qP × (Nat × Nat × Nat) × (Nat → Nat)
/-- decisions; which variable, which value; tries at most; whether it learns, whether all are told -/
abbrev sC : Type := Nat × (Nat → Nat × Int32) × Nat × Nat × Nat × Bool × Bool
def cd (c : sC) : Nat := c.1
def cdec (c : sC) : Nat → Nat × Int32 := c.2.1
def cch (c : sC) : Nat := c.2.2.1
def cpk (c : sC) : Nat := c.2.2.2.1
def cmo (c : sC) : Nat := c.2.2.2.2.1
def cln (c : sC) : Bool := c.2.2.2.2.2.1
def cal (c : sC) : Bool := c.2.2.2.2.2.2
/-- how many rules of texts a variable stands in -/
def srn (E : qE) (x : Nat) : Nat := qcnt (fun r => Ev E r x) (En E)
def swo (ch : Nat) (E : qE) (D : Nat → Nat → Bool) (x : Nat) : Int32 := if ch = 1 then -nI (qcnt (D x) 10) else if ch = 2 then nI (qcnt (D x) 10) else if ch = 3 then nI (srn E x) else 0
def sch (w : Nat → Int32) (D : Nat → Nat → Bool) : Nat → Nat → Option Nat → Int32 → Option Nat
  | 0, _, b, _ => b
  | m + 1, k, b, bw => if qcnt (D k) 10 = 1 then sch w D m (k + 1) b bw else if b = none ∨ bw < w k then sch w D m (k + 1) (some k) (w k) else sch w D m (k + 1) b bw
def schosen (ch : Nat) (E : qE) (D : Nat → Nat → Bool) : Option Nat := sch (swo ch E D) D 8 0 none 0
/-- the value of a domain with n below it -/
def nthb (D : Nat → Bool) : Nat → Nat → Nat → Nat
  | 0, _, _ => 0
  | m + 1, k, n => if D k = true then (if n = 0 then k else nthb D m (k + 1) (n - 1)) else nthb D m (k + 1) n
def spick (pk : Nat) (D : Nat → Bool) : Nat := nthb D 10 0 (if pk = 1 then qcnt D 10 - 1 else if pk = 2 then qcnt D 10 / 2 else 0)
def sbit (v : Nat) : Int32 := (1 : Int32) <<< (nI v &&& 31)
/-- whether the decisions and some of the tries fail -/
def strf (c : sC) (E : qE) (pth : List (Nat × Nat)) (mk : Int32) : Bool := (qth E none (cdec c) (bt (allm (cd c))) (cd c) (fun i => pth.getD i (0, 0)) (bt mk)).2.2.1
def slsh (f : Int32 → Bool) : Nat → Nat → Int32 → Int32
  | 0, _, a => a
  | m + 1, k, a => slsh f m (k + 1) (if f (bitoff a k) = true then bitoff a k else a)
def slV (pth : List (Nat × Nat)) (mk : Int32) (x : Nat) : Bool := (List.range pth.length).any fun i => bt mk i && decide ((pth.getD i (0, 0)).1 = x)
def slp (pth : List (Nat × Nat)) (x : Nat) : Nat := match pth.find? (fun a => decide (a.1 = x)) with
  | none => 0
  | some a => a.2
def sEln (E : qE) (pth : List (Nat × Nat)) (mk : Int32) : qE := (En E, El E + 1, updg (Ev E) (16 + El E) (slV pth mk), ET E, updg (Ep E) (16 + El E) (slp pth), updg (Er E) (16 + El E) 9, Eac E)
/-- what the open tries teach -/
def slearn (c : sC) (E : qE) (pth : List (Nat × Nat)) : Option qE := if El E < 8 then (if strf c E pth (allm pth.length) = true then some (sEln E pth (slsh (strf c E pth) pth.length 0 (allm pth.length))) else none) else none
/-- the value of a try goes, behind it -/
def sback (E : qE) (x v : Nat) (P : qP) : qP := qnw E x (sbit v ^^^ (-1 : Int32)) 100 (P.1, qemp, false, P.2.2.2)
def swake (r : Nat) (P : qP) : qP := (P.1, (fun i => P.2.1 i || decide (i = r)), P.2.2)
def slesson (c : sC) (fl : Bool) (pth : List (Nat × Nat)) (E : qE) : Option qE := if (cln c && fl) = true then slearn c E pth else none
/-- what is searched on, behind a try -/
def snext (c : sC) (pth : List (Nat × Nat)) (x v : Nat) (P1 : qP) (fl : Bool) (r : sQ) : sQ := match slesson c fl (pth ++ [(x, v)]) r.1 with
  | none => (r.1, sback r.1 x v P1, r.2.2)
  | some E2 => (E2, swake (16 + El r.1) (sback r.1 x v P1), r.2.2)
def stry (E : qE) (x v : Nat) (P : qP) : qP := qnw E x (sbit v) 100 P
def sLoop (c : sC) (sub : List (Nat × Nat) → sQ → Nat × Bool × sQ) (pth : List (Nat × Nat)) : Nat → Bool → sQ → Nat × Bool × sQ
  | 0, _, s => (0, false, s)
  | n + 1, fl, s => if (qiter s.1 2024 s.2.1).2.2.1 = true then (0, fl, (s.1, qiter s.1 2024 s.2.1, (s.2.2.1.1, s.2.2.1.2.1 + 1, s.2.2.1.2.2), s.2.2.2)) else
    match schosen (cch c) s.1 (qiter s.1 2024 s.2.1).1 with
    | none => (if cal c = true then 0 else 1, false, (s.1, qiter s.1 2024 s.2.1, (s.2.2.1.1, s.2.2.1.2.1, s.2.2.1.2.2 + 1), fun x => nthb ((qiter s.1 2024 s.2.1).1 x) 10 0 0))
    | some x => if s.2.2.1.1 = cmo c then (2, false, (s.1, qiter s.1 2024 s.2.1, s.2.2)) else
      if (sub (pth ++ [(x, spick (cpk c) ((qiter s.1 2024 s.2.1).1 x))]) (s.1, stry s.1 x (spick (cpk c) ((qiter s.1 2024 s.2.1).1 x)) (qiter s.1 2024 s.2.1), (s.2.2.1.1 + 1, s.2.2.1.2), s.2.2.2)).1 = 0 then
        sLoop c sub pth n false (snext c pth x (spick (cpk c) ((qiter s.1 2024 s.2.1).1 x)) (qiter s.1 2024 s.2.1) (sub (pth ++ [(x, spick (cpk c) ((qiter s.1 2024 s.2.1).1 x))]) (s.1, stry s.1 x (spick (cpk c) ((qiter s.1 2024 s.2.1).1 x)) (qiter s.1 2024 s.2.1), (s.2.2.1.1 + 1, s.2.2.1.2), s.2.2.2)).2.1 (sub (pth ++ [(x, spick (cpk c) ((qiter s.1 2024 s.2.1).1 x))]) (s.1, stry s.1 x (spick (cpk c) ((qiter s.1 2024 s.2.1).1 x)) (qiter s.1 2024 s.2.1), (s.2.2.1.1 + 1, s.2.2.1.2), s.2.2.2)).2.2)
      else sub (pth ++ [(x, spick (cpk c) ((qiter s.1 2024 s.2.1).1 x))]) (s.1, stry s.1 x (spick (cpk c) ((qiter s.1 2024 s.2.1).1 x)) (qiter s.1 2024 s.2.1), (s.2.2.1.1 + 1, s.2.2.1.2), s.2.2.2)
def sRec (c : sC) : Nat → List (Nat × Nat) → sQ → Nat × Bool × sQ
  | 0, _, s => (0, false, s)
  | k + 1, pth, s => sLoop c (sRec c k) pth 400 (decide (0 < pth.length)) s
section
variable {c : sC} {sub : List (Nat × Nat) → sQ → Nat × Bool × sQ} {pth : List (Nat × Nat)} {n : Nat} {fl : Bool} {E : qE} {P : qP} {tr fa fo : Nat} {sol : Nat → Nat}
/-- its picture, its try, and what comes of it -/
def sP1 (E : qE) (P : qP) : qP := qiter E 2024 P
def sv (c : sC) (E : qE) (P : qP) (x : Nat) : Nat := spick (cpk c) ((sP1 E P).1 x)
def sch1 (c : sC) (E : qE) (P : qP) (tr fa fo : Nat) (sol : Nat → Nat) (x : Nat) : sQ := (E, stry E x (sv c E P x) (sP1 E P), (tr + 1, fa, fo), sol)
theorem sL_fail (h : (sP1 E P).2.2.1 = true) : sLoop c sub pth (n + 1) fl (E, P, (tr, fa, fo), sol) = (0, fl, (E, sP1 E P, (tr, fa + 1, fo), sol)) := if_pos h
theorem sL_sol (h : (sP1 E P).2.2.1 = false) (h2 : schosen (cch c) E (sP1 E P).1 = none) : sLoop c sub pth (n + 1) fl (E, P, (tr, fa, fo), sol) = (if cal c = true then 0 else 1, false, (E, sP1 E P, (tr, fa, fo + 1), fun x => nthb ((sP1 E P).1 x) 10 0 0)) := by
  show (if (sP1 E P).2.2.1 = true then _ else match schosen (cch c) E (sP1 E P).1 with | none => _ | some x => _) = _
  rw [if_neg (by rw [h]; decide), h2]; rfl
theorem sL_dear {x : Nat} (h : (sP1 E P).2.2.1 = false) (h2 : schosen (cch c) E (sP1 E P).1 = some x) (h3 : tr = cmo c) : sLoop c sub pth (n + 1) fl (E, P, (tr, fa, fo), sol) = (2, false, (E, sP1 E P, (tr, fa, fo), sol)) := by
  show (if (sP1 E P).2.2.1 = true then _ else match schosen (cch c) E (sP1 E P).1 with | none => _ | some x => _) = _
  rw [if_neg (by rw [h]; decide), h2]; exact if_pos h3
theorem sL_try {x : Nat} (h : (sP1 E P).2.2.1 = false) (h2 : schosen (cch c) E (sP1 E P).1 = some x) (h3 : ¬ tr = cmo c) (h4 : (sub (pth ++ [(x, sv c E P x)]) (sch1 c E P tr fa fo sol x)).1 = 0) : sLoop c sub pth (n + 1) fl (E, P, (tr, fa, fo), sol) = sLoop c sub pth n false (snext c pth x (sv c E P x) (sP1 E P) (sub (pth ++ [(x, sv c E P x)]) (sch1 c E P tr fa fo sol x)).2.1 (sub (pth ++ [(x, sv c E P x)]) (sch1 c E P tr fa fo sol x)).2.2) := by
  show (if (sP1 E P).2.2.1 = true then _ else match schosen (cch c) E (sP1 E P).1 with | none => _ | some x => _) = _
  rw [if_neg (by rw [h]; decide), h2]
  show (if tr = cmo c then _ else _) = _
  rw [if_neg h3]; exact if_pos h4
theorem sL_end {x : Nat} (h : (sP1 E P).2.2.1 = false) (h2 : schosen (cch c) E (sP1 E P).1 = some x) (h3 : ¬ tr = cmo c) (h4 : ¬ (sub (pth ++ [(x, sv c E P x)]) (sch1 c E P tr fa fo sol x)).1 = 0) : sLoop c sub pth (n + 1) fl (E, P, (tr, fa, fo), sol) = sub (pth ++ [(x, sv c E P x)]) (sch1 c E P tr fa fo sol x) := by
  show (if (sP1 E P).2.2.1 = true then _ else match schosen (cch c) E (sP1 E P).1 with | none => _ | some x => _) = _
  rw [if_neg (by rw [h]; decide), h2]
  show (if tr = cmo c then _ else _) = _
  rw [if_neg h3]; exact if_neg h4
end
/-- what a search keeps: the texts' rules, the trail up to here; tries grow -/
def sE0 (E E2 : qE) : Prop := En E2 = En E ∧ El E ≤ El E2 ∧ (∀ r, r < 16 → Ev E2 r = Ev E r ∧ ET E2 r = ET E r ∧ Er E2 r = Er E r) ∧ Eac E2 = Eac E
theorem sE0_rf (E : qE) : sE0 E E := ⟨rfl, Nat.le_refl _, fun _ _ => ⟨rfl, rfl, rfl⟩, rfl⟩
theorem sE0_tr {A B C : qE} (h1 : sE0 A B) (h2 : sE0 B C) : sE0 A C := ⟨h2.1.trans h1.1, Nat.le_trans h1.2.1 h2.2.1, fun r hr => ⟨(h2.2.2.1 r hr).1.trans (h1.2.2.1 r hr).1, (h2.2.2.1 r hr).2.1.trans (h1.2.2.1 r hr).2.1, (h2.2.2.1 r hr).2.2.trans (h1.2.2.1 r hr).2.2⟩, h2.2.2.2.trans h1.2.2.2⟩
theorem sEln_0 (E : qE) (pth : List (Nat × Nat)) (mk : Int32) : sE0 E (sEln E pth mk) := ⟨rfl, Nat.le_succ _, fun r hr => ⟨updg_o _ _ (by omega), rfl, updg_o _ _ (by omega)⟩, rfl⟩
theorem slearn_0 {c : sC} {E E2 : qE} {pth : List (Nat × Nat)} (h : slearn c E pth = some E2) : sE0 E E2 := by
  unfold slearn at h
  split at h
  · split at h
    · rw [← Option.some.inj h]; exact sEln_0 E pth _
    · cases h
  · cases h
theorem snext_0 (c : sC) (pth : List (Nat × Nat)) (x v : Nat) (P1 : qP) (fl : Bool) (r : sQ) : sE0 r.1 (snext c pth x v P1 fl r).1 ∧ (snext c pth x v P1 fl r).2.2 = r.2.2 ∧ text P1.2.2.2 (snext c pth x v P1 fl r).2.1.2.2.2 := by
  have tx : text P1.2.2.2 (sback r.1 x v P1).2.2.2 := ⟨_, rfl⟩
  unfold snext
  cases hl : slesson c fl (pth ++ [(x, v)]) r.1 with
  | none => exact ⟨sE0_rf _, rfl, tx⟩
  | some E2 =>
    unfold slesson at hl
    split at hl
    · exact ⟨slearn_0 hl, rfl, tx⟩
    · cases hl
def sKeep (c : sC) (s : sQ) (r : Nat × Bool × sQ) : Prop := sE0 s.1 r.2.2.1 ∧ s.2.2.1.1 ≤ r.2.2.2.2.1.1 ∧ (s.2.2.1.1 ≤ cmo c → r.2.2.2.2.1.1 ≤ cmo c) ∧ (r.1 = 0 → text s.2.1.2.2.2 r.2.2.2.1.2.2.2) ∧ (r.1 = 0 ∨ r.1 = 1 ∨ r.1 = 2)
theorem sLoop_keep {c : sC} {sub : List (Nat × Nat) → sQ → Nat × Bool × sQ} (hs : ∀ p s, sKeep c s (sub p s)) (pth : List (Nat × Nat)) : ∀ (n : Nat) (fl : Bool) (s : sQ), sKeep c s (sLoop c sub pth n fl s) := by
  intro n
  induction n with
  | zero => intro fl s; exact ⟨sE0_rf _, Nat.le_refl _, fun h => h, fun _ => text_rf _, Or.inl rfl⟩
  | succ n ih =>
    intro fl s
    obtain ⟨E, P, ⟨tr, fa, fo⟩, sol⟩ := s
    have t1 : text P.2.2.2 (sP1 E P).2.2.2 := qiter_ext E 2024 P
    cases hf : (sP1 E P).2.2.1 with
    | true => rw [sL_fail hf]; exact ⟨sE0_rf _, Nat.le_refl _, fun h => h, fun _ => t1, Or.inl rfl⟩
    | false =>
      cases hc : schosen (cch c) E (sP1 E P).1 with
      | none =>
        rw [sL_sol hf hc]
        refine ⟨sE0_rf _, Nat.le_refl _, fun h => h, fun _ => t1, ?_⟩
        dsimp only
        split
        · exact Or.inl rfl
        · exact Or.inr (Or.inl rfl)
      | some x =>
        by_cases ht : tr = cmo c
        · rw [sL_dear hf hc ht]; exact ⟨sE0_rf _, Nat.le_refl _, fun h => h, (fun z => by cases z), Or.inr (Or.inr rfl)⟩
        · obtain ⟨k1, k2, k3, k4, k5⟩ := hs (pth ++ [(x, sv c E P x)]) (sch1 c E P tr fa fo sol x)
          have k2 : tr + 1 ≤ (sub (pth ++ [(x, sv c E P x)]) (sch1 c E P tr fa fo sol x)).2.2.2.2.1.1 := k2
          have k3 : tr + 1 ≤ cmo c → _ := k3
          by_cases hz : (sub (pth ++ [(x, sv c E P x)]) (sch1 c E P tr fa fo sol x)).1 = 0
          · rw [sL_try hf hc ht hz]
            obtain ⟨n1, n2, n3⟩ := snext_0 c pth x (sv c E P x) (sP1 E P) (sub (pth ++ [(x, sv c E P x)]) (sch1 c E P tr fa fo sol x)).2.1 (sub (pth ++ [(x, sv c E P x)]) (sch1 c E P tr fa fo sol x)).2.2
            obtain ⟨l1, l2, l3, l4, l5⟩ := ih false (snext c pth x (sv c E P x) (sP1 E P) (sub (pth ++ [(x, sv c E P x)]) (sch1 c E P tr fa fo sol x)).2.1 (sub (pth ++ [(x, sv c E P x)]) (sch1 c E P tr fa fo sol x)).2.2)
            rw [n2] at l2 l3
            refine ⟨sE0_tr k1 (sE0_tr n1 l1), ?_, fun h => l3 (k3 (by have h : tr ≤ cmo c := h; omega)), fun z => text_tr t1 (text_tr n3 (l4 z)), l5⟩
            show tr ≤ _
            omega
          · rw [sL_end hf hc ht hz]
            exact ⟨k1, by show tr ≤ _; omega, fun h => k3 (by have h : tr ≤ cmo c := h; omega), fun z => absurd z hz, k5⟩
theorem sRec_keep (c : sC) : ∀ (k : Nat) (p : List (Nat × Nat)) (s : sQ), sKeep c s (sRec c k p s) := by
  intro k
  induction k with
  | zero => intro p s; exact ⟨sE0_rf _, Nat.le_refl _, fun h => h, fun _ => text_rf _, Or.inl rfl⟩
  | succ k ih => intro p s; exact sLoop_keep ih p 400 _ s

