/-! the law's rules: n - 1 steps of a chain, and one bound test -/
def cvs (n r x : Nat) : Bool := if r + 1 < n then decide (x = r) || decide (x = r + 1) else decide (r + 1 = n) && (decide (x = 0) || (decide (x = 1) || decide (x = 7)))
def cpr (n r : Nat) : Nat := if r + 1 < n then 2 else 4
def chv (n x : Nat) : Nat := ((if x + 1 < n then 2 ^ x else 0) ||| (if 0 < x ∧ x < n then 2 ^ (x - 1) else 0)) ||| (if x = 0 ∨ x = 1 ∨ x = 7 then 2 ^ (n - 1) else 0)
def RE (E : qE) (n k : Nat) : Prop := En E = n ∧ El E = 0 ∧ (∀ r, Eac E r = true) ∧ (∀ r, r < n → ∀ x, x < 8 → Ev E r x = cvs n r x) ∧ (∀ r, r < n → Er E r = cpr n r) ∧ (∀ r, r + 1 < n → ∀ y, y < 10 → ∀ z, z < 10 → ET E r y z 0 = decide (y + (k - 1) < z)) ∧ ∀ x, x < 10 → ∀ y, y < 10 → ∀ z, z < 10 → ET E (n - 1) x y z = if z = 1 then decide (x + k < y) else if z = 0 then !decide (x + k < y) else false
def lawN (n k : Nat) : Prop := 3 ≤ n ∧ n < 7 ∧ 1 ≤ k ∧ k < 3
theorem chv_all : ∀ n, n < 7 → 3 ≤ n → ∀ x, x < 8 → ∀ i, i < 24 → (chv n x).testBit i = (decide (i < n) && cvs n i x) := by decide +kernel
def cvs_ok (n r : Nat) : Bool := (!decide (r + 1 < n) || decide ((List.range 8).filter (cvs n r) = [r, r + 1])) && (!decide (r + 1 = n) || decide ((List.range 8).filter (cvs n r) = [0, 1, 7]))
theorem cvs_all0 : ∀ n, n < 7 → 3 ≤ n → ∀ r, r < 6 → cvs_ok n r = true := by decide +kernel
theorem cvs_all (n : Nat) (h1 : n < 7) (h2 : 3 ≤ n) (r : Nat) (h3 : r < 6) : (r + 1 < n → (List.range 8).filter (cvs n r) = [r, r + 1]) ∧ (r + 1 = n → (List.range 8).filter (cvs n r) = [0, 1, 7]) := by
  have h := cvs_all0 n h1 h2 r h3
  unfold cvs_ok at h
  rw [Bool.and_eq_true, Bool.or_eq_true, Bool.or_eq_true, Bool.not_eq_true', Bool.not_eq_true', decide_eq_false_iff_not, decide_eq_false_iff_not, decide_eq_true_eq, decide_eq_true_eq] at h
  exact ⟨fun q => h.1.resolve_left (fun z => z q), fun q => h.2.resolve_left (fun z => z q)⟩
section
variable {E : qE} {n k : Nat}
theorem RE_Eact (h : RE E n k) (r : Nat) (hr : r < 24) (hN : lawN n k) : Eact E r = decide (r < n) := by
  obtain ⟨h1, h2, h3, -⟩ := h
  unfold Eact qact
  rw [h1, h2, h3, Bool.and_true, decide_eq_false (p := 16 ≤ r ∧ r < 16 + 0 ∧ 0 ≤ n + (r - 16)) (by omega), Bool.or_false]
  apply decide_eq_decide.mpr
  omega
theorem RE_vls (h : RE E n k) {r : Nat} (hr : r < n) : vls (Ev E r) = (List.range 8).filter (cvs n r) := by
  unfold vls
  refine List.filter_congr (fun x hx => ?_)
  exact h.2.2.2.1 r hr x (List.mem_range.mp hx)
theorem RE_vls2 (h : RE E n k) (hN : lawN n k) {r : Nat} (hr : r + 1 < n) : vls (Ev E r) = [r, r + 1] := by
  rw [RE_vls h (by omega)]
  exact (cvs_all n hN.2.1 hN.1 r (by have := hN.2.1; omega)).1 hr
theorem RE_vls3 (h : RE E n k) (hN : lawN n k) : vls (Ev E (n - 1)) = [0, 1, 7] := by
  have h1 := hN.1
  have h2 := hN.2.1
  rw [RE_vls h (by omega)]
  exact (cvs_all n hN.2.1 hN.1 (n - 1) (by omega)).2 (by omega)
end
/-! pictures in numbers -/
def AgD (f : Nat → Nat → Bool) (D : Nat) : Prop := ∀ x, x < 8 → ∀ v, v < 10 → f x v = D.testBit (10 * x + v)
def AgQ (q : Nat → Bool) (Q : Nat) : Prop := ∀ r, r < 24 → q r = Q.testBit r
/-- no domain is empty -/
def NZ (D : Nat) : Prop := ∀ x, x < 8 → ¬ dm D x = 0
def RP (n : Nat) (P : qP) (c : Nat × Nat) : Prop := (c.1 = 0 → P.2.2.1 = true ∧ c.2 = 0) ∧ (¬ c.1 = 0 → P.2.2.1 = false ∧ AgD P.1 c.1 ∧ NZ c.1) ∧ AgQ P.2.1 c.2 ∧ ∀ r, r < 24 → c.2.testBit r = true → r < n
theorem AgD_dm {f : Nat → Nat → Bool} {D : Nat} (h : AgD f D) {x v : Nat} (hx : x < 8) (hv : v < 10) : (dm D x).testBit v = f x v := by
  rw [dm_tb, decide_eq_true hv, Bool.true_and, h x hx v hv]
/-- a domain is cut by a set -/
def cst (n D w x m : Nat) : Nat × Nat := fN (dm D x) fun o => fN (o &&& m) fun z => if z = 0 then (0, 0) else if z = o then (D, w) else (dset D x z, w ||| chv n x)
theorem cst_eq (n D w x m : Nat) : cst n D w x m = if dm D x &&& m = 0 then (0, 0) else if dm D x &&& m = dm D x then (D, w) else (dset D x (dm D x &&& m), w ||| chv n x) := by
  unfold cst; rw [fN_eq, fN_eq]
theorem cut_lt (D x m : Nat) : dm D x &&& m < 1024 := Nat.lt_of_le_of_lt Nat.and_le_left (dm_lt D x)
theorem cut_tb {f : Nat → Nat → Bool} {D x m : Nat} {K : Nat → Bool} (h : AgD f D) (hx : x < 8) (hm : ∀ v, v < 10 → f x v = true → K v = m.testBit v) {v : Nat} (hv : v < 10) : (dm D x &&& m).testBit v = (f x v && K v) := by
  rw [Nat.testBit_and, AgD_dm h hx hv]
  cases e : f x v with
  | false => rfl
  | true => rw [hm v hv e]
theorem cut_0 {f : Nat → Nat → Bool} {D x m : Nat} {K : Nat → Bool} (h : AgD f D) (hx : x < 8) (hm : ∀ v, v < 10 → f x v = true → K v = m.testBit v) : dm D x &&& m = 0 ↔ qany (qnar f x K x) = false := by
  rw [nz10 (cut_lt D x m), qany_f]
  refine forall_congr' fun v => forall_congr' fun hv => ?_
  rw [cut_tb h hx hm hv]
  unfold qnar
  rw [if_pos rfl]
theorem cut_s {f : Nat → Nat → Bool} {D x m : Nat} {K : Nat → Bool} (h : AgD f D) (hx : x < 8) (hm : ∀ v, v < 10 → f x v = true → K v = m.testBit v) : dm D x &&& m = dm D x ↔ qany (fun v => f x v && !K v) = false := by
  rw [eq10 (cut_lt D x m) (dm_lt D x), qany_f]
  refine forall_congr' fun v => forall_congr' fun hv => ?_
  rw [cut_tb h hx hm hv, AgD_dm h hx hv]
  cases f x v <;> cases K v <;> decide
theorem cut_D {f : Nat → Nat → Bool} {D x m : Nat} {K : Nat → Bool} (h : AgD f D) (hx : x < 8) (hm : ∀ v, v < 10 → f x v = true → K v = m.testBit v) : AgD (qnar f x K) (dset D x (dm D x &&& m)) := by
  intro y hy v hv
  rw [dset_tb (cut_lt D x m) hv]
  unfold qnar
  by_cases e : y = x
  · subst e; rw [if_pos rfl, if_pos rfl, cut_tb h hx hm hv]
  · rw [if_neg e, if_neg e, h y hy v hv]
theorem cut_D0 {f : Nat → Nat → Bool} {D x m : Nat} {K : Nat → Bool} (h : AgD f D) (hx : x < 8) (hm : ∀ v, v < 10 → f x v = true → K v = m.testBit v) (hs : dm D x &&& m = dm D x) : AgD (qnar f x K) D := by
  intro y hy v hv
  unfold qnar
  by_cases e : y = x
  · subst e; rw [if_pos rfl, ← cut_tb h hx hm hv, hs, AgD_dm h hx hv, h y hy v hv]
  · rw [if_neg e, h y hy v hv]
theorem dset_nz {D x z : Nat} (hz : z < 1024) (hx : ¬ z = 0) : ¬ dset D x z = 0 := by
  intro q
  apply hx
  rw [nz10 hz]
  intro v hv
  have := dset_tb (D := D) (x := x) (y := x) hz hv
  rw [q, Nat.zero_testBit, if_pos rfl] at this
  exact this.symm
theorem dm_dset {D x z : Nat} (y : Nat) (hz : z < 1024) : dm (dset D x z) y = if y = x then z else dm D y := by
  have hl : (if y = x then z else dm D y) < 1024 := by
    by_cases e : y = x
    · rw [if_pos e]; exact hz
    · rw [if_neg e]; exact dm_lt D y
  rw [eq10 (dm_lt _ _) hl]
  intro v hv
  rw [dm_tb, dset_tb hz hv, decide_eq_true hv, Bool.true_and]
  by_cases e : y = x
  · rw [if_pos e, if_pos e]
  · rw [if_neg e, if_neg e, dm_tb, decide_eq_true hv, Bool.true_and]
theorem NZ_dset {D x z : Nat} (h : NZ D) (hz : z < 1024) (h0 : ¬ z = 0) : NZ (dset D x z) := fun y hy => by
  rw [dm_dset y hz]
  by_cases e : y = x
  · rw [if_pos e]; exact h0
  · rw [if_neg e]; exact h y hy
section
variable {E : qE} {n k : Nat}
/-- one variable of a rule that runs: what is left, and who is woken -/
def RS (E : qE) (n : Nat) (st : qS) (s : Nat × Nat) : Prop := (s.1 = 0 → st.2.1 = true) ∧ (¬ s.1 = 0 → st.2.1 = false ∧ AgD st.1 s.1 ∧ NZ s.1 ∧ ∀ i, i < 24 → s.2.testBit i = (decide (i < n) && wk st.2.2.2 (fun x i => Ev E i x) i))
theorem wk_add (ch : Nat → Bool) (hv : Nat → Nat → Bool) (x : Nat) (hx : x < 8) (c : Bool) (i : Nat) : wk (fun y => ch y || (decide (y = x) && c)) hv i = (wk ch hv i || (c && hv x i)) := by
  rw [Bool.eq_iff_iff, Bool.or_eq_true, wk_iff, wk_iff]
  constructor
  · rintro ⟨y, hy, h1, h2⟩
    rw [Bool.or_eq_true, Bool.and_eq_true, decide_eq_true_eq] at h1
    rcases h1 with h1 | ⟨rfl, h1⟩
    · exact Or.inl ⟨y, hy, h1, h2⟩
    · right; rw [h1, h2]; rfl
  · rintro (⟨y, hy, h1, h2⟩ | h)
    · exact ⟨y, hy, by rw [h1]; rfl, h2⟩
    · rw [Bool.and_eq_true] at h
      exact ⟨x, hx, by rw [h.1, decide_eq_true rfl]; simp, h.2⟩
theorem RS_step (hE : RE E n k) (hN : lawN n k) {st : qS} {D w x m : Nat} {K : Nat → Nat → Bool} (rs : Int32) (h : RS E n st (D, w)) (hD : ¬ D = 0) (hx : x < 8) (hm : ∀ v, v < 10 → st.1 x v = true → K x v = m.testBit v) : RS E n (pstep K rs st x) (cst n D w x m) := by
  obtain ⟨-, h2⟩ := h
  obtain ⟨f0, hA, hZ, hw⟩ := h2 hD
  have e : pstep K rs st x = (qnar st.1 x (K x), !qany (qnar st.1 x (K x) x), st.2.2.1 ++ qent x rs (fun v => st.1 x v && !K x v) 10 0, fun y => st.2.2.2 y || (decide (y = x) && qany (fun v => st.1 x v && !K x v))) := by
    unfold pstep; rw [if_neg (by rw [f0]; decide)]
  rw [e, cst_eq]
  by_cases z : dm D x &&& m = 0
  · rw [if_pos z]
    have := (cut_0 hA hx hm).mp z
    exact ⟨fun _ => by show (!qany _) = true; rw [this]; rfl, fun q => absurd rfl q⟩
  · rw [if_neg z]
    have nz : qany (qnar st.1 x (K x) x) = true := by
      cases q : qany (qnar st.1 x (K x) x) with
      | true => rfl
      | false => exact absurd ((cut_0 hA hx hm).mpr q) z
    by_cases s : dm D x &&& m = dm D x
    · rw [if_pos s]
      refine ⟨fun q => absurd q hD, fun _ => ⟨by show (!qany _) = false; rw [nz]; rfl, cut_D0 hA hx hm s, hZ, fun i hi => ?_⟩⟩
      rw [wk_add _ _ x hx, (cut_s hA hx hm).mp s, Bool.false_and, Bool.or_false]
      exact hw i hi
    · rw [if_neg s]
      refine ⟨fun q => absurd q (dset_nz (cut_lt D x m) z), fun _ => ⟨by show (!qany _) = false; rw [nz]; rfl, cut_D hA hx hm, NZ_dset hZ (cut_lt D x m) z, fun i hi => ?_⟩⟩
      have nc : qany (fun v => st.1 x v && !K x v) = true := by
        cases q : qany (fun v => st.1 x v && !K x v) with
        | true => rfl
        | false => exact absurd ((cut_s hA hx hm).mpr q) s
      show (w ||| chv n x).testBit i = _
      rw [wk_add _ _ x hx, nc, Bool.true_and, Nat.testBit_or, hw i hi, chv_all n hN.2.1 hN.1 x hx i hi]
      by_cases hin : i < n
      · rw [decide_eq_true hin, Bool.true_and, Bool.true_and, Bool.true_and, hE.2.2.2.1 i hin x hx]
      · rw [decide_eq_false hin]; rfl
theorem RS_stop {st : qS} {D w x : Nat} {K : Nat → Nat → Bool} (rs : Int32) (h : RS E n st (D, w)) (hD : D = 0) : pstep K rs st x = st := by
  unfold pstep; rw [if_pos (h.1 hD)]
end
/-- what is left of a rule's variables, one behind another -/
def cfold (n : Nat) : List (Nat × Nat) → Nat → Nat → Nat × Nat
  | [], D, w => (D, w)
  | q :: l, D, w => if D = 0 then (0, 0) else match cst n D w q.1 q.2 with
    | (D1, w1) => fN D1 fun D1 => fN w1 fun w1 => cfold n l D1 w1
theorem RS_fold {E : qE} {n k : Nat} (hE : RE E n k) (hN : lawN n k) (rs : Int32) (K : Nat → Nat → Bool) : ∀ (l : List (Nat × Nat)) (st : qS) (D w : Nat), (l.map Prod.fst).Nodup → RS E n st (D, w) → (∀ q ∈ l, q.1 < 8 ∧ ∀ v, v < 10 → st.1 q.1 v = true → K q.1 v = q.2.testBit v) → RS E n ((l.map Prod.fst).foldl (pstep K rs) st) (cfold n l D w) := by
  intro l
  induction l with
  | nil => intro st D w _ h _; exact h
  | cons q l ih =>
    intro st D w hnd h hl
    rw [List.map_cons] at hnd ⊢
    rw [List.foldl_cons]
    obtain ⟨n1, n2⟩ := List.nodup_cons.mp hnd
    by_cases hD : D = 0
    · have hst : st.2.1 = true := h.1 hD
      rw [RS_stop rs h hD, pstep_stop _ _ _ hst]
      unfold cfold
      rw [if_pos hD]
      exact ⟨fun _ => hst, fun q => absurd rfl q⟩
    · have h1 := RS_step hE hN rs h hD (hl q List.mem_cons_self).1 (hl q List.mem_cons_self).2
      have e0 : st.2.1 = false := (h.2 hD).1
      unfold cfold
      rw [if_neg hD]
      generalize hc : cst n D w q.1 q.2 = c at h1
      obtain ⟨D1, w1⟩ := c
      show RS E n _ (fN D1 fun D1 => fN w1 fun w1 => cfold n l D1 w1)
      rw [fN_eq, fN_eq]
      refine ih _ D1 w1 n2 h1 (fun a ha => ⟨(hl a (List.mem_cons_of_mem _ ha)).1, fun v hv hs => ?_⟩)
      refine (hl a (List.mem_cons_of_mem _ ha)).2 v hv ?_
      have ne : a.1 ≠ q.1 := fun e => n1 (by rw [← e]; exact List.mem_map_of_mem ha)
      have e2 : (pstep K rs st q.1).1 = qnar st.1 q.1 (K q.1) := by
        unfold pstep; rw [if_neg (by rw [e0]; decide)]
      rw [e2] at hs
      unfold qnar at hs
      rw [if_neg ne] at hs
      exact hs
