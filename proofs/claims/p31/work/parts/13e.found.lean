/-! a search without a fault, in numbers -/
def fD (D : Nat) : Nat → Nat → Bool := fun x v => D.testBit (10 * x + v)
theorem qcnt_cg {f g : Nat → Bool} : ∀ m : Nat, (∀ v, v < m → f v = g v) → qcnt f m = qcnt g m := by
  intro m
  induction m with
  | zero => intro _; rfl
  | succ m ih => intro h; unfold qcnt; rw [ih (fun v hv => h v (by omega)), h m (by omega)]
theorem nthb_cg {f g : Nat → Bool} : ∀ (m k n : Nat), (∀ v, v < k + m → f v = g v) → nthb f m k n = nthb g m k n := by
  intro m
  induction m with
  | zero => intro k n _; rfl
  | succ m ih =>
    intro k n h
    unfold nthb
    rw [h k (by omega)]
    split
    · split
      · rfl
      · exact ih (k + 1) (n - 1) (fun v hv => h v (by omega))
    · exact ih (k + 1) n (fun v hv => h v (by omega))
theorem spick_cg {pk : Nat} {f g : Nat → Bool} (h : ∀ v, v < 10 → f v = g v) : spick pk f = spick pk g := by
  unfold spick
  rw [qcnt_cg 10 h, nthb_cg 10 0 _ (fun v hv => h v (by omega))]
theorem sch_cg {w w2 : Nat → Int32} {D D2 : Nat → Nat → Bool} : ∀ (m k : Nat) (b : Option Nat) (bw : Int32), (∀ x, x < k + m → w x = w2 x) → (∀ x, x < k + m → qcnt (D x) 10 = qcnt (D2 x) 10) → sch w D m k b bw = sch w2 D2 m k b bw := by
  intro m
  induction m with
  | zero => intro k b bw _ _; rfl
  | succ m ih =>
    intro k b bw h1 h2
    unfold sch
    rw [h2 k (by omega), h1 k (by omega)]
    split
    · exact ih (k + 1) _ _ (fun x hx => h1 x (by omega)) (fun x hx => h2 x (by omega))
    · split
      · exact ih (k + 1) _ _ (fun x hx => h1 x (by omega)) (fun x hx => h2 x (by omega))
      · exact ih (k + 1) _ _ (fun x hx => h1 x (by omega)) (fun x hx => h2 x (by omega))
/-- how a variable is worth, but for the fourth way of choosing -/
def cwo (ch : Nat) (D : Nat → Nat → Bool) (x : Nat) : Int32 := if ch = 1 then -nI (qcnt (D x) 10) else if ch = 2 then nI (qcnt (D x) 10) else 0
theorem chosen_ok {E : qE} {ch : Nat} (hc : ch < 3) {f : Nat → Nat → Bool} {D : Nat} (h : AgD f D) : schosen ch E f = sch (cwo ch (fD D)) (fD D) 8 0 none 0 := by
  unfold schosen
  have e : ∀ x, x < 8 → qcnt (f x) 10 = qcnt (fD D x) 10 := fun x hx => qcnt_cg 10 (fun v hv => h x hx v hv)
  refine sch_cg 8 0 none 0 (fun x hx => ?_) (fun x hx => e x (by omega))
  unfold swo cwo
  rw [e x (by omega), if_neg (show ¬ ch = 3 by omega)]
theorem sch_lt {w : Nat → Int32} {D : Nat → Nat → Bool} : ∀ (m k : Nat) (b : Option Nat) (bw : Int32) (x : Nat), (∀ y, b = some y → y < k + m) → sch w D m k b bw = some x → x < k + m := by
  intro m
  induction m with
  | zero => intro k b bw x hb h; exact hb x h
  | succ m ih =>
    intro k b bw x hb h
    unfold sch at h
    split at h
    · have := ih (k + 1) b bw x (fun y hy => by have := hb y hy; omega) h; omega
    · split at h
      · have := ih (k + 1) (some k) (w k) x (fun y hy => by cases hy; omega) h; omega
      · have := ih (k + 1) b bw x (fun y hy => by have := hb y hy; omega) h; omega
/-- answer (0 failed, or all told; 1 found; 2 too dear; 9 another way than this one), tries, solutions, the picture -/
def csr (n k ch pk mo : Nat) (al : Bool) : Nat → Nat → Nat → Nat → Nat × Nat × Nat × Nat
  | 0, _, _, _ => (9, 0, 0, 0)
  | m + 1, D, Q, tr => match citer n k 2024 D Q with
    | (D1, Q1) => fN D1 fun D1 => fN Q1 fun Q1 => if D1 = 0 then (0, tr, 0, 0) else match sch (cwo ch (fD D1)) (fD D1) 8 0 none 0 with
      | none => (if al = true then 0 else 1, tr, 1, D1)
      | some x => if tr = mo then (2, tr, 0, D1) else fN (spick pk (fD D1 x)) fun v => match cst n D1 Q1 x (2 ^ v) with
        | (D2, Q2) => fN D2 fun D2 => fN Q2 fun Q2 => match csr n k ch pk mo al m D2 Q2 (tr + 1) with
          | (c, t, f, D3) => if c = 0 then (9, 0, 0, 0) else (c, t, f, D3)
/-- what a search came to -/
def SR (r : Nat × Bool × sQ) (fo : Nat) (c : Nat × Nat × Nat × Nat) : Prop := ¬ c.1 = 9 → r.1 = c.1 ∧ r.2.2.2.2.1.1 = c.2.1 ∧ r.2.2.2.2.1.2.2 = fo + c.2.2.1 ∧ (c.1 = 1 → ∀ x, x < 8 → r.2.2.2.2.2 x = nthb (fD c.2.2.2 x) 10 0 0)
theorem sbit_tb {v : Nat} (hv : v < 10) : ∀ i, i < 10 → bt (sbit v) i = (2 ^ v).testBit i := by
  intro i hi
  unfold sbit
  rw [bt_shl1 (by omega), Nat.testBit_two_pow]
  apply decide_eq_decide.mpr
  exact eq_comm
theorem nthb_lt2 (D : Nat → Bool) : ∀ (m k j : Nat), 0 < k + m → nthb D m k j < k + m := by
  intro m
  induction m with
  | zero => intro k j h; exact h
  | succ m ih =>
    intro k j h
    unfold nthb
    split
    · split
      · omega
      · have := ih (k + 1) (j - 1) (by omega); omega
    · have := ih (k + 1) j (by omega); omega
theorem spick_lt2 (pk : Nat) (D : Nat → Bool) : spick pk D < 10 := by
  unfold spick
  have := nthb_lt2 D 10 0 (if pk = 1 then qcnt D 10 - 1 else if pk = 2 then qcnt D 10 / 2 else 0) (by omega)
  omega
theorem sr_ok {E : qE} {n k : Nat} (hE : RE E n k) (hN : lawN n k) (c : sC) (hc : cch c < 3) : ∀ (m : Nat) (pth : List (Nat × Nat)) (P : qP) (D Q tr fa fo : Nat) (sol : Nat → Nat), RP n P (D, Q) → SR (sRec c m pth (E, P, (tr, fa, fo), sol)) fo (csr n k (cch c) (cpk c) (cmo c) (cal c) m D Q tr) := by
  intro m
  induction m with
  | zero => intro pth P D Q tr fa fo sol _ q; exact absurd rfl q
  | succ m ih =>
    intro pth P D Q tr fa fo sol h
    have h1 := iter_ok hE hN 2024 P D Q h
    have e0 : sRec c (m + 1) pth (E, P, (tr, fa, fo), sol) = sLoop c (sRec c m) pth (399 + 1) (decide (0 < pth.length)) (E, P, (tr, fa, fo), sol) := rfl
    rw [e0]
    unfold sLoop csr
    dsimp only
    generalize qiter E 2024 P = P1 at h1 ⊢
    generalize citer n k 2024 D Q = q1 at h1
    obtain ⟨D1, Q1⟩ := q1
    dsimp only
    rw [fN_eq, fN_eq]
    by_cases hD : D1 = 0
    · rw [if_pos (h1.1 hD).1, if_pos hD]
      exact fun _ => ⟨rfl, rfl, rfl, fun q => by cases q⟩
    · obtain ⟨f0, hA, hZ⟩ := h1.2.1 hD
      rw [if_neg (by rw [f0]; decide), if_neg hD, chosen_ok hc hA]
      cases hs : sch (cwo (cch c) (fD D1)) (fD D1) 8 0 none 0 with
      | none =>
        dsimp only
        refine fun _ => ⟨?_, rfl, rfl, fun _ x hx => ?_⟩
        · rfl
        · exact nthb_cg 10 0 0 (fun v hv => hA x hx v (by omega))
      | some x =>
        have hx : x < 8 := by
          have := sch_lt 8 0 none 0 x (fun y hy => by cases hy) hs
          omega
        dsimp only
        by_cases ht : tr = cmo c
        · rw [if_pos ht, if_pos ht]
          exact fun _ => ⟨rfl, rfl, rfl, fun q => by cases q⟩
        · rw [if_neg ht, if_neg ht, fN_eq, spick_cg (pk := cpk c) (f := P1.1 x) (g := fD D1 x) (fun v hv => hA x hx v hv)]
          have hv := spick_lt2 (cpk c) (fD D1 x)
          generalize spick (cpk c) (fD D1 x) = v at hv ⊢
          have h2 : RP n (stry E x v P1) (cst n D1 Q1 x (2 ^ v)) := nw_ok hE hN h1 hD hx (sbit_tb hv)
          generalize cst n D1 Q1 x (2 ^ v) = q2 at h2
          obtain ⟨D2, Q2⟩ := q2
          dsimp only
          rw [fN_eq, fN_eq]
          have h3 := ih (pth ++ [(x, v)]) _ D2 Q2 (tr + 1) fa fo sol h2
          generalize csr n k (cch c) (cpk c) (cmo c) (cal c) m D2 Q2 (tr + 1) = q3 at h3 ⊢
          obtain ⟨c3, t3, f3, D3⟩ := q3
          dsimp only
          by_cases hc0 : c3 = 0
          · rw [if_pos hc0]; exact fun q => absurd rfl q
          · rw [if_neg hc0]
            intro q9
            obtain ⟨a1, a2, a3, a4⟩ := h3 q9
            rw [if_neg (by rw [a1]; exact hc0)]
            exact ⟨a1, a2, a3, a4⟩
