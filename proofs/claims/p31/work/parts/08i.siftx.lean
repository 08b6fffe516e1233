def vls (vs : Nat → Bool) : List Nat := (List.range 8).filter vs
def one8 : Nat → Bool := fun i => decide (i = 0)
/-- the j-th slot of a rule: its variables stand behind the empty ones -/
def slt (vs : Nat → Bool) (j : Nat) : Nat := if j + (vls vs).length < 3 then 8 else (vls vs).getD (j + (vls vs).length - 3) 8
/-- the domain at a slot -/
def dsl (D : Nat → Nat → Bool) (s : Nat) : Nat → Bool := if s = 8 then one8 else D s
/-- the ways by slots, of a table by variables -/
def Wof (c : Nat) (T : Nat → Nat → Nat → Bool) (x y z : Nat) : Bool :=
  if c = 3 then T x y z else if c = 2 then decide (x = 0) && T y z 0 else if c = 1 then decide (x = 0) && decide (y = 0) && T z 0 0 else decide (x = 0) && decide (y = 0) && decide (z = 0) && T 0 0 0
def kpS (vs : Nat → Bool) (T : Nat → Nat → Nat → Bool) (D : Nat → Nat → Bool) (u : Nat) : Nat → Bool :=
  if u = slt vs 2 then sA2 (dsl D (slt vs 0)) (dsl D (slt vs 1)) (dsl D (slt vs 2)) (Wof (vls vs).length T)
  else if u = slt vs 1 then sA1 (dsl D (slt vs 0)) (dsl D (slt vs 1)) (dsl D (slt vs 2)) (Wof (vls vs).length T)
  else sA0 (dsl D (slt vs 0)) (dsl D (slt vs 1)) (dsl D (slt vs 2)) (Wof (vls vs).length T)
theorem mem_vls (vs : Nat → Bool) (u : Nat) : u ∈ vls vs ↔ u < 8 ∧ vs u = true := by unfold vls; simp
theorem slt_le (vs : Nat → Bool) (j : Nat) : slt vs j < 9 := by
  unfold slt
  split
  · omega
  · rw [List.getD_eq_getElem?_getD]
    cases h : (vls vs)[j + (vls vs).length - 3]? with
    | none => simp
    | some u => have := (mem_vls vs u).mp (List.mem_of_getElem? h); simp; omega
theorem slt_of {vs : Nat → Bool} (hc : (vls vs).length ≤ 3) {u : Nat} (hu : u < 8) (hv : vs u = true) : u = slt vs 0 ∨ u = slt vs 1 ∨ u = slt vs 2 := by
  have hm := (mem_vls vs u).mpr ⟨hu, hv⟩
  unfold slt
  generalize vls vs = l at hm hc
  match l, hc with
  | [], _ => cases hm
  | [a], _ => simp at hm; simp [hm]
  | [a, b], _ => simp at hm; rcases hm with rfl | rfl <;> simp
  | [a, b, c], _ => simp at hm; rcases hm with rfl | rfl | rfl <;> simp
/-- the component's rule r is: variables vs, table T -/
def XRr (h : gH) (r : Nat) (vs : Nat → Bool) (T : Nat → Nat → Nat → Bool) : Prop :=
  h 3 r = mkn 8 vs ∧ (vls vs).length ≤ 3 ∧ (∀ j, j < 3 → h 6 (3 * r + j) = nI (slt vs j)) ∧ ∀ x, x < 10 → ∀ y, y < 10 → h 7 (100 * r + 10 * x + y) = mkn 10 (Wof (vls vs).length T x y)
theorem dsl_at {h : gH} {o : Nat} {D : Nat → Nat → Bool} (hD : ∀ x, x < 8 → h (o + 1) x = mkn 10 (D x)) (h8 : h (o + 1) 8 = 1) {s : Nat} (hs : s < 9) : h (o + 1) s = mkn 10 (dsl D s) := by
  unfold dsl
  by_cases e : s = 8
  · subst e; rw [if_pos rfl, h8]
    decide +kernel
  · rw [if_neg e]; exact hD s (by omega)
theorem sift_sp {o : Nat} (ho : gHall o) {r : Nat} (hr : r < 16) {vs : Nat → Bool} {T : Nat → Nat → Nat → Bool} {D : Nat → Nat → Bool} {h : gH} (hR : XRr h r vs T) (hD : ∀ x, x < 8 → h (o + 1) x = mkn 10 (D x)) (h8 : h (o + 1) 8 = 1) :
    Sp (fR_sift o (nI r) h) (fun h' => (∀ u, u < 8 → vs u = true → h' (o + 2) u = mkn 10 (kpS vs T D u)) ∧ ∀ b, b ≠ o + 2 → h' b = h b) := by
  obtain ⟨-, hc, hsl, hW⟩ := hR
  have ho6 : o + 2 ≠ 6 := by rcases ho with rfl | rfl | rfl | rfl <;> omega
  have s0 := hsl 0 (by omega)
  have s1 := hsl 1 (by omega)
  have s2 := hsl 2 (by omega)
  rw [Nat.add_zero] at s0
  have l0 := slt_le vs 0
  have l1 := slt_le vs 1
  have l2 := slt_le vs 2
  unfold fR_sift
  rw [nmul_l, show r * 3 = 3 * r by omega, nadd_l, nadd_l]
  refine Sp_gg (gin_t (by omega) (by omega)) ?_
  rw [clampn (by omega), s0]
  refine Sp_gg (gin_t (by omega) (by omega)) (Sp_gg (gin_t (by omega) (by omega)) ?_)
  rw [clampn (by omega), s1]
  refine Sp_gg (gin_t (by omega) (by omega)) (Sp_gg (gin_t (by omega) (by omega)) ?_)
  rw [clampn (by omega), s2]
  refine Sp_gg (gin_t (by omega) (by omega)) ?_
  rw [clampn (by omega), clampn (by omega), clampn (by omega), dsl_at hD h8 l0, dsl_at hD h8 l1, dsl_at hD h8 l2]
  have z0 : (0 : Int32) = mkn 10 (fun _ => false) := mkn_0 10 (by omega)
  have key : Sp (fR_sift_54 o (nI r) (nI (3 * r)) (mkn 10 (dsl D (slt vs 0))) (mkn 10 (dsl D (slt vs 1))) (mkn 10 (dsl D (slt vs 2))) gfu (mkn 10 (fun _ => false)) (mkn 10 (fun _ => false)) (mkn 10 (fun _ => false)) (nI 0) h) (fun h' => (∀ u, u < 8 → vs u = true → h' (o + 2) u = mkn 10 (kpS vs T D u)) ∧ ∀ b, b ≠ o + 2 → h' b = h b) := by
    refine sift54 hr hW ?_ 10 0 gfu _ _ _ (by omega) (by unfold gfu; omega) ?_ ?_ ?_
    · intro fu hfu
      obtain ⟨fu, rfl⟩ : ∃ f, fu = f + 1 := ⟨fu - 1, by omega⟩
      unfold fR_sift_54
      refine Sp_neg (by decide) (Sp_gg (gin_t (by omega) (by omega)) ?_)
      rw [clampn (by omega), s0]
      refine Sp_gg (gin_t (by omega) (by omega)) ?_
      rw [clampn (by omega), nadd_l, nadd_l]
      refine Sp_let (Sp_gg (gin_t (by omega) (by omega)) ?_)
      rw [clampn (by omega), hu_o _ _ _ _ _ ho6.symm, s1]
      refine Sp_gg (gin_t (by omega) (by omega)) ?_
      rw [clampn (by omega)]
      refine Sp_let (Sp_gg (gin_t (by omega) (by omega)) ?_)
      rw [clampn (by omega), hu_o _ _ _ _ _ ho6.symm, hu_o _ _ _ _ _ ho6.symm, s2]
      refine Sp_gg (gin_t (by omega) (by omega)) ?_
      rw [clampn (by omega)]
      refine Sp_some ⟨fun u hu hv => ?_, fun b hb => ?_⟩
      · unfold kpS
        by_cases e2 : u = slt vs 2
        · rw [if_pos e2, e2, hu_same]
        · rw [if_neg e2, hu_k _ _ _ _ e2]
          by_cases e1 : u = slt vs 1
          · rw [if_pos e1, e1, hu_same]
          · rw [if_neg e1, hu_k _ _ _ _ e1]
            rcases slt_of hc hu hv with e | e | e
            · rw [e, hu_same]
            · exact absurd e e1
            · exact absurd e e2
      · rw [hu_ne hb, hu_ne hb, hu_ne hb]
    · intro i _; simp
    · intro i _; simp [sA1]
    · intro i _; simp [sA2]
  rw [← z0] at key
  exact key

