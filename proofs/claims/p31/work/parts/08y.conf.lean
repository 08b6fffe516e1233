theorem slt_inj {vs : Nat → Bool} {i j : Nat} (hi : i < 3) (hj : j < 3) (h8 : slt vs i ≠ 8) (e : slt vs i = slt vs j) : i = j := by
  have hn := vls_nodup vs
  unfold slt at e h8
  by_cases h1 : i + (vls vs).length < 3
  · rw [if_pos h1] at h8; exact absurd rfl h8
  · rw [if_neg h1] at e h8
    rw [List.getD_eq_getElem?_getD] at e h8
    cases hq : (vls vs)[i + (vls vs).length - 3]? with
    | none => rw [hq] at h8; exact absurd rfl h8
    | some u =>
      have hu := (mem_vls vs u).mp (List.mem_of_getElem? hq)
      rw [hq] at e
      by_cases h2 : j + (vls vs).length < 3
      · rw [if_pos h2] at e; simp at e; omega
      · rw [if_neg h2, List.getD_eq_getElem?_getD] at e
        cases hq2 : (vls vs)[j + (vls vs).length - 3]? with
        | none => rw [hq2] at e; simp at e; omega
        | some w =>
          rw [hq2] at e
          have e2 : u = w := by simpa using e
          subst e2
          obtain ⟨l1, e3⟩ := List.getElem?_eq_some_iff.mp hq
          obtain ⟨l2, e4⟩ := List.getElem?_eq_some_iff.mp hq2
          have := (List.getElem_inj hn).mp (e3.trans e4.symm)
          omega
def qsub (D D2 : Nat → Nat → Bool) : Prop := ∀ u, u < 8 → ∀ v, v < 10 → D u v = true → D2 u v = true
/-- what a fold leaves -/
theorem fold_D {K : Nat → Nat → Bool} {rs : Int32} : ∀ (l : List Nat), l.Nodup → ∀ st : qS, st.2.1 = false →
    (∀ u, u ∉ l → (l.foldl (pstep K rs) st).1 u = st.1 u) ∧ ((l.foldl (pstep K rs) st).2.1 = false → ∀ u, u ∈ l → ∀ v, (l.foldl (pstep K rs) st).1 u v = (st.1 u v && K u v)) ∧ (∀ u v, (l.foldl (pstep K rs) st).1 u v = true → st.1 u v = true) ∧ (∀ u, ((l.foldl (pstep K rs) st).2.2.2 u = false) → st.2.2.2 u = false ∧ ∀ v, v < 10 → (l.foldl (pstep K rs) st).1 u v = st.1 u v) := by
  intro l
  induction l with
  | nil => intro _ st hf; exact ⟨fun _ _ => rfl, fun _ u hu => (by cases hu), fun _ _ h => h, fun u h => ⟨h, fun _ _ => rfl⟩⟩
  | cons a l ih =>
    intro hn st hf
    have hn2 := List.nodup_cons.mp hn
    rw [List.foldl_cons]
    have e0 : pstep K rs st a = (qnar st.1 a (K a), !qany (qnar st.1 a (K a) a), st.2.2.1 ++ qent a rs (fun v => st.1 a v && !K a v) 10 0, fun y => st.2.2.2 y || (decide (y = a) && qany (fun v => st.1 a v && !K a v))) := by
      unfold pstep; rw [hf, if_neg (by simp)]
    have hnar : ∀ u, u ≠ a → (pstep K rs st a).1 u = st.1 u := fun u hu => by
      rw [e0]; funext v; show qnar st.1 a (K a) u v = _; unfold qnar; rw [if_neg hu]
    have hara : ∀ v, (pstep K rs st a).1 a v = (st.1 a v && K a v) := fun v => by
      rw [e0]; show qnar st.1 a (K a) a v = _; unfold qnar; rw [if_pos rfl]
    have hsubs : ∀ u v, (pstep K rs st a).1 u v = true → st.1 u v = true := fun u v h => by
      by_cases e : u = a
      · subst e; rw [hara] at h; simp at h; exact h.1
      · rw [hnar u e] at h; exact h
    have hch : ∀ u, (pstep K rs st a).2.2.2 u = false → st.2.2.2 u = false ∧ ∀ v, v < 10 → (pstep K rs st a).1 u v = st.1 u v := fun u h => by
      have h1 : (st.2.2.2 u || (decide (u = a) && qany (fun v => st.1 a v && !K a v))) = false := by rw [e0] at h; exact h
      simp only [Bool.or_eq_false_iff] at h1
      refine ⟨h1.1, fun v hv => ?_⟩
      by_cases e : u = a
      · subst e
        rw [hara]
        have h2 : qany (fun v => st.1 u v && !K u v) = false := by simpa using h1.2
        have h3 := (qany_f _).mp h2 v hv
        revert h3; cases st.1 u v <;> cases K u v <;> simp
      · rw [hnar u e]
    cases hf2 : (pstep K rs st a).2.1 with
    | true =>
      rw [pstep_stop _ _ _ hf2]
      refine ⟨fun u hu => hnar u (fun e => hu (by rw [e]; exact List.mem_cons_self)), fun h => (by rw [hf2] at h; cases h), hsubs, hch⟩
    | false =>
      obtain ⟨i1, i2, i3, i4⟩ := ih hn2.2 _ hf2
      refine ⟨fun u hu => ?_, fun h u hu v => ?_, fun u v h => hsubs u v (i3 u v h), fun u h => ?_⟩
      · rw [i1 u (fun z => hu (List.mem_cons_of_mem _ z)), hnar u (fun e => hu (by rw [e]; exact List.mem_cons_self))]
      · by_cases e : u = a
        · subst e; rw [i1 u hn2.1, hara]
        · rcases List.mem_cons.mp hu with q | q
          · exact absurd q e
          · rw [i2 h u q v, hnar u e]
      · obtain ⟨j1, j2⟩ := i4 u h
        obtain ⟨k1, k2⟩ := hch u j1
        exact ⟨k1, fun v hv => (j2 v hv).trans (k2 v hv)⟩
/-- the ordered run along the way -/
theorem iter_ind {E : qE} (C : qP → Prop) (hC : ∀ P r, PI E P → PT P → r < 24 → P.2.1 r = true → C P → C (qone E r P)) : ∀ (k : Nat) (P : qP), PI E P → PT P → C P → C (qiter E k P) := by
  intro k
  induction k with
  | zero => intro P _ _ h; exact h
  | succ k ih =>
    intro P hI hT h
    rw [qiter]
    cases hq : qnx (Er E) P.2.1 24 with
    | none => exact h
    | some r =>
      obtain ⟨h1, h2⟩ := qnx_lt hq
      exact ih _ (qone_PI hI hT h1 h2) (qone_PT hI hT h1 h2) (hC P r hI hT h1 h2 h)
