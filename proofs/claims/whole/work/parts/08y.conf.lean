/-! another order comes to the same -/
theorem sA0_iff (e0 e1 e2 : Nat → Bool) (W : Nat → Nat → Nat → Bool) (x : Nat) : sA0 e0 e1 e2 W x = true ↔ e0 x = true ∧ ∃ y, y < 10 ∧ e1 y = true ∧ ∃ z, z < 10 ∧ W x y z = true ∧ e2 z = true := by
  unfold sA0 swz
  simp only [Bool.and_eq_true, qany_iff]
theorem sA1_iff (e0 e1 e2 : Nat → Bool) (W : Nat → Nat → Nat → Bool) (y : Nat) : sA1 e0 e1 e2 W y = true ↔ e1 y = true ∧ ∃ x, x < 10 ∧ e0 x = true ∧ ∃ z, z < 10 ∧ W x y z = true ∧ e2 z = true := by
  unfold sA1 swz
  simp only [Bool.and_eq_true, qany_iff]
theorem sA2_iff (e0 e1 e2 : Nat → Bool) (W : Nat → Nat → Nat → Bool) (z : Nat) : sA2 e0 e1 e2 W z = true ↔ e2 z = true ∧ ∃ x, x < 10 ∧ e0 x = true ∧ ∃ y, y < 10 ∧ e1 y = true ∧ W x y z = true := by
  unfold sA2
  simp only [Bool.and_eq_true, qany_iff]
def cmp3 (j x y z : Nat) : Nat := if j = 2 then z else if j = 1 then y else x
/-- the slot of a variable -/
def sji (vs : Nat → Bool) (u : Nat) : Nat := if u = slt vs 2 then 2 else if u = slt vs 1 then 1 else 0
theorem kpS_iff (vs : Nat → Bool) (T : Nat → Nat → Nat → Bool) (D : Nat → Nat → Bool) (u : Nat) {v : Nat} (hv : v < 10) : kpS vs T D u v = true ↔ ∃ x y z, x < 10 ∧ y < 10 ∧ z < 10 ∧ dsl D (slt vs 0) x = true ∧ dsl D (slt vs 1) y = true ∧ dsl D (slt vs 2) z = true ∧ Wof (vls vs).length T x y z = true ∧ cmp3 (sji vs u) x y z = v := by
  unfold kpS sji cmp3
  by_cases h2 : u = slt vs 2
  · rw [if_pos h2, if_pos h2, sA2_iff]
    simp only [if_true]
    constructor
    · rintro ⟨a, x, hx, b, y, hy, c, d⟩; exact ⟨x, y, v, hx, hy, hv, b, c, a, d, rfl⟩
    · rintro ⟨x, y, z, hx, hy, hz, a, b, c, d, rfl⟩; exact ⟨c, x, hx, a, y, hy, b, d⟩
  · rw [if_neg h2, if_neg h2]
    by_cases h1 : u = slt vs 1
    · rw [if_pos h1, if_pos h1, sA1_iff]
      simp only [show (1 = 2) = False by simp, if_false, if_true]
      constructor
      · rintro ⟨a, x, hx, b, z, hz, c, d⟩; exact ⟨x, v, z, hx, hv, hz, b, a, d, c, rfl⟩
      · rintro ⟨x, y, z, hx, hy, hz, a, b, c, d, rfl⟩; exact ⟨b, x, hx, a, z, hz, d, c⟩
    · rw [if_neg h1, if_neg h1, sA0_iff]
      simp only [show (0 = 2) = False by simp, show (0 = 1) = False by simp, if_false]
      constructor
      · rintro ⟨a, y, hy, b, z, hz, c, d⟩; exact ⟨v, y, z, hv, hy, hz, a, b, d, c, rfl⟩
      · rintro ⟨x, y, z, hx, hy, hz, a, b, c, d, rfl⟩; exact ⟨a, y, hy, b, z, hz, d, c⟩
theorem slt_real {vs : Nat → Bool} {j : Nat} (h : slt vs j ≠ 8) : vs (slt vs j) = true ∧ slt vs j < 8 := by
  unfold slt at h ⊢
  by_cases hj : j + (vls vs).length < 3
  · rw [if_pos hj] at h; exact absurd rfl h
  · rw [if_neg hj] at h ⊢
    rw [List.getD_eq_getElem?_getD] at h ⊢
    cases hq : (vls vs)[j + (vls vs).length - 3]? with
    | none => rw [hq] at h; exact absurd rfl h
    | some u => have := (mem_vls vs u).mp (List.mem_of_getElem? hq); exact ⟨this.2, this.1⟩
theorem slt_inj {vs : Nat → Bool} {i j : Nat} (hi : i < 3) (hj : j < 3) (h8 : slt vs i ≠ 8) (e : slt vs i = slt vs j) : i = j := by
  have hn := vls_nodup vs
  unfold slt at e h8
  by_cases h1 : i + (vls vs).length < 3
  · rw [if_pos h1] at h8; exact absurd rfl h8
  · rw [if_neg h1] at e h8
    rw [List.getD_eq_getElem?_getD] at e h8
    cases hq : (vls vs)[i + (vls vs).length - 3]? with
    | none => rw [hq] at h8; exact absurd rfl h8
    | some u =>
      have hu := (mem_vls vs u).mp (List.mem_of_getElem? hq)
      rw [hq] at e
      by_cases h2 : j + (vls vs).length < 3
      · rw [if_pos h2] at e; simp at e; omega
      · rw [if_neg h2, List.getD_eq_getElem?_getD] at e
        cases hq2 : (vls vs)[j + (vls vs).length - 3]? with
        | none => rw [hq2] at e; simp at e; omega
        | some w =>
          rw [hq2] at e
          have e2 : u = w := by simpa using e
          subst e2
          obtain ⟨l1, e3⟩ := List.getElem?_eq_some_iff.mp hq
          obtain ⟨l2, e4⟩ := List.getElem?_eq_some_iff.mp hq2
          have := (List.getElem_inj hn).mp (e3.trans e4.symm)
          omega
theorem sji_slt {vs : Nat → Bool} {j : Nat} (hj : j < 3) (h8 : slt vs j ≠ 8) : sji vs (slt vs j) = j := by
  unfold sji
  by_cases h2 : slt vs j = slt vs 2
  · rw [if_pos h2]; exact (slt_inj hj (by omega) h8 h2).symm
  · rw [if_neg h2]
    by_cases h1 : slt vs j = slt vs 1
    · rw [if_pos h1]; exact (slt_inj hj (by omega) h8 h1).symm
    · rw [if_neg h1]
      match j, hj with
      | 0, _ => rfl
      | 1, _ => exact absurd rfl h1
      | 2, _ => exact absurd rfl h2
def qsub (D D2 : Nat → Nat → Bool) : Prop := ∀ u, u < 8 → ∀ v, v < 10 → D u v = true → D2 u v = true
theorem dsl_mono {vs : Nat → Bool} {D D2 : Nat → Nat → Bool} {j x : Nat} (hx : x < 10) (h : ∀ u, u < 8 → vs u = true → ∀ v, v < 10 → D u v = true → D2 u v = true) (hd : dsl D (slt vs j) x = true) : dsl D2 (slt vs j) x = true := by
  unfold dsl at hd ⊢
  by_cases h8 : slt vs j = 8
  · rw [if_pos h8] at hd ⊢; exact hd
  · rw [if_neg h8] at hd ⊢
    have := slt_real h8
    exact h _ this.2 this.1 x hx hd
theorem kpS_mono {vs : Nat → Bool} {T : Nat → Nat → Nat → Bool} {D D2 : Nat → Nat → Bool} (h : ∀ u, u < 8 → vs u = true → ∀ v, v < 10 → D u v = true → D2 u v = true) {u v : Nat} (hv : v < 10) (hk : kpS vs T D u v = true) : kpS vs T D2 u v = true := by
  rw [kpS_iff vs T _ u hv] at hk ⊢
  obtain ⟨x, y, z, hx, hy, hz, a, b, c, d, e⟩ := hk
  exact ⟨x, y, z, hx, hy, hz, dsl_mono hx h a, dsl_mono hy h b, dsl_mono hz h c, d, e⟩
/-- what is left supports itself -/
theorem kpS_idem {vs : Nat → Bool} {T : Nat → Nat → Nat → Bool} {D D2 : Nat → Nat → Bool} (h : ∀ u, u < 8 → vs u = true → ∀ v, v < 10 → D u v = true → kpS vs T D u v = true → D2 u v = true) {u v : Nat} (hv : v < 10) (hk : kpS vs T D u v = true) : kpS vs T D2 u v = true := by
  have hk0 := hk
  rw [kpS_iff vs T _ u hv] at hk ⊢
  obtain ⟨x, y, z, hx, hy, hz, a, b, c, d, e⟩ := hk
  have up : ∀ j w, j < 3 → w < 10 → cmp3 j x y z = w → dsl D (slt vs j) w = true → dsl D2 (slt vs j) w = true := by
    intro j w hj hw hcw hd
    unfold dsl at hd ⊢
    by_cases h8 : slt vs j = 8
    · rw [if_pos h8] at hd ⊢; exact hd
    · rw [if_neg h8] at hd ⊢
      have hr := slt_real h8
      refine h _ hr.2 hr.1 w hw hd ?_
      rw [kpS_iff vs T _ _ hw]
      exact ⟨x, y, z, hx, hy, hz, a, b, c, d, by rw [sji_slt hj h8]; exact hcw⟩
  exact ⟨x, y, z, hx, hy, hz, up 0 x (by omega) hx rfl a, up 1 y (by omega) hy rfl b, up 2 z (by omega) hz rfl c, d, e⟩
/-- rule r has nothing to take -/
def stb (E : qE) (r : Nat) (D : Nat → Nat → Bool) : Prop := ∀ u, u < 8 → Ev E r u = true → ∀ v, v < 10 → D u v = true → Kp E r D u v = true
/-- what a fold leaves -/
theorem fold_D {K : Nat → Nat → Bool} {rs : Int32} : ∀ (l : List Nat), l.Nodup → ∀ st : qS, st.2.1 = false →
    (∀ u, u ∉ l → (l.foldl (pstep K rs) st).1 u = st.1 u) ∧ ((l.foldl (pstep K rs) st).2.1 = false → ∀ u, u ∈ l → ∀ v, (l.foldl (pstep K rs) st).1 u v = (st.1 u v && K u v)) ∧ (∀ u v, (l.foldl (pstep K rs) st).1 u v = true → st.1 u v = true) ∧ (∀ u, ((l.foldl (pstep K rs) st).2.2.2 u = false) → st.2.2.2 u = false ∧ ∀ v, v < 10 → (l.foldl (pstep K rs) st).1 u v = st.1 u v) := by
  intro l
  induction l with
  | nil => intro _ st hf; exact ⟨fun _ _ => rfl, fun _ u hu => (by cases hu), fun _ _ h => h, fun u h => ⟨h, fun _ _ => rfl⟩⟩
  | cons a l ih =>
    intro hn st hf
    have hn2 := List.nodup_cons.mp hn
    rw [List.foldl_cons]
    have e0 : pstep K rs st a = (qnar st.1 a (K a), !qany (qnar st.1 a (K a) a), st.2.2.1 ++ qent a rs (fun v => st.1 a v && !K a v) 10 0, fun y => st.2.2.2 y || (decide (y = a) && qany (fun v => st.1 a v && !K a v))) := by
      unfold pstep; rw [hf, if_neg (by simp)]
    have hnar : ∀ u, u ≠ a → (pstep K rs st a).1 u = st.1 u := fun u hu => by
      rw [e0]; funext v; show qnar st.1 a (K a) u v = _; unfold qnar; rw [if_neg hu]
    have hara : ∀ v, (pstep K rs st a).1 a v = (st.1 a v && K a v) := fun v => by
      rw [e0]; show qnar st.1 a (K a) a v = _; unfold qnar; rw [if_pos rfl]
    have hsubs : ∀ u v, (pstep K rs st a).1 u v = true → st.1 u v = true := fun u v h => by
      by_cases e : u = a
      · subst e; rw [hara] at h; simp at h; exact h.1
      · rw [hnar u e] at h; exact h
    have hch : ∀ u, (pstep K rs st a).2.2.2 u = false → st.2.2.2 u = false ∧ ∀ v, v < 10 → (pstep K rs st a).1 u v = st.1 u v := fun u h => by
      have h1 : (st.2.2.2 u || (decide (u = a) && qany (fun v => st.1 a v && !K a v))) = false := by rw [e0] at h; exact h
      simp only [Bool.or_eq_false_iff] at h1
      refine ⟨h1.1, fun v hv => ?_⟩
      by_cases e : u = a
      · subst e
        rw [hara]
        have h2 : qany (fun v => st.1 u v && !K u v) = false := by simpa using h1.2
        have h3 := (qany_f _).mp h2 v hv
        revert h3; cases st.1 u v <;> cases K u v <;> simp
      · rw [hnar u e]
    cases hf2 : (pstep K rs st a).2.1 with
    | true =>
      rw [pstep_stop _ _ _ hf2]
      refine ⟨fun u hu => hnar u (fun e => hu (by rw [e]; exact List.mem_cons_self)), fun h => (by rw [hf2] at h; cases h), hsubs, hch⟩
    | false =>
      obtain ⟨i1, i2, i3, i4⟩ := ih hn2.2 _ hf2
      refine ⟨fun u hu => ?_, fun h u hu v => ?_, fun u v h => hsubs u v (i3 u v h), fun u h => ?_⟩
      · rw [i1 u (fun z => hu (List.mem_cons_of_mem _ z)), hnar u (fun e => hu (by rw [e]; exact List.mem_cons_self))]
      · by_cases e : u = a
        · subst e; rw [i1 u hn2.1, hara]
        · rcases List.mem_cons.mp hu with q | q
          · exact absurd q e
          · rw [i2 h u q v, hnar u e]
      · obtain ⟨j1, j2⟩ := i4 u h
        obtain ⟨k1, k2⟩ := hch u j1
        exact ⟨k1, fun v hv => (j2 v hv).trans (k2 v hv)⟩
/-- a set of domains that all rules leave alone stays below -/
theorem fold_star {K Ds : Nat → Nat → Bool} {rs : Int32} (hne : ∀ x, x < 8 → qany (Ds x) = true) : ∀ (l : List Nat), (∀ u ∈ l, u < 8) → ∀ st : qS, st.2.1 = false → qsub Ds st.1 → (∀ u ∈ l, ∀ v, v < 10 → Ds u v = true → K u v = true) → (l.foldl (pstep K rs) st).2.1 = false ∧ qsub Ds (l.foldl (pstep K rs) st).1 := by
  intro l
  induction l with
  | nil => intro _ st hf hs _; exact ⟨hf, hs⟩
  | cons a l ih =>
    intro hl st hf hs hK
    rw [List.foldl_cons]
    have ha := hl a List.mem_cons_self
    have e0 : pstep K rs st a = (qnar st.1 a (K a), !qany (qnar st.1 a (K a) a), st.2.2.1 ++ qent a rs (fun v => st.1 a v && !K a v) 10 0, fun y => st.2.2.2 y || (decide (y = a) && qany (fun v => st.1 a v && !K a v))) := by
      unfold pstep; rw [hf, if_neg (by simp)]
    have hs2 : qsub Ds (pstep K rs st a).1 := fun u hu v hv h => by
      rw [e0]; show qnar st.1 a (K a) u v = true
      unfold qnar
      by_cases e : u = a
      · subst e; rw [if_pos rfl, hs u hu v hv h, hK u List.mem_cons_self v hv h]; rfl
      · rw [if_neg e]; exact hs u hu v hv h
    refine ih (fun u hu => hl u (List.mem_cons_of_mem _ hu)) _ ?_ hs2 (fun u hu => hK u (List.mem_cons_of_mem _ hu))
    obtain ⟨v, hv, h⟩ := (qany_iff _).mp (hne a ha)
    have : qany (qnar st.1 a (K a) a) = true := (qany_iff _).mpr ⟨v, hv, by have := hs2 a ha v hv h; rw [e0] at this; exact this⟩
    rw [e0]; show (!qany (qnar st.1 a (K a) a)) = false
    rw [this]; rfl
/-- the rules are of texts alone -/
def Etx (E : qE) : Prop := ∀ r, Eact E r = true → r < 16 ∧ (vls (Ev E r)).length ≤ 3
theorem Kp_tx {E : qE} {r : Nat} (h : r < 16) (D : Nat → Nat → Bool) : Kp E r D = kpS (Ev E r) (ET E r) D := by unfold Kp; rw [if_pos h]
/-- what holds on any way: smaller than P0; of whom nobody waits, nothing is to be taken -/
def cfi (E : qE) (D0 : Nat → Nat → Bool) (P : qP) : Prop := qsub P.1 D0 ∧ (P.2.2.1 = false → ∀ r, r < 24 → Eact E r = true → P.2.1 r = false → stb E r P.1)
theorem cfi_step {E : qE} {D0 : Nat → Nat → Bool} {P : qP} {r : Nat} (hX : Etx E) (hI : PI E P) (hr : r < 24) (hQ : P.2.1 r = true) (H : cfi E D0 P) : cfi E D0 (qone E r P) := by
  have hf := PI_f hI hr hQ
  have ha := hI.2.2 r hr hQ
  have hx := hX r ha
  obtain ⟨d1, d2, d3, d4⟩ := fold_D (K := Kp E r P.1) (rs := nI r) (vls (Ev E r)) (vls_nodup _) (P.1, false, P.2.2.2, fun _ => false) rfl
  refine ⟨fun u hu v hv h => H.1 u hu v hv (d3 u v h), fun hf2 i hi hai hqi => ?_⟩
  have hf3 : ((vls (Ev E r)).foldl (pstep (Kp E r P.1) (nI r)) (P.1, false, P.2.2.2, fun _ => false)).2.1 = false := hf2
  show stb E i ((vls (Ev E r)).foldl (pstep (Kp E r P.1) (nI r)) (P.1, false, P.2.2.2, fun _ => false)).1
  have hxi := hX i hai
  have hD2 := d2 hf3
  generalize hst : (vls (Ev E r)).foldl (pstep (Kp E r P.1) (nI r)) (P.1, false, P.2.2.2, fun _ => false) = st at d1 d2 d3 d4 hf3 hD2 ⊢
  by_cases e : i = r
  · subst e
    intro u hu hv v hv10 hd
    rw [Kp_tx hx.1]
    have hmem := (mem_vls (Ev E i) u).mpr ⟨hu, hv⟩
    have h1 := hD2 u hmem v
    rw [hd] at h1
    have h2 : Kp E i P.1 u v = true := by
      have := h1.symm; simp only [Bool.and_eq_true] at this; exact this.2
    rw [Kp_tx hx.1] at h2
    refine kpS_idem (D := P.1) (fun w hw hvw c hc hdc hkc => ?_) hv10 h2
    rw [hD2 w ((mem_vls (Ev E i) w).mpr ⟨hw, hvw⟩) c, Kp_tx hx.1, hkc, Bool.and_true]; exact hdc
  · -- nothing of its own changed
    have hq : (qafter (fun i => P.2.1 i && !decide (i = r)) st.2.1 (wk st.2.2.2 (fun x i => Ev E i x)) (Eact E) r) i = false := by
      have : (qone E r P).2.1 i = false := hqi
      unfold qone at this
      rw [hst] at this
      exact this
    unfold qafter at hq
    rw [hf3, hai] at hq
    simp only [Bool.not_false, Bool.true_and, Bool.and_true, decide_eq_false e, Bool.or_eq_false_iff] at hq
    have hpq : P.2.1 i = false := hq.1
    have hwk : wk st.2.2.2 (fun x i => Ev E i x) i = false := hq.2
    have hsame : ∀ u, u < 8 → Ev E i u = true → ∀ v, v < 10 → st.1 u v = P.1 u v := fun u hu hv v hv10 => by
      have hc : st.2.2.2 u = false := by
        cases hc : st.2.2.2 u with
        | false => rfl
        | true => rw [(wk_iff _ _ _).mpr ⟨u, hu, hc, hv⟩] at hwk; cases hwk
      exact (d4 u hc).2 v hv10
    have hst0 := H.2 hf i hi hai hpq
    intro u hu hv v hv10 hd
    have hd0 : P.1 u v = true := by rw [← hsame u hu hv v hv10]; exact hd
    have hk := hst0 u hu hv v hv10 hd0
    rw [Kp_tx hxi.1] at hk ⊢
    exact kpS_mono (fun w hw hvw c hc hdc => by rw [hsame w hw hvw c hc]; exact hdc) hv10 hk
/-- a star: nonempty, left alone by all -/
def star (E : qE) (Ds : Nat → Nat → Bool) : Prop := (∀ x, x < 8 → qany (Ds x) = true) ∧ ∀ r, r < 24 → Eact E r = true → stb E r Ds
theorem star_step {E : qE} {Ds : Nat → Nat → Bool} {P : qP} {r : Nat} (hX : Etx E) (hI : PI E P) (hr : r < 24) (hQ : P.2.1 r = true) (hS : star E Ds) (hs : qsub Ds P.1) : (qone E r P).2.2.1 = false ∧ qsub Ds (qone E r P).1 := by
  have ha := hI.2.2 r hr hQ
  have hx := hX r ha
  refine fold_star (K := Kp E r P.1) hS.1 (vls (Ev E r)) (fun u hu => ((mem_vls _ u).mp hu).1) (P.1, false, P.2.2.2, fun _ => false) rfl hs (fun u hu v hv h => ?_)
  have hm := (mem_vls _ u).mp hu
  have := hS.2 r hr ha u hm.1 hm.2 v hv h
  rw [Kp_tx hx.1] at this ⊢
  exact kpS_mono (fun w hw _ c hc hd => hs w hw c hc hd) hv this
/-- the ordered run along the way -/
theorem iter_ind {E : qE} (C : qP → Prop) (hC : ∀ P r, PI E P → PT P → r < 24 → P.2.1 r = true → C P → C (qone E r P)) : ∀ (k : Nat) (P : qP), PI E P → PT P → C P → C (qiter E k P) := by
  intro k
  induction k with
  | zero => intro P _ _ h; exact h
  | succ k ih =>
    intro P hI hT h
    rw [qiter]
    cases hq : qnx (Er E) P.2.1 24 with
    | none => exact h
    | some r =>
      obtain ⟨h1, h2⟩ := qnx_lt hq
      exact ih _ (qone_PI hI hT h1 h2) (qone_PT hI hT h1 h2) (hC P r hI hT h1 h2 h)
/-- two ends of one beginning are alike -/
theorem conf {E : qE} {P0 P1 P2 : qP} (hX : Etx E) (hI : PI E P0) (hT : PT P0) (hq0 : P0.2.2.1 = false → ∀ r, r < 24 → Eact E r = true → P0.2.1 r = true)
    (e1 : ∀ C : qP → Prop, (∀ P r, PI E P → PT P → r < 24 → P.2.1 r = true → C P → C (qone E r P)) → C P0 → C P1)
    (e2 : ∀ C : qP → Prop, (∀ P r, PI E P → PT P → r < 24 → P.2.1 r = true → C P → C (qone E r P)) → C P0 → C P2)
    (d1 : ∀ r, r < 24 → P1.2.1 r = false) (d2 : ∀ r, r < 24 → P2.2.1 r = false) :
    P1.2.2.1 = P2.2.2.1 ∧ (P1.2.2.1 = false → ∀ u, u < 8 → ∀ v, v < 10 → P1.1 u v = P2.1 u v) := by
  have c0 : cfi E P0.1 P0 := ⟨fun _ _ _ _ h => h, fun hf r hr ha hq => by rw [hq0 hf r hr ha] at hq; cases hq⟩
  have pi0 : ∀ Pz : qP, (∀ C : qP → Prop, (∀ P r, PI E P → PT P → r < 24 → P.2.1 r = true → C P → C (qone E r P)) → C P0 → C Pz) → PI E Pz := fun Pz ez => ez (PI E) (fun P r hI hT hr hQ _ => qone_PI hI hT hr hQ) hI
  have cf1 := e1 (cfi E P0.1) (fun P r hI hT hr hQ h => cfi_step hX hI hr hQ h) c0
  have cf2 := e2 (cfi E P0.1) (fun P r hI hT hr hQ h => cfi_step hX hI hr hQ h) c0
  have p1 := pi0 P1 e1
  have p2 := pi0 P2 e2
  have go : ∀ (Pa Pb : qP), cfi E P0.1 Pa → PI E Pa → (∀ r, r < 24 → Pa.2.1 r = false) → (∀ C : qP → Prop, (∀ P r, PI E P → PT P → r < 24 → P.2.1 r = true → C P → C (qone E r P)) → C P0 → C Pb) → Pa.2.2.1 = false → P0.2.2.1 = false → Pb.2.2.1 = false ∧ qsub Pa.1 Pb.1 := by
    intro Pa Pb ca pa da eb hfa hf0
    have hS : star E Pa.1 := ⟨pa.1 hfa, fun r hr ha => ca.2 hfa r hr ha (da r hr)⟩
    exact eb (fun P => P.2.2.1 = false ∧ qsub Pa.1 P.1) (fun P r hI hT hr hQ h => star_step hX hI hr hQ hS h.2) ⟨hf0, ca.1⟩
  cases hf0 : P0.2.2.1 with
  | true =>
    have hz : ∀ Pz : qP, (∀ C : qP → Prop, (∀ P r, PI E P → PT P → r < 24 → P.2.1 r = true → C P → C (qone E r P)) → C P0 → C Pz) → Pz = P0 := fun Pz ez => ez (fun P => P = P0) (fun P r hI2 _ hr hQ h => by subst h; rw [hI2.2.1 hf0 r hr] at hQ; cases hQ) rfl
    rw [hz P1 e1, hz P2 e2]
    exact ⟨rfl, fun _ _ _ _ _ => rfl⟩
  | false =>
    cases h1 : P1.2.2.1 with
    | false =>
      obtain ⟨g1, g2⟩ := go P1 P2 cf1 p1 d1 e2 h1 hf0
      obtain ⟨g3, g4⟩ := go P2 P1 cf2 p2 d2 e1 g1 hf0
      refine ⟨g1.symm, fun _ u hu v hv => ?_⟩
      rw [Bool.eq_iff_iff]
      exact ⟨g2 u hu v hv, g4 u hu v hv⟩
    | true =>
      cases h2 : P2.2.2.1 with
      | true => exact ⟨rfl, fun h => by cases h⟩
      | false =>
        obtain ⟨g3, -⟩ := go P2 P1 cf2 p2 d2 e1 h2 hf0
        rw [h1] at g3; cases g3
