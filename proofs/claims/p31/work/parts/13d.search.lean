/-! decisions, a start, a search that never fails, in numbers -/
section
variable {E : qE} {n k : Nat}
theorem nw_ok (hE : RE E n k) (hN : lawN n k) {P : qP} {D Q x m : Nat} {s rs : Int32} (h : RP n P (D, Q)) (hD : ¬ D = 0) (hx : x < 8) (hs : ∀ v, v < 10 → bt s v = m.testBit v) : RP n (qnw E x s rs P) (cst n D Q x m) := by
  have n2 := hN.2.1
  obtain ⟨-, h2, h3, h4⟩ := h
  obtain ⟨f0, hA, hZ⟩ := h2 hD
  have hm : ∀ v, v < 10 → P.1 x v = true → bt s v = m.testBit v := fun v hv _ => hs v hv
  unfold qnw
  rw [cst_eq]
  by_cases z : dm D x &&& m = 0
  · rw [if_pos z]
    have nz := (cut_0 hA hx hm).mp z
    have ch : qany (fun v => P.1 x v && !bt s v) = true := by
      cases q : qany (fun v => P.1 x v && !bt s v) with
      | true => rfl
      | false =>
        have e := (cut_s hA hx hm).mpr q
        rw [z] at e
        exact absurd e.symm (hZ x hx)
    refine ⟨fun _ => ⟨?_, rfl⟩, fun q => absurd rfl q, fun i hi => ?_, fun i _ q => by
      have q : (0 : Nat).testBit i = true := q
      rw [Nat.zero_testBit] at q; cases q⟩
    · show (P.2.2.1 || !qany (qnar P.1 x (bt s) x)) = true
      rw [nz, Bool.not_false, Bool.or_true]
    · show qwk P.2.1 (P.2.2.1 || !qany (qnar P.1 x (bt s) x)) (qany (fun v => P.1 x v && !bt s v)) (fun r => Ev E r x && Eact E r) i = (0 : Nat).testBit i
      rw [nz, Nat.zero_testBit, Bool.not_false, Bool.or_true]
      unfold qwk
      rw [ch]; rfl
  · rw [if_neg z]
    have nz : qany (qnar P.1 x (bt s) x) = true := by
      cases q : qany (qnar P.1 x (bt s) x) with
      | true => rfl
      | false => exact absurd ((cut_0 hA hx hm).mpr q) z
    by_cases e : dm D x &&& m = dm D x
    · rw [if_pos e]
      refine ⟨fun q => absurd q hD, fun _ => ⟨?_, cut_D0 hA hx hm e, hZ⟩, fun i hi => ?_, h4⟩
      · show (P.2.2.1 || !qany (qnar P.1 x (bt s) x)) = false
        rw [nz, f0]; rfl
      · show qwk P.2.1 (P.2.2.1 || !qany (qnar P.1 x (bt s) x)) (qany (fun v => P.1 x v && !bt s v)) (fun r => Ev E r x && Eact E r) i = Q.testBit i
        rw [(cut_s hA hx hm).mp e]
        exact h3 i hi
    · rw [if_neg e]
      have nc : qany (fun v => P.1 x v && !bt s v) = true := by
        cases q : qany (fun v => P.1 x v && !bt s v) with
        | true => rfl
        | false => exact absurd ((cut_s hA hx hm).mpr q) e
      refine ⟨fun q => absurd q (dset_nz (cut_lt D x m) z), fun _ => ⟨?_, cut_D hA hx hm, NZ_dset hZ (cut_lt D x m) z⟩, fun i hi => ?_, fun i hi q => ?_⟩
      · show (P.2.2.1 || !qany (qnar P.1 x (bt s) x)) = false
        rw [nz, f0]; rfl
      · show qwk P.2.1 (P.2.2.1 || !qany (qnar P.1 x (bt s) x)) (qany (fun v => P.1 x v && !bt s v)) (fun r => Ev E r x && Eact E r) i = (Q ||| chv n x).testBit i
        rw [nc, nz, f0, Nat.testBit_or, chv_all n n2 hN.1 x hx i hi, ← h3 i hi]
        unfold qwk
        rw [if_pos rfl]
        dsimp only
        rw [RE_Eact hE i hi hN]
        by_cases hin : i < n
        · rw [hE.2.2.2.1 i hin x hx]
          cases P.2.1 i <;> cases cvs n i x <;> cases decide (i < n) <;> rfl
        · rw [decide_eq_false hin]
          cases P.2.1 i <;> cases Ev E i x <;> rfl
      · have q : (Q ||| chv n x).testBit i = true := q
        rw [Nat.testBit_or, Bool.or_eq_true] at q
        rcases q with q | q
        · exact h4 i hi q
        · rw [chv_all n n2 hN.1 x hx i hi, Bool.and_eq_true, decide_eq_true_eq] at q; exact q.1
end

/-! decisions, told one behind another from the start -/
def cdcs (n : Nat) (mk : Nat → Bool) : List (Nat × Nat) → Nat → Nat → Nat → Nat × Nat
  | [], _, D, Q => (D, Q)
  | d :: l, i, D, Q => if D = 0 then (D, Q) else if mk i = true then (match cst n D Q d.1 d.2 with
    | (D1, Q1) => fN D1 fun D1 => fN Q1 fun Q1 => cdcs n mk l (i + 1) D1 Q1) else cdcs n mk l (i + 1) D Q
/-- decisions as told, and as pairs of a variable and a set -/
def Dcs (dec : Nat → Nat × Int32) (i : Nat) (ds : List (Nat × Nat)) : Prop := ∀ (j : Nat) (d : Nat × Nat), ds[j]? = some d → (dec (i + j)).1 = d.1 ∧ d.1 < 8 ∧ ∀ v, v < 10 → bt (dec (i + j)).2 v = d.2.testBit v
theorem dcs_ok {E : qE} {n k : Nat} (hE : RE E n k) (hN : lawN n k) (dec : Nat → Nat × Int32) (mk : Nat → Bool) (rsf : Nat → Int32) : ∀ (ds : List (Nat × Nat)) (i : Nat) (P : qP) (D Q : Nat), Dcs dec i ds → RP n P (D, Q) → RP n (qdcs E dec mk rsf i ds.length P) (cdcs n mk ds i D Q) := by
  intro ds
  induction ds with
  | nil => intro i P D Q _ h; exact h
  | cons d l ih =>
    intro i P D Q hd h
    have hd2 : Dcs dec (i + 1) l := fun j a ha => by
      have := hd (j + 1) a ha
      rw [show i + (j + 1) = i + 1 + j by omega] at this
      exact this
    rw [List.length_cons]
    unfold qdcs cdcs
    by_cases hD : D = 0
    · rw [if_pos (h.1 hD).1, if_pos hD]; exact h
    · rw [if_neg (by rw [(h.2.1 hD).1]; decide), if_neg hD]
      by_cases hm : mk i = true
      · rw [if_pos hm, if_pos hm]
        obtain ⟨d1, d2, d3⟩ := hd 0 d rfl
        have h1 := nw_ok (s := (dec i).2) (rs := rsf i) hE hN h hD (x := (dec i).1) (m := d.2) (by rw [show (dec i).1 = d.1 from d1]; exact d2) (fun v hv => d3 v hv)
        rw [show (dec i).1 = d.1 from d1] at h1 ⊢
        generalize cst n D Q d.1 d.2 = c at h1
        obtain ⟨D1, Q1⟩ := c
        show RP n _ (fN D1 fun D1 => fN Q1 fun Q1 => cdcs n mk l (i + 1) D1 Q1)
        rw [fN_eq, fN_eq]
        exact ih (i + 1) _ D1 Q1 hd2 h1
      · rw [if_neg hm, if_neg hm]
        exact ih (i + 1) P D Q hd2 h
def cfull : Nat := 2 ^ 80 - 1
theorem cfull_tb {i : Nat} (h : i < 80) : cfull.testBit i = true := by
  unfold cfull
  rw [Nat.testBit_two_pow_sub_one]; exact decide_eq_true h
theorem cfull_NZ : NZ cfull := by unfold NZ; decide +kernel
theorem P0_ok (n : Nat) : RP n qP0 (cfull, 0) := by
  refine ⟨fun q => absurd q (by decide), fun _ => ⟨rfl, fun x hx v hv => ?_, cfull_NZ⟩, fun i _ => ?_, fun i _ q => ?_⟩
  · rw [cfull_tb (by omega)]; rfl
  · show false = (0 : Nat).testBit i
    rw [Nat.zero_testBit]
  · have q : (0 : Nat).testBit i = true := q
    rw [Nat.zero_testBit] at q; cases q
/-- from the start with some of the decisions, all run -/
def cthink (n k : Nat) (mk : Nat → Bool) (ds : List (Nat × Nat)) : Nat × Nat := match cdcs n mk ds 0 cfull 0 with
  | (D, _) => fN D fun D => if D = 0 then (0, 0) else citer n k 2024 D (2 ^ n - 1)
theorem RE_Ebt {E : qE} {n k : Nat} (hE : RE E n k) : RE (Ebt E none) n k := ⟨hE.1, rfl, fun _ => rfl, hE.2.2.2⟩
theorem think_ok {E : qE} {n k : Nat} (hE : RE E n k) (hN : lawN n k) (dec : Nat → Nat × Int32) (mk : Nat → Bool) (ds : List (Nat × Nat)) (hd : Dcs dec 0 ds) : RP n (qthink E none dec mk ds.length) (cthink n k mk ds) := by
  have n2 := hN.2.1
  have h := dcs_ok (RE_Ebt hE) hN dec mk (fun i => nI (100 + i)) ds 0 qP0 cfull 0 hd (P0_ok n)
  unfold qthink qst cthink
  generalize qdcs (Ebt E none) dec mk (fun i => nI (100 + i)) 0 ds.length qP0 = P at h ⊢
  generalize cdcs n mk ds 0 cfull 0 = c at h
  obtain ⟨D, Q⟩ := c
  show RP n _ (fN D fun D => if D = 0 then (0, 0) else citer n k 2024 D (2 ^ n - 1))
  rw [fN_eq]
  by_cases hD : D = 0
  · rw [if_pos hD]
    have hf : P.2.2.1 = true := (h.1 hD).1
    have e := iter_ok (RE_Ebt hE) hN 2024 (qwake (Ebt E none) P) 0 0 ⟨fun _ => ⟨hf, rfl⟩, fun q => absurd rfl q, fun i _ => by
      show (if P.2.2.1 = true then qemp else Eact (Ebt E none)) i = (0 : Nat).testBit i
      rw [if_pos hf, Nat.zero_testBit]; rfl, fun i _ q => by
      have q : (0 : Nat).testBit i = true := q
      rw [Nat.zero_testBit] at q; cases q⟩
    have z : citer n k 2024 0 0 = (0, 0) := by
      unfold citer
      rw [(qnx_none (pr := cpr n)).mpr (fun i _ => Nat.zero_testBit i)]
    rw [z] at e
    exact e
  · rw [if_neg hD]
    obtain ⟨f0, hA, hZ⟩ := h.2.1 hD
    refine iter_ok (RE_Ebt hE) hN 2024 _ D (2 ^ n - 1) ⟨fun q => absurd q hD, fun _ => ⟨f0, hA, hZ⟩, fun i hi => ?_, fun i _ q => ?_⟩
    · show (if P.2.2.1 = true then qemp else Eact (Ebt E none)) i = _
      rw [if_neg (by rw [f0]; decide), RE_Eact (RE_Ebt hE) i hi hN, Nat.testBit_two_pow_sub_one]
    · have q : (2 ^ n - 1).testBit i = true := q
      rw [Nat.testBit_two_pow_sub_one] at q; exact of_decide_eq_true q
