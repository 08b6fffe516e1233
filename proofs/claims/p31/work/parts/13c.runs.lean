/-! a rule runs, and all run, in numbers -/
def cprune (n k r D : Nat) : List (Nat × Nat) := if r + 1 < n then
    fN (dm D r) fun A => fN (dm D (r + 1)) fun B => [(r, cLo B (k - 1)), (r + 1, cHi A (k - 1))]
  else fN (dm D 0) fun A => fN (dm D 1) fun B => fN (dm D 7) fun H =>
    [(0, (if H.testBit 1 then cLo B k else 0) ||| (if H.testBit 0 then cNLo B k else 0)), (1, (if H.testBit 1 then cHi A k else 0) ||| (if H.testBit 0 then cNHi A k else 0)), (7, (if A &&& cLo B k = 0 then 0 else 2) ||| (if A &&& cNLo B k = 0 then 0 else 1))]
def cfin (r D w Q : Nat) : Nat × Nat := if D = 0 then (0, 0) else (D, ((Q ||| w) ||| 2 ^ r) ^^^ 2 ^ r)
def cone (n k r D Q : Nat) : Nat × Nat := match cfold n (cprune n k r D) D 0 with
  | (D1, w1) => fN D1 fun D1 => fN w1 fun w1 => cfin r D1 w1 Q
theorem tb_if (c : Bool) (m v : Nat) : (if c = true then m else 0).testBit v = (c && m.testBit v) := by
  cases c
  · show Nat.testBit 0 v = _
    rw [Nat.zero_testBit]; rfl
  · rfl
theorem q_or (f g : Nat → Bool) : qany (fun v => f v || g v) = (qany f || qany g) := by
  rw [Bool.eq_iff_iff, Bool.or_eq_true, qany_iff, qany_iff, qany_iff]
  constructor
  · rintro ⟨v, hv, h⟩
    rcases Bool.or_eq_true _ _ |>.mp h with h | h
    · exact Or.inl ⟨v, hv, h⟩
    · exact Or.inr ⟨v, hv, h⟩
  · rintro (⟨v, hv, h⟩ | ⟨v, hv, h⟩)
    · exact ⟨v, hv, by rw [h]; rfl⟩
    · exact ⟨v, hv, by rw [h, Bool.or_true]⟩
theorem q_and (c : Bool) (g : Nat → Bool) : qany (fun v => g v && c) = (c && qany g) := by
  cases c
  · rw [Bool.false_and, qany_f]; intro v _; rw [Bool.and_false]
  · rw [Bool.true_and]; exact qany_congr (fun v _ => Bool.and_true _)
/-- the third slot of the bound test -/
def hT (p : Bool) (z : Nat) : Bool := if z = 1 then p else if z = 0 then !p else false
theorem hT_any (p : Bool) (d : Nat → Bool) : qany (fun z => hT p z && d z) = ((p && d 1) || (!p && d 0)) := by
  rw [Bool.eq_iff_iff, qany_iff]
  constructor
  · rintro ⟨z, _, h⟩
    unfold hT at h
    by_cases h1 : z = 1
    · subst h1; rw [if_pos rfl] at h; rw [h]; rfl
    · rw [if_neg h1] at h
      by_cases h0 : z = 0
      · subst h0; rw [if_pos rfl] at h; rw [h, Bool.or_true]
      · rw [if_neg h0, Bool.false_and] at h; cases h
  · intro h
    rcases Bool.or_eq_true _ _ |>.mp h with h | h
    · exact ⟨1, by omega, h⟩
    · exact ⟨0, by omega, h⟩
theorem and_0 {A m : Nat} (hA : A < 1024) : A &&& m = 0 ↔ qany (fun v => A.testBit v && m.testBit v) = false := by
  rw [nz10 (Nat.lt_of_le_of_lt Nat.and_le_left hA), qany_f]
  refine forall_congr' fun v => forall_congr' fun hv => ?_
  rw [Nat.testBit_and]
section
variable {E : qE} {n k : Nat}
theorem prune_ok (hE : RE E n k) (hN : lawN n k) {r D : Nat} {f : Nat → Nat → Bool} (hr : r < n) (hA : AgD f D) : (cprune n k r D).map Prod.fst = vls (Ev E r) ∧ ((cprune n k r D).map Prod.fst).Nodup ∧ ∀ q ∈ cprune n k r D, q.1 < 8 ∧ ∀ v, v < 10 → f q.1 v = true → Kp E r f q.1 v = q.2.testBit v := by
  obtain ⟨n1, n2, k1, k2⟩ := id hN
  have h16 : r < 16 := by omega
  unfold cprune
  by_cases h : r + 1 < n
  · rw [if_pos h, fN_eq, fN_eq, RE_vls2 hE hN h]
    refine ⟨rfl, ?_, fun q hq => ?_⟩
    · show [r, r + 1].Nodup
      rw [List.nodup_cons]
      exact ⟨fun z => by rw [List.mem_singleton] at z; omega, by simp⟩
    · have e := fun v => kpS2 (ET E r) f v (RE_vls2 hE hN h) (by omega) (by omega) (by omega)
      have hT := hE.2.2.2.2.2.1 r h
      rcases List.mem_cons.mp hq with rfl | hq
      · refine ⟨by show r < 8; omega, fun v hv hs => ?_⟩
        show Kp E r f r v = (cLo (dm D (r + 1)) (k - 1)).testBit v
        have hs : f r v = true := hs
        unfold Kp
        rw [if_pos h16, (e v).1, hs, Bool.true_and, tb_Lo _ (dm_lt D _) hv]
        refine qany_congr (fun z hz => ?_)
        rw [hT v hv z hz, AgD_dm hA (by omega) hz, Bool.and_comm]
      · rw [List.mem_singleton] at hq
        subst hq
        refine ⟨by show r + 1 < 8; omega, fun v hv hs => ?_⟩
        show Kp E r f (r + 1) v = (cHi (dm D r) (k - 1)).testBit v
        have hs : f (r + 1) v = true := hs
        unfold Kp
        rw [if_pos h16, (e v).2, hs, Bool.true_and, tb_Hi (by omega) (dm_lt D _) hv]
        refine qany_congr (fun y hy => ?_)
        rw [hT y hy v hv, AgD_dm hA (by omega) hy]
  · have er : r = n - 1 := by omega
    subst er
    rw [if_neg h, fN_eq, fN_eq, fN_eq, RE_vls3 hE hN]
    refine ⟨rfl, by show [0, 1, 7].Nodup; decide, fun q hq => ?_⟩
    have e := fun v => kpS3 (ET E (n - 1)) f v (RE_vls3 hE hN) (by omega) (by omega) (by omega) (by omega) (by omega) (by omega)
    have hT' : ∀ x, x < 10 → ∀ y, y < 10 → ∀ z, z < 10 → ET E (n - 1) x y z = hT (decide (x + k < y)) z := hE.2.2.2.2.2.2
    have d0 : ∀ v, v < 10 → (dm D 0).testBit v = f 0 v := fun v hv => AgD_dm hA (by omega) hv
    have d1 : ∀ v, v < 10 → (dm D 1).testBit v = f 1 v := fun v hv => AgD_dm hA (by omega) hv
    have d7 : ∀ v, v < 10 → (dm D 7).testBit v = f 7 v := fun v hv => AgD_dm hA (by omega) hv
    rcases List.mem_cons.mp hq with rfl | hq
    · refine ⟨by show 0 < 8; omega, fun v hv hs => ?_⟩
      show Kp E (n - 1) f 0 v = ((if (dm D 7).testBit 1 then cLo (dm D 1) k else 0) ||| (if (dm D 7).testBit 0 then cNLo (dm D 1) k else 0)).testBit v
      have hs : f 0 v = true := hs
      unfold Kp
      rw [if_pos h16, (e v).1, hs, Bool.true_and, Nat.testBit_or, tb_if, tb_if, tb_Lo _ (dm_lt D _) hv, tb_NLo (by omega) (dm_lt D _) hv, ← q_and, ← q_and, ← q_or]
      refine qany_congr (fun y hy => ?_)
      rw [qany_congr (g := fun z => hT (decide (v + k < y)) z && f 7 z) (fun z hz => by rw [hT' v hv y hy z hz]), hT_any, d1 y hy, d7 1 (by omega), d7 0 (by omega)]
      cases f 1 y <;> cases decide (v + k < y) <;> cases f 7 1 <;> cases f 7 0 <;> rfl
    · rcases List.mem_cons.mp hq with rfl | hq
      · refine ⟨by show 1 < 8; omega, fun v hv hs => ?_⟩
        show Kp E (n - 1) f 1 v = ((if (dm D 7).testBit 1 then cHi (dm D 0) k else 0) ||| (if (dm D 7).testBit 0 then cNHi (dm D 0) k else 0)).testBit v
        have hs : f 1 v = true := hs
        unfold Kp
        rw [if_pos h16, (e v).2.1, hs, Bool.true_and, Nat.testBit_or, tb_if, tb_if, tb_Hi (by omega) (dm_lt D _) hv, tb_NHi (dm_lt D _) hv, ← q_and, ← q_and, ← q_or]
        refine qany_congr (fun y hy => ?_)
        rw [qany_congr (g := fun z => hT (decide (y + k < v)) z && f 7 z) (fun z hz => by rw [hT' y hy v hv z hz]), hT_any, d0 y hy, d7 1 (by omega), d7 0 (by omega)]
        cases f 0 y <;> cases decide (y + k < v) <;> cases f 7 1 <;> cases f 7 0 <;> rfl
      · rw [List.mem_singleton] at hq
        subst hq
        refine ⟨by show 7 < 8; omega, fun v hv hs => ?_⟩
        show Kp E (n - 1) f 7 v = ((if dm D 0 &&& cLo (dm D 1) k = 0 then 0 else 2) ||| (if dm D 0 &&& cNLo (dm D 1) k = 0 then 0 else 1)).testBit v
        have hs : f 7 v = true := hs
        unfold Kp
        rw [if_pos h16, (e v).2.2, hs, Bool.true_and]
        have eL : dm D 0 &&& cLo (dm D 1) k = 0 ↔ qany (fun x => f 0 x && qany (fun y => f 1 y && decide (x + k < y))) = false := by
          rw [and_0 (dm_lt D 0), qany_congr (fun x hx => ?_)]
          rw [d0 x hx, tb_Lo _ (dm_lt D _) hx, qany_congr (fun y hy => ?_)]
          rw [d1 y hy]
        have eN : dm D 0 &&& cNLo (dm D 1) k = 0 ↔ qany (fun x => f 0 x && qany (fun y => f 1 y && !decide (x + k < y))) = false := by
          rw [and_0 (dm_lt D 0), qany_congr (fun x hx => ?_)]
          rw [d0 x hx, tb_NLo (by omega) (dm_lt D _) hx, qany_congr (fun y hy => ?_)]
          rw [d1 y hy]
        have e1 : ∀ z, z < 10 → qany (fun x => f 0 x && qany (fun y => f 1 y && ET E (n - 1) x y z)) = (if z = 1 then qany (fun x => f 0 x && qany (fun y => f 1 y && decide (x + k < y))) else if z = 0 then qany (fun x => f 0 x && qany (fun y => f 1 y && !decide (x + k < y))) else false) := by
          intro z hz
          rw [qany_congr (g := fun x => f 0 x && qany (fun y => f 1 y && hT (decide (x + k < y)) z)) (fun x hx => by rw [qany_congr (fun y hy => by rw [hT' x hx y hy z hz])])]
          unfold hT
          by_cases z1 : z = 1
          · rw [if_pos z1]; refine qany_congr (fun x _ => ?_); rw [qany_congr (fun y _ => by rw [if_pos z1])]
          · rw [if_neg z1]
            by_cases z0 : z = 0
            · rw [if_pos z0]; refine qany_congr (fun x _ => ?_); rw [qany_congr (fun y _ => by rw [if_neg z1, if_pos z0])]
            · rw [if_neg z0, qany_f]; intro x _
              rw [show qany _ = false from (qany_f _).mpr (fun y _ => by rw [if_neg z1, if_neg z0, Bool.and_false]), Bool.and_false]
        rw [e1 v hv]
        generalize qany (fun x => f 0 x && qany (fun y => f 1 y && decide (x + k < y))) = pL at eL ⊢
        generalize qany (fun x => f 0 x && qany (fun y => f 1 y && !decide (x + k < y))) = pN at eN ⊢
        have cL : (if dm D 0 &&& cLo (dm D 1) k = 0 then 0 else 2) = if pL = true then 2 else 0 := by
          cases pL with
          | false => rw [if_pos (eL.mpr rfl)]; rfl
          | true => rw [if_neg (fun q => by cases (eL.mp q))]; rfl
        have cN : (if dm D 0 &&& cNLo (dm D 1) k = 0 then 0 else 1) = if pN = true then 1 else 0 := by
          cases pN with
          | false => rw [if_pos (eN.mpr rfl)]; rfl
          | true => rw [if_neg (fun q => by cases (eN.mp q))]; rfl
        rw [cL, cN]
        have : ∀ v, v < 10 → ∀ pL pN : Bool, (if v = 1 then pL else if v = 0 then pN else false) = ((if pL = true then 2 else 0) ||| (if pN = true then 1 else 0)).testBit v := by decide
        exact this v hv pL pN
theorem one_ok (hE : RE E n k) (hN : lawN n k) {P : qP} {D Q r : Nat} (h : RP n P (D, Q)) (hD : ¬ D = 0) (hr : r < n) : RP n (qone E r P) (cone n k r D Q) := by
  have n2 := hN.2.1
  obtain ⟨-, h2, h3, h4⟩ := h
  obtain ⟨f0, hA, hZ⟩ := h2 hD
  obtain ⟨e1, e2, e3⟩ := prune_ok hE hN hr hA
  have hS := RS_fold hE hN (nI r) (Kp E r P.1) (cprune n k r D) (P.1, false, P.2.2.2, fun _ => false) D 0 e2 ⟨fun q => absurd q hD, fun _ => ⟨rfl, hA, hZ, fun i hi => by
    rw [Nat.zero_testBit]
    symm
    rw [Bool.and_eq_false_iff]
    right
    cases q : wk (fun _ => false) (fun x i => Ev E i x) i with
    | false => rfl
    | true =>
      obtain ⟨_, _, z, _⟩ := (wk_iff _ _ _).mp q
      cases z⟩⟩ e3
  rw [e1] at hS
  unfold qone cone
  dsimp only
  generalize (vls (Ev E r)).foldl (pstep (Kp E r P.1) (nI r)) (P.1, false, P.2.2.2, fun _ => false) = st at hS ⊢
  generalize cfold n (cprune n k r D) D 0 = c at hS
  obtain ⟨D1, w1⟩ := c
  show RP n _ (fN D1 fun D1 => fN w1 fun w1 => cfin r D1 w1 Q)
  rw [fN_eq, fN_eq]
  unfold cfin
  by_cases z : D1 = 0
  · rw [if_pos z]
    have hf : st.2.1 = true := hS.1 z
    refine ⟨fun _ => ⟨hf, rfl⟩, fun q => absurd rfl q, fun i _ => ?_, fun i _ q => by rw [Nat.zero_testBit] at q; cases q⟩
    show qafter (fun i => P.2.1 i && !decide (i = r)) st.2.1 (wk st.2.2.2 (fun x i => Ev E i x)) (Eact E) r i = Nat.testBit 0 i
    rw [Nat.zero_testBit, hf]; rfl
  · rw [if_neg z]
    obtain ⟨hf, hA1, hZ1, hw⟩ := hS.2 z
    have hQ : ∀ i, i < 24 → ((Q ||| w1 ||| 2 ^ r) ^^^ 2 ^ r).testBit i = ((Q.testBit i || w1.testBit i) && !decide (i = r)) := by
      intro i _
      rw [Nat.testBit_xor, Nat.testBit_or, Nat.testBit_or, Nat.testBit_two_pow]
      by_cases e : i = r
      · subst e; simp
      · rw [decide_eq_false (fun q => e q.symm), decide_eq_false e]; simp
    refine ⟨fun q => absurd q z, fun _ => ⟨hf, hA1, hZ1⟩, fun i hi => ?_, fun i hi q => ?_⟩
    · show qafter (fun i => P.2.1 i && !decide (i = r)) st.2.1 (wk st.2.2.2 (fun x i => Ev E i x)) (Eact E) r i = _
      unfold qafter
      dsimp only
      rw [hQ i hi, hf, hw i hi, ← h3 i hi, RE_Eact hE i hi hN]
      cases P.2.1 i <;> cases decide (i = r) <;> cases decide (i < n) <;> cases wk st.2.2.2 (fun x i => Ev E i x) i <;> rfl
    · have q : ((Q ||| w1 ||| 2 ^ r) ^^^ 2 ^ r).testBit i = true := q
      rw [hQ i hi, Bool.and_eq_true, Bool.or_eq_true] at q
      rcases q.1 with q | q
      · exact h4 i hi q
      · rw [hw i hi, Bool.and_eq_true, decide_eq_true_eq] at q; exact q.1
theorem qnx_cg {pr pr2 : Nat → Nat} {Q Q2 : Nat → Bool} : ∀ m : Nat, (∀ r, r < m → Q r = Q2 r) → (∀ r, r < m → Q r = true → pr r = pr2 r) → qnx pr Q m = qnx pr2 Q2 m := by
  intro m
  induction m with
  | zero => intro _ _; rfl
  | succ m ih =>
    intro h1 h2
    have e := ih (fun r hr => h1 r (by omega)) (fun r hr => h2 r (by omega))
    unfold qnx
    rw [← e, ← h1 m (by omega)]
    cases hq : Q m with
    | false => rfl
    | true =>
      rw [if_pos rfl, if_pos rfl]
      cases hb : qnx pr Q m with
      | none => rfl
      | some b =>
        obtain ⟨b1, b2⟩ := qnx_lt hb
        dsimp only
        rw [h2 m (by omega) hq, h2 b (by omega) b2]
end
def citer (n k : Nat) : Nat → Nat → Nat → Nat × Nat
  | 0, D, Q => (D, Q)
  | m + 1, D, Q => match qnx (cpr n) (fun i => Q.testBit i) 24 with
    | none => (D, Q)
    | some r => match cone n k r D Q with
      | (D1, Q1) => fN D1 fun D1 => fN Q1 fun Q1 => citer n k m D1 Q1
theorem iter_ok {E : qE} {n k : Nat} (hE : RE E n k) (hN : lawN n k) : ∀ (m : Nat) (P : qP) (D Q : Nat), RP n P (D, Q) → RP n (qiter E m P) (citer n k m D Q) := by
  intro m
  induction m with
  | zero => intro P D Q h; exact h
  | succ m ih =>
    intro P D Q h
    have e : qnx (Er E) P.2.1 24 = qnx (cpr n) (fun i => Q.testBit i) 24 := qnx_cg 24 (fun r hr => h.2.2.1 r hr) (fun r hr q => by
      rw [h.2.2.1 r hr] at q
      exact hE.2.2.2.2.1 r (h.2.2.2 r hr q))
    unfold qiter citer
    rw [e]
    cases hq : qnx (cpr n) (fun i => Q.testBit i) 24 with
    | none => exact h
    | some r =>
      obtain ⟨r1, r2⟩ := qnx_lt hq
      have hD : ¬ D = 0 := fun z => by
        have := (h.1 z).2
        have this : Q = 0 := this
        rw [this, Nat.zero_testBit] at r2; cases r2
      have h1 := one_ok hE hN h hD (h.2.2.2 r r1 r2)
      dsimp only
      generalize cone n k r D Q = c at h1 ⊢
      obtain ⟨D1, Q1⟩ := c
      show RP n _ (fN D1 fun D1 => fN Q1 fun Q1 => citer n k m D1 Q1)
      rw [fN_eq, fN_eq]
      exact ih _ _ _ h1
