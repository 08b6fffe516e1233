theorem priority_eq {h : gH} {E : qE} {kd : Nat → Nat} (hM : ME h E kd) {r : Nat} (ha : Eact E r = true) : fM_priority (nI r) h = some (nI (Er E r), h) ∧ Er E r < 100 := by
  have hn := hM.1
  have hl8 := hM.2.1
  have hl := Eact_lt hn hl8 ha
  rcases hl.2 with q | q
  · have g := hM.2.2.2.2.1 r q
    have hlen := g.2.2.2.1
    have hkd := g.2.2.1
    refine ⟨?_, by rw [g.2.2.2.2.1]; omega⟩
    unfold fM_priority gg
    rw [if_pos (gin_t (by omega) (by omega)), clampn (by omega), g.2.1, if_neg (fun z => by have := (neq_l (by omega) (by decide)).mp z; omega), if_pos (gin_t (by omega) (by omega)), g.1, bitsOf_mkn (by omega)]
    show (if gin (nI r) 24 = true then some (nI (qcnt (Ev E r) 8) + h 67 r, h) else none) = _
    rw [if_pos (gin_t (by omega) (by omega)), g.2.1, nI_add, g.2.2.2.2.1, vls_len]
  · have e : 16 + (r - 16) = r := by omega
    have g := hM.2.2.2.2.2 (r - 16) (by omega)
    rw [e] at g
    refine ⟨?_, by rw [g.2.2.1]; omega⟩
    unfold fM_priority gg
    rw [if_pos (gin_t (by omega) (by omega)), clampn (by omega), g.2.1, if_pos rfl, g.2.2.1]; rfl
def bnd (n k : Nat) : Nat := if k < n then k else 16 + (k - n)
theorem next_loop {h : gH} {E : qE} (hA0 : Eall E) {kd : Nat → Nat} (hM : ME h E kd) {Q : Nat → Bool} (hQ : ∀ r, r < 24 → Eact E r = true → h 71 r = b2i (Q r)) (hA : ∀ r, r < 24 → Q r = true → Eact E r = true) : ∀ (m k fu : Nat), k + m = En E + El E → m < fu →
    Sp (fM_nextRule_4 fu (oI (qnx (Er E) Q (bnd (En E) k))) (nI k) h) (fun p => p = (oI (qnx (Er E) Q 24), h)) := by
  have hn := hM.1
  have hl := hM.2.1
  have hoff : ∀ i, i < 24 → Eact E i = false → Q i = false := fun i hi ha => by
    cases hq : Q i with
    | false => rfl
    | true => rw [hA i hi hq] at ha; cases ha
  intro m
  induction m with
  | zero =>
    intro k fu hk hfu
    obtain ⟨fu, rfl⟩ : ∃ f, fu = f + 1 := ⟨fu - 1, by omega⟩
    unfold fM_nextRule_4 fM_allRules
    refine Sp_eq rfl ?_
    dsimp only
    rw [hM.2.2.1, hM.2.2.2.1, nI_add]
    refine Sp_neg (fun q => by have := (nlt (by omega) (by omega)).mp q; omega) (Sp_some ?_)
    have e : bnd (En E) k = 16 + El E := by unfold bnd; rw [if_neg (by omega)]; omega
    rw [e]
    have := qnx_stop (pr := Er E) (Q := Q) (k := 16 + El E) (m := 8 - El E) (fun i h1 h2 => hoff i (by omega) (by
      rw [Eall_act hA0]; unfold qact; rw [decide_eq_false (by omega), decide_eq_false (by omega)]; rfl))
    rw [show 16 + El E + (8 - El E) = 24 by omega] at this
    rw [this]
  | succ m ih =>
    intro k fu hk hfu
    obtain ⟨fu, rfl⟩ : ∃ f, fu = f + 1 := ⟨fu - 1, by omega⟩
    unfold fM_nextRule_4 fM_allRules
    refine Sp_eq rfl ?_
    dsimp only
    rw [hM.2.2.1, hM.2.2.2.1, nI_add]
    refine Sp_pos ((nlt (by omega) (by omega)).mpr (by omega)) ?_
    have hra : fM_ruleAt (nI k) h = some (nI (bnd (En E) k), h) := by
      unfold fM_ruleAt bnd
      rw [hM.2.2.1]
      by_cases hkn : k < En E
      · rw [if_pos ((nlt (by omega) (by omega)).mpr hkn), if_pos hkn]
      · rw [if_neg (fun q => hkn ((nlt (by omega) (by omega)).mp q)), if_neg hkn, nadd_r, nsub (by omega), show 16 + k - En E = 16 + (k - En E) by omega]
    refine Sp_eq hra ?_
    dsimp only
    have hb24 : bnd (En E) k < 24 := by unfold bnd; split <;> omega
    have hact : Eact E (bnd (En E) k) = true := by
      rw [Eall_act hA0]
      unfold qact bnd
      rw [Bool.or_eq_true, decide_eq_true_eq, decide_eq_true_eq]; split <;> omega
    have hnx : qnx (Er E) Q (bnd (En E) (k + 1)) = qnx (Er E) Q (bnd (En E) k + 1) := by
      by_cases e : k + 1 = En E
      · have e1 : bnd (En E) (k + 1) = En E + (16 - En E) := by unfold bnd; rw [if_neg (by omega)]; omega
        have e2 : bnd (En E) k + 1 = En E := by unfold bnd; rw [if_pos (by omega)]; omega
        rw [e1, e2]
        exact qnx_stop (fun i h1 h2 => hoff i (by omega) (by
          rw [Eall_act hA0]; unfold qact; rw [decide_eq_false (by omega), decide_eq_false (by omega)]; rfl))
      · congr 1
        unfold bnd
        by_cases e2 : k < En E
        · rw [if_pos e2, if_pos (by omega)]
        · rw [if_neg e2, if_neg (by omega)]; omega
    have step := ih (k + 1) fu (by omega) (by omega)
    rw [hnx, qnx] at step
    refine Sp_gg (gin_t hb24 (by omega)) ?_
    rw [clampn (by omega)]
    have hv := hQ _ hb24 hact
    cases hq : Q (bnd (En E) k) with
    | false =>
      refine Sp_pos (hv.trans (by rw [hq]; rfl)) ?_
      rw [hq, if_neg (by simp)] at step
      rw [nadd_l]; exact step
    | true =>
      refine Sp_neg (fun z => by rw [hv, hq] at z; exact absurd z (by decide)) ?_
      rw [hq, if_pos rfl] at step
      cases hb : qnx (Er E) Q (bnd (En E) k) with
      | none =>
        refine Sp_pos rfl ?_
        rw [hb] at step
        unfold fM_nextRule_45
        rw [nadd_l]; exact step
      | some b =>
        rw [hb] at step
        obtain ⟨b1, b2⟩ := qnx_lt hb
        have pb := priority_eq hM (hA b (by omega) b2)
        have pr := priority_eq hM hact
        refine Sp_neg (neq_m1 (by omega)) (Sp_eq pr.1 (Sp_eq pb.1 ?_))
        dsimp only at step ⊢
        have h1 := pr.2
        have h2 := pb.2
        refine Sp_if (fun q => ?_) (fun q => ?_)
        · rw [if_pos ((nlt (by omega) (by omega)).mp q)] at step
          unfold fM_nextRule_45
          rw [nadd_l]; exact step
        · rw [if_neg (fun z => q ((nlt (by omega) (by omega)).mpr z))] at step
          rw [nadd_l]; exact step
theorem next_eq {h : gH} {E : qE} (hA0 : Eall E) {kd : Nat → Nat} (hM : ME h E kd) {Q : Nat → Bool} (hQ : ∀ r, r < 24 → Eact E r = true → h 71 r = b2i (Q r)) (hA : ∀ r, r < 24 → Q r = true → Eact E r = true) : fM_nextRule h = some (oI (qnx (Er E) Q 24), h) := by
  have hn := hM.1
  have hl := hM.2.1
  have key := next_loop hA0 hM hQ hA (En E + El E) 0 gfu (by omega) (by unfold gfu; omega)
  have e : qnx (Er E) Q (bnd (En E) 0) = none := by
    rw [qnx_none]
    intro i hi
    unfold bnd at hi
    split at hi
    · omega
    · cases hq : Q i with
      | false => rfl
      | true =>
        have := Eact_lt hn hl (hA i (by omega) hq)
        omega
  rw [e] at key
  obtain ⟨x, h1, h2⟩ := key
  unfold fM_nextRule
  rw [← h2]; exact h1
/-- the model's picture -/
def MP (h : gH) (E : qE) (kd : Nat → Nat) (th : Bool) (t0 : qT) (P : qP) : Prop := (Eall E ∧ ME h E kd) ∧ MX (Eact E) h P.1 P.2.1 P.2.2.1 ∧ h 65 36 = b2i th ∧ MT h (if th then t0 else P.2.2.2)
/-- one rule: it waits no more, and runs -/
theorem mone {r : Nat} {E : qE} {kd : Nat → Nat} {h : gH} {th : Bool} {t0 : qT} {P : qP} (H : MP h E kd th t0 P) (hI : PI E P) (hT : PT P) (hr : r < 24) (hQ : P.2.1 r = true) (v : Int32) :
    Sp (fM_prunes (nI r) (hu (hu h 71 r 0) 65 20 v)) (fun h' => MP h' E kd th t0 (qone E r P) ∧ h' 65 20 = v) ∧ Sp (fM_prunes (nI r) (hu h 71 r 0)) (fun h' => MP h' E kd th t0 (qone E r P)) := by
  have hf := PI_f hI hr hQ
  have ha := hI.2.2 r hr hQ
  obtain ⟨⟨gA, g1⟩, g2, g3, g4⟩ := H
  rw [hf] at g2
  have key : ∀ hh : gH, hh 66 = h 66 → (∀ i, hh 71 i = if i = r then 0 else h 71 i) → (∀ b, b ≠ 65 → b ≠ 71 → hh b = h b) → (∀ k, k ≠ 20 → hh 65 k = h 65 k) → Sp (fM_prunes (nI r) hh) (fun h' => MP h' E kd th t0 (qone E r P) ∧ h' 65 20 = hh 65 20) := by
    intro hh e66 e71 eo e65
    have hM : ME hh E kd := ME_fr g1 (e65 8 (by omega)) (e65 9 (by omega)) (eo 67 (by omega) (by omega)) (eo 68 (by omega) (by omega)) (eo 69 (by omega) (by omega)) (eo 70 (by omega) (by omega))
    refine Sp_mono (Sp_and (prunes_sp (th := th) (t0 := t0) (P := P) gA hM ha ⟨fun x hx => by rw [e66]; exact g2.1 x hx, fun i hi hv => ?_, by rw [e65 2 (by omega)]; exact g2.2.2⟩ (by rw [e65 36 (by omega)]; exact g3) (MT_of g4 (e65 15 (by omega)) (eo 74 (by omega) (by omega)) (eo 75 (by omega) (by omega))) (hI.1 hf) hT) (fun _ e => fM_prunes_fr e)) ?_
    · rw [e71 i]
      by_cases e : i = r
      · subst e; rw [if_pos rfl]; simp [b2i]
      · rw [if_neg e, g2.2.1 i hi hv]; simp [e]
    · rintro h' ⟨⟨a1, a2, a3⟩, fr⟩
      refine ⟨⟨⟨gA, ME_fr hM (fr 65 8 (by decide) (by decide)) (fr 65 9 (by decide) (by decide)) (funext fun k => fr 67 k (by decide) (by simp)) (funext fun k => fr 68 k (by decide) (by simp)) (funext fun k => fr 69 k (by decide) (by simp)) (funext fun k => fr 70 k (by decide) (by simp))⟩, a1, a3, a2⟩, fr 65 20 (by decide) (by decide)⟩
  constructor
  · refine Sp_mono (key _ ?_ ?_ ?_ ?_) ?_
    · rw [hu_ne (by omega), hu_ne (by omega)]
    · intro i
      rw [hu_o _ _ _ _ _ (by omega)]
      by_cases e : i = r
      · subst e; rw [hu_same, if_pos rfl]
      · rw [hu_k _ _ _ _ e, if_neg e]
    · intro b h1 h2; rw [hu_ne h1, hu_ne h2]
    · intro k hk; rw [hu_k _ _ _ _ hk, hu_o _ _ _ _ _ (by omega)]
    · rintro h' ⟨a, b⟩
      exact ⟨a, by rw [b, hu_same]⟩
  · refine Sp_mono (key _ ?_ ?_ ?_ ?_) ?_
    · rw [hu_ne (by omega)]
    · intro i
      by_cases e : i = r
      · subst e; rw [hu_same, if_pos rfl]
      · rw [hu_k _ _ _ _ e, if_neg e]
    · intro b h1 h2; rw [hu_ne h2]
    · intro k hk; rw [hu_o _ _ _ _ _ (by omega)]
    · rintro h' ⟨a, b⟩; exact a
theorem mstep_sp {E : qE} {kd : Nat → Nat} {h : gH} {th : Bool} {t0 : qT} {P : qP} (H : MP h E kd th t0 P) (hI : PI E P) (hT : PT P) :
    Sp (fM_step h) (fun p => match qnx (Er E) P.2.1 24 with
      | none => p = (-1, h)
      | some r => p.1 = nI r ∧ MP p.2 E kd th t0 (qone E r P) ∧ p.2 65 20 = h 65 20 + 1) := by
  unfold fM_step
  refine Sp_eq (next_eq H.1.1 H.1.2 H.2.1.2.1 hI.2.2) ?_
  dsimp only
  cases hq : qnx (Er E) P.2.1 24 with
  | none => exact Sp_pos rfl (Sp_some rfl)
  | some r =>
    obtain ⟨h1, h2⟩ := qnx_lt hq
    refine Sp_neg (neq_m1 (by omega)) (Sp_gg (gin_t h1 (by omega)) (Sp_let (Sp_let ?_)))
    show Sp ((fM_prunes (nI r) (hu (hu h 71 (nI r).toNatClampNeg 0) 65 20 (hu h 71 (nI r).toNatClampNeg 0 65 20 + 1))).bind _) _
    rw [clampn (by omega), hu_o _ _ _ _ _ (by omega)]
    refine Sp_bind (mone H hI hT h1 h2 _).1 ?_
    rintro h8 - ⟨a, b⟩
    exact Sp_some ⟨rfl, a, b⟩
theorem mrun_loop {E : qE} {kd : Nat → Nat} {th : Bool} {t0 : qT} : ∀ (k fu c : Nat) (h : gH) (P : qP), mu P ≤ k → k < fu → MP h E kd th t0 P → PI E P → PT P →
    Sp (fM_run_2 fu (nI c) h) (fun p => p.1 = nI (c + qlen E k P) ∧ MP p.2 E kd th t0 (qiter E k P) ∧ p.2 65 20 = h 65 20 + nI (qlen E k P)) := by
  intro k
  induction k with
  | zero =>
    intro fu c h P hm hfu H hI hT
    obtain ⟨fu, rfl⟩ : ∃ f, fu = f + 1 := ⟨fu - 1, by omega⟩
    have h0 := mstep_sp H hI hT
    rw [qnx_none.mpr (mu_0 (P := P) (by omega))] at h0
    unfold fM_run_2
    refine Sp_bind h0 ?_
    rintro p - rfl
    refine Sp_pos rfl (Sp_some ⟨rfl, H, ?_⟩)
    show h 65 20 = h 65 20 + 0
    rw [Int32.add_zero]
  | succ k ih =>
    intro fu c h P hm hfu H hI hT
    obtain ⟨fu, rfl⟩ : ∃ f, fu = f + 1 := ⟨fu - 1, by omega⟩
    have h0 := mstep_sp H hI hT
    unfold fM_run_2
    rw [qlen, qiter]
    cases hq : qnx (Er E) P.2.1 24 with
    | none =>
      rw [hq] at h0
      refine Sp_bind h0 ?_
      rintro p - rfl
      refine Sp_pos rfl (Sp_some ⟨rfl, H, ?_⟩)
      show h 65 20 = h 65 20 + 0
      rw [Int32.add_zero]
    | some r =>
      rw [hq] at h0
      obtain ⟨h1, h2⟩ := qnx_lt hq
      have hlt := mu_lt hI hT h1 h2
      refine Sp_bind h0 ?_
      rintro p - ⟨a1, a2, a3⟩
      refine Sp_neg (by rw [a1]; exact neq_m1 (by omega)) ?_
      rw [nadd_l]
      refine Sp_mono (ih fu (c + 1) p.2 (qone E r P) (by omega) (by omega) a2 (qone_PI hI hT h1 h2) (qone_PT hI hT h1 h2)) ?_
      rintro p2 ⟨b1, b2, b3⟩
      refine ⟨?_, b2, ?_⟩
      · rw [b1]; congr 1; dsimp only; omega
      · rw [b3, a3]; dsimp only
        rw [← nI_add, Int32.add_assoc]; rfl
theorem mrun_sp {E : qE} {kd : Nat → Nat} {h : gH} {th : Bool} {t0 : qT} {P : qP} (H : MP h E kd th t0 P) (hI : PI E P) (hT : PT P) :
    Sp (fM_run h) (fun p => p.1 = nI (qlen E 2024 P) ∧ MP p.2 E kd th t0 (qiter E 2024 P) ∧ p.2 65 20 = h 65 20 + nI (qlen E 2024 P)) := by
  unfold fM_run
  refine Sp_mono (mrun_loop 2024 gfu 0 h P (mu_le P) (by unfold gfu; omega) H hI hT) ?_
  rintro p ⟨a1, a2⟩
  exact ⟨by rw [a1, Nat.zero_add], a2⟩
/-- all that waits runs (as the search and the thoughts do) -/
theorem mruns_loop {E : qE} {kd : Nat → Nat} {th : Bool} {t0 : qT} : ∀ (k fu : Nat) (h : gH) (P : qP), mu P ≤ k → k < fu → MP h E kd th t0 P → PI E P → PT P →
    Sp (fM_runsAll_5 fu (oI (qnx (Er E) P.2.1 24)) h) (fun h' => MP h' E kd th t0 (qiter E k P)) := by
  intro k
  induction k with
  | zero =>
    intro fu h P hm hfu H hI hT
    obtain ⟨fu, rfl⟩ : ∃ f, fu = f + 1 := ⟨fu - 1, by omega⟩
    rw [qnx_none.mpr (mu_0 (P := P) (by omega))]
    unfold fM_runsAll_5
    exact Sp_pos rfl (Sp_some H)
  | succ k ih =>
    intro fu h P hm hfu H hI hT
    obtain ⟨fu, rfl⟩ : ∃ f, fu = f + 1 := ⟨fu - 1, by omega⟩
    rw [qiter]
    cases hq : qnx (Er E) P.2.1 24 with
    | none =>
      unfold fM_runsAll_5
      exact Sp_pos rfl (Sp_some H)
    | some r =>
      obtain ⟨h1, h2⟩ := qnx_lt hq
      have hlt := mu_lt hI hT h1 h2
      unfold fM_runsAll_5
      refine Sp_neg (neq_m1 (by omega)) (Sp_gg (gin_t h1 (by omega)) (Sp_let ?_))
      show Sp ((fM_prunes (nI r) (hu h 71 (nI r).toNatClampNeg 0)).bind _) _
      rw [clampn (by omega)]
      refine Sp_bind (mone H hI hT h1 h2 0).2 ?_
      rintro h6 - a
      have hI2 := qone_PI hI hT h1 h2
      refine Sp_eq (next_eq a.1.1 a.1.2 a.2.1.2.1 hI2.2.2) ?_
      exact ih fu h6 (qone E r P) (by omega) (by omega) a hI2 (qone_PT hI hT h1 h2)
theorem mruns_sp {E : qE} {kd : Nat → Nat} {h : gH} {th : Bool} {t0 : qT} {P : qP} (H : MP h E kd th t0 P) (hI : PI E P) (hT : PT P) :
    Sp (fM_runsAll h) (fun h' => MP h' E kd th t0 (qiter E 2024 P)) := by
  unfold fM_runsAll
  refine Sp_eq (next_eq H.1.1 H.1.2 H.2.1.2.1 hI.2.2) ?_
  exact mruns_loop 2024 gfu h P (mu_le P) (by unfold gfu; omega) H hI hT
