/-! the rules as they are: n of texts, l learned; variables, tables, values, priorities -/
abbrev qE : Type := Nat × Nat × (Nat → Nat → Bool) × (Nat → Nat → Nat → Nat → Bool) × (Nat → Nat → Nat) × (Nat → Nat) × (Nat → Bool)
def En (E : qE) : Nat := E.1
def El (E : qE) : Nat := E.2.1
def Ev (E : qE) : Nat → Nat → Bool := E.2.2.1
def ET (E : qE) : Nat → Nat → Nat → Nat → Bool := E.2.2.2.1
def Ep (E : qE) : Nat → Nat → Nat := E.2.2.2.2.1
def Er (E : qE) : Nat → Nat := E.2.2.2.2.2.1
def Eac (E : qE) : Nat → Bool := E.2.2.2.2.2.2
def Eact (E : qE) : Nat → Bool := fun r => qact (En E) (El E) 0 r && Eac E r
def XE (h : gH) (E : qE) : Prop :=
  En E ≤ 16 ∧ El E ≤ 8 ∧ h 1 8 = nI (En E) ∧ (∀ r, r < En E → XRr h r (Ev E r) (ET E r)) ∧ (∀ j, j < El E → XNr h (16 + j) (Ev E (16 + j)) (Ep E (16 + j))) ∧ (∀ r, Eact E r = true → h 4 r = nI (Er E r) ∧ Er E r < 100) ∧ ∀ x, x < 8 → h 5 x = mkn 24 (bt (h 5 x)) ∧ ∀ r, Eact E r = true → bt (h 5 x) r = Ev E r x
theorem XE_fr {h h1 : gH} {E : qE} (H : XE h E) (h18 : h1 1 8 = h 1 8) (h3 : h1 3 = h 3) (h4 : h1 4 = h 4) (h5 : h1 5 = h 5) (h6 : h1 6 = h 6) (h7 : h1 7 = h 7) (h8 : h1 8 = h 8) : XE h1 E := by
  obtain ⟨a1, a2, a3, a4, a5, a6, a7⟩ := H
  refine ⟨a1, a2, by rw [h18]; exact a3, fun r hr => ?_, fun j hj => ?_, fun r hr => by rw [h4]; exact a6 r hr, fun x hx => by rw [h5]; exact a7 x hx⟩
  · have := a4 r hr
    unfold XRr at this ⊢
    rw [h3, h6, h7]; exact this
  · have := a5 j hj
    unfold XNr at this ⊢
    rw [h3, h8]; exact this
/-- what rule r leaves -/
def Kp (E : qE) (r : Nat) (D : Nat → Nat → Bool) : Nat → Nat → Bool := if r < 16 then kpS (Ev E r) (ET E r) D else kpN (Ev E r) (Ep E r) D
abbrev qP : Type := (Nat → Nat → Bool) × (Nat → Bool) × Bool × qT
def qone (E : qE) (r : Nat) (P : qP) : qP :=
  let st := (vls (Ev E r)).foldl (pstep (Kp E r P.1) (nI r)) (P.1, false, P.2.2.2, fun _ => false)
  (st.1, qafter (fun i => P.2.1 i && !decide (i = r)) st.2.1 (wk st.2.2.2 (fun x i => Ev E i x)) (Eact E) r, st.2.1, st.2.2.1)
/-- a picture that makes sense: while nothing failed no domain is empty; failed, nobody waits; who waits counts -/
def PI (E : qE) (P : qP) : Prop := (P.2.2.1 = false → ∀ x, x < 8 → qany (P.1 x) = true) ∧ (P.2.2.1 = true → ∀ r, r < 24 → P.2.1 r = false) ∧ ∀ r, r < 24 → P.2.1 r = true → Eact E r = true
def HP (h : gH) (o : Nat) (E : qE) (P : qP) : Prop := HX h o P.1 P.2.1 P.2.2.1 P.2.2.2 (Eact E)
theorem sA_sub0 {e0 e1 e2 : Nat → Bool} {W : Nat → Nat → Nat → Bool} {v : Nat} (h : sA0 e0 e1 e2 W v = true) : e0 v = true := by unfold sA0 at h; simp at h; exact h.1
theorem sA_sub1 {e0 e1 e2 : Nat → Bool} {W : Nat → Nat → Nat → Bool} {v : Nat} (h : sA1 e0 e1 e2 W v = true) : e1 v = true := by unfold sA1 at h; simp at h; exact h.1
theorem sA_sub2 {e0 e1 e2 : Nat → Bool} {W : Nat → Nat → Nat → Bool} {v : Nat} (h : sA2 e0 e1 e2 W v = true) : e2 v = true := by unfold sA2 at h; simp at h; exact h.1
theorem kpS_sub {vs : Nat → Bool} {T : Nat → Nat → Nat → Bool} {D : Nat → Nat → Bool} {u v : Nat} (hc : (vls vs).length ≤ 3) (hu : u < 8) (hv : vs u = true) (h : kpS vs T D u v = true) : D u v = true := by
  have dd : ∀ s, u = s → dsl D s v = true → D u v = true := fun s e q => by
    subst e; unfold dsl at q; rw [if_neg (by omega)] at q; exact q
  unfold kpS at h
  by_cases e2 : u = slt vs 2
  · rw [if_pos e2] at h; exact dd _ e2 (sA_sub2 h)
  · rw [if_neg e2] at h
    by_cases e1 : u = slt vs 1
    · rw [if_pos e1] at h; exact dd _ e1 (sA_sub1 h)
    · rw [if_neg e1] at h
      rcases slt_of hc hu hv with e | e | e
      · exact dd _ e (sA_sub0 h)
      · exact absurd e e1
      · exact absurd e e2
theorem Eact_lt {E : qE} (h1 : En E ≤ 16) (h2 : El E ≤ 8) {r : Nat} (h : Eact E r = true) : r < 24 ∧ (r < En E ∨ (16 ≤ r ∧ r < 16 + El E)) := by
  unfold Eact qact at h
  simp only [Bool.and_eq_true, Bool.or_eq_true, decide_eq_true_eq] at h
  omega
theorem Kp_sub {h : gH} {E : qE} (hE : XE h E) {r : Nat} (ha : Eact E r = true) (D : Nat → Nat → Bool) : ∀ u, u < 8 → Ev E r u = true → ∀ v, v < 10 → Kp E r D u v = true → D u v = true := by
  intro u hu hv v _ hk
  have hl := Eact_lt hE.1 hE.2.1 ha
  unfold Kp at hk
  by_cases hr : r < 16
  · rw [if_pos hr] at hk
    exact kpS_sub (hE.2.2.2.1 r (by omega)).2.1 hu hv hk
  · rw [if_neg hr] at hk
    unfold kpN at hk; simp at hk; exact hk.1
theorem run91 {o r : Nat} (ho : gHall o) {E : qE} {h : gH} {D : Nat → Nat → Bool} {Q : Nat → Bool} {t : qT} (hE : XE h E) (ha : Eact E r = true) (H : HX h o D Q false t (Eact E)) (hs : ∀ u, u < 8 → Ev E r u = true → h (o + 2) u = mkn 10 (Kp E r D u)) (hne : ∀ x, x < 8 → qany (D x) = true) :
    Sp (fH_runOne_91 o (nI r) h) (fun p => (p.1 = nI r ∧ HX p.2 o ((vls (Ev E r)).foldl (pstep (Kp E r D) (nI r)) (D, false, t, fun _ => false)).1 (qafter Q ((vls (Ev E r)).foldl (pstep (Kp E r D) (nI r)) (D, false, t, fun _ => false)).2.1 (wk ((vls (Ev E r)).foldl (pstep (Kp E r D) (nI r)) (D, false, t, fun _ => false)).2.2.2 (fun x i => Ev E i x)) (Eact E) r) ((vls (Ev E r)).foldl (pstep (Kp E r D) (nI r)) (D, false, t, fun _ => false)).2.1 ((vls (Ev E r)).foldl (pstep (Kp E r D) (nI r)) (D, false, t, fun _ => false)).2.2.1 (Eact E)) ∧ p.2 o 8 = h o 8) := by
  have hl := Eact_lt hE.1 hE.2.1 ha
  have h3 : h 3 r = mkn 8 (Ev E r) := by
    rcases hl.2 with q | q
    · exact (hE.2.2.2.1 r q).1
    · have := (hE.2.2.2.2.1 (r - 16) (by omega)).1
      rw [show 16 + (r - 16) = r by omega] at this; exact this
  unfold fH_runOne_91
  have z : (0 : Int32) = mkn 24 (wk (fun _ => false) (fun x => bt (h 5 x))) := by
    rw [mkn_0 24 (by omega)]; exact mkn_congr (fun i _ => by unfold wk; simp)
  have key := run95 ho hl.1 (vs := Ev E r) (K := Kp E r D) (D0 := D) (hv := fun x => bt (h 5 x)) (Q := Q) (tk := Eact E) (Kp_sub hE ha D) 8 0 gfu h (D, false, t, fun _ => false) (by omega) (by unfold gfu; omega) H h3 (fun x hx => (hE.2.2.2.2.2.2 x hx).1) (fun u _ hu hv => hs u hu hv) (fun _ _ _ _ _ => rfl) (fun _ x hx => hne x hx)
  rw [← vls_rmv] at key
  dsimp only at key
  rw [← z] at key
  refine Sp_mono key ?_
  rintro p ⟨⟨a1, a2⟩, a3⟩
  refine ⟨⟨a1, HX_congr a2 (fun _ _ _ _ => rfl) (fun i hi => ?_) rfl rfl⟩, a3⟩
  unfold qafter
  cases hai : Eact E i with
  | false => simp
  | true =>
    congr 2
    rw [Bool.and_true, Bool.and_true]
    congr 1
    rw [Bool.eq_iff_iff, wk_iff, wk_iff]
    constructor
    · rintro ⟨x, g1, g2, g3⟩; exact ⟨x, g1, g2, by rw [(hE.2.2.2.2.2.2 x g1).2 i hai]; exact g3⟩
    · rintro ⟨x, g1, g2, g3⟩; exact ⟨x, g1, g2, by rw [(hE.2.2.2.2.2.2 x g1).2 i hai] at g3; exact g3⟩
theorem run18 {o r : Nat} (ho : gHall o) {E : qE} {h : gH} {P : qP} (hE : XE h E) (H : HP h o E P) (hI : PI E P) (hr : r < 24) (hQ : P.2.1 r = true) :
    Sp (fH_runOne_18 o (nI r) h) (fun p => p.1 = nI r ∧ HP p.2 o E (qone E r P) ∧ p.2 o 8 = h o 8 + 1) := by
  have h17 := ho17 ho
  have hf : P.2.2.1 = false := by
    cases hf : P.2.2.1 with
    | false => rfl
    | true => rw [hI.2.1 hf r hr] at hQ; cases hQ
  have ha := hI.2.2 r hr hQ
  have hl := Eact_lt hE.1 hE.2.1 ha
  unfold HP at H
  rw [hf] at H
  obtain ⟨h1, h2, h3, h4, h5, h6, h7⟩ := H
  unfold fH_runOne_18
  refine Sp_neg (neq_m1 (by omega)) (Sp_let (Sp_let ?_))
  rw [h3, mkn_del (by omega) (by omega)]
  obtain ⟨ha0, hA⟩ : ∃ x, x = hu (hu h o 7 (mkn 24 (fun i => P.2.1 i && !decide (i = r)))) o 8 (hu h o 7 (mkn 24 (fun i => P.2.1 i && !decide (i = r))) o 8 + 1) := ⟨_, rfl⟩
  rw [← hA]
  have hoth : ∀ b, b ≠ o → ha0 b = h b := fun b hb => by rw [hA, hu_ne hb, hu_ne hb]
  have hEa : XE ha0 E := XE_fr hE (by rw [hoth 1 (by omega)]) (hoth 3 (by omega)) (hoth 4 (by omega)) (hoth 5 (by omega)) (hoth 6 (by omega)) (hoth 7 (by omega)) (hoth 8 (by omega))
  have hHa : HX ha0 o P.1 (fun i => P.2.1 i && !decide (i = r)) false P.2.2.2 (Eact E) := by
    refine ⟨fun x hx => by rw [hoth _ (by omega)]; exact h1 x hx, by rw [hoth _ (by omega)]; exact h2, ?_, ?_, ⟨?_, fun i a hi => by rw [hoth _ (by omega), hoth _ (by omega)]; exact h5.2 i a hi⟩, ?_, h7⟩
    · rw [hA, hu_k _ _ _ _ (by omega), hu_same]
    · rw [hA, hu_k _ _ _ _ (by omega), hu_k _ _ _ _ (by omega)]; exact h4
    · rw [hA, hu_k _ _ _ _ (by omega), hu_k _ _ _ _ (by omega)]; exact h5.1
    · rw [hA, hu_k _ _ _ _ (by omega), hu_k _ _ _ _ (by omega)]; exact h6
  have h8a : ha0 o 8 = h o 8 + 1 := by rw [hA, hu_same, hu_k _ _ _ _ (by omega)]
  -- behind the sieve
  have fin : ∀ hb : gH, (∀ u, u < 8 → Ev E r u = true → hb (o + 2) u = mkn 10 (Kp E r P.1 u)) → (∀ b, b ≠ o + 2 → hb b = ha0 b) → Sp (fH_runOne_91 o (nI r) hb) (fun p => p.1 = nI r ∧ HP p.2 o E (qone E r P) ∧ p.2 o 8 = h o 8 + 1) := by
    intro hb hs hbo
    have hEb : XE hb E := XE_fr hEa (by rw [hbo 1 (by omega)]) (hbo 3 (by omega)) (hbo 4 (by omega)) (hbo 5 (by omega)) (hbo 6 (by omega)) (hbo 7 (by omega)) (hbo 8 (by omega))
    have hHb : HX hb o P.1 (fun i => P.2.1 i && !decide (i = r)) false P.2.2.2 (Eact E) := by
      obtain ⟨g1, g2, g3, g4, g5, g6, g7⟩ := hHa
      exact ⟨fun x hx => by rw [hbo _ (by omega)]; exact g1 x hx, by rw [hbo _ (by omega)]; exact g2, by rw [hbo _ (by omega)]; exact g3, by rw [hbo _ (by omega)]; exact g4, ⟨by rw [hbo _ (by omega)]; exact g5.1, fun i a hi => by rw [hbo _ (by omega), hbo _ (by omega)]; exact g5.2 i a hi⟩, by rw [hbo _ (by omega)]; exact g6, g7⟩
    refine Sp_mono (run91 ho hEb ha hHb hs (hI.1 hf)) ?_
    rintro p ⟨⟨a1, a2⟩, a3⟩
    refine ⟨a1, a2, ?_⟩
    rw [a3, hbo _ (by omega)]; exact h8a
  refine Sp_if (fun q => ?_) (fun q => ?_)
  · have hr16 : r < 16 := (nlt_l (by omega) (by decide)).mp q
    refine Sp_bind (sift_sp ho hr16 (hEa.2.2.2.1 r (by omega)) (fun x hx => hHa.1 x hx) hHa.2.1) ?_
    rintro hb - ⟨b1, b2⟩
    exact fin hb (fun u hu hv => by rw [b1 u hu hv]; unfold Kp; rw [if_pos hr16]) b2
  · have hr16 : ¬ r < 16 := fun z => q (nltT z (by decide))
    have e16 : 16 + (r - 16) = r := by omega
    have hn16 := hE.1
    have hN := hEa.2.2.2.2.1 (r - 16) (by omega)
    rw [e16] at hN
    have hsp := siftL_sp (j := r - 16) ho (by omega) (D := P.1) (h := ha0) (vs := Ev E r) (pv := Ep E r) (by rw [e16]; exact hN) (fun x hx => hHa.1 x hx)
    rw [e16] at hsp
    refine Sp_bind hsp ?_
    rintro hb - ⟨b1, b2⟩
    exact fin hb (fun u hu hv => by rw [b1 u hu hv]; unfold Kp; rw [if_neg hr16]) b2

