/-! a run comes to an end -/
theorem fold_ind {K : Nat → Nat → Bool} {rs : Int32} (C : qS → Prop) (vs : Nat → Bool) (hstep : ∀ st x, x < 8 → vs x = true → C st → C (pstep K rs st x)) : ∀ (l : List Nat), (∀ x ∈ l, x < 8 ∧ vs x = true) → ∀ st, C st → C (l.foldl (pstep K rs) st) := by
  intro l
  induction l with
  | nil => intro _ st h; exact h
  | cons a l ih =>
    intro hl st h
    rw [List.foldl_cons]
    have ha := hl a List.mem_cons_self
    exact ih (fun x hx => hl x (List.mem_cons_of_mem _ hx)) _ (hstep st a ha.1 ha.2 h)
theorem vls_fold_ind {K : Nat → Nat → Bool} {rs : Int32} (C : qS → Prop) (vs : Nat → Bool) (st : qS) (h0 : C st) (hstep : ∀ st x, x < 8 → vs x = true → C st → C (pstep K rs st x)) : C ((vls vs).foldl (pstep K rs) st) :=
  fold_ind C vs hstep (vls vs) (fun x hx => (mem_vls vs x).mp hx) st h0
/-- what a run keeps: the trail is well formed and grows where something goes; while nothing failed no domain is empty -/
def pinv (n0 : Nat) (st : qS) : Prop := TW st.1 st.2.2.1 ∧ n0 ≤ st.2.2.1.length ∧ ((∀ x, st.2.2.2 x = false) ∨ n0 < st.2.2.1.length) ∧ (st.2.1 = false → ∀ x, x < 8 → qany (st.1 x) = true)
theorem pinv_step {K : Nat → Nat → Bool} {rs : Int32} {n0 : Nat} {st : qS} {x : Nat} (hx : x < 8) (h : pinv n0 st) : pinv n0 (pstep K rs st x) := by
  unfold pstep
  cases hf : st.2.1 with
  | true => rw [if_pos rfl]; exact h
  | false =>
    rw [if_neg (by simp)]
    obtain ⟨h1, h2, h3, h4⟩ := h
    have hl := h4 hf
    refine ⟨h1.drop hx rs (K x), by dsimp only; rw [List.length_append]; omega, ?_, ?_⟩
    · dsimp only
      rw [List.length_append]
      cases hc : qany (fun v => st.1 x v && !K x v) with
      | true => right; have := (qent_nil (x := x) (rs := rs)).mpr hc; omega
      | false =>
        rcases h3 with h3 | h3
        · left; intro y; rw [h3 y]; simp
        · right; omega
    · dsimp only
      intro hq y hy
      by_cases e : y = x
      · subst e; simpa using hq
      · rw [qany_congr (g := st.1 y) (fun v _ => by unfold qnar; rw [if_neg e])]; exact hl y hy
def PT (P : qP) : Prop := TW P.1 P.2.2.2
def mu (P : qP) : Nat := 25 * (80 - P.2.2.2.length) + qcnt P.2.1 24
theorem qone_inv {E : qE} {r : Nat} {P : qP} (hI : PI E P) (hT : PT P) (hf : P.2.2.1 = false) : pinv P.2.2.2.length ((vls (Ev E r)).foldl (pstep (Kp E r P.1) (nI r)) (P.1, false, P.2.2.2, fun _ => false)) :=
  vls_fold_ind (pinv P.2.2.2.length) _ _ ⟨hT, Nat.le_refl _, Or.inl (fun _ => rfl), fun _ => hI.1 hf⟩ (fun _ _ hx _ h => pinv_step hx h)
theorem PI_f {E : qE} {P : qP} (hI : PI E P) {r : Nat} (hr : r < 24) (hQ : P.2.1 r = true) : P.2.2.1 = false := by
  cases hf : P.2.2.1 with
  | false => rfl
  | true => rw [hI.2.1 hf r hr] at hQ; cases hQ
theorem qone_PI {E : qE} {r : Nat} {P : qP} (hI : PI E P) (hT : PT P) (hr : r < 24) (hQ : P.2.1 r = true) : PI E (qone E r P) := by
  have hv := qone_inv (r := r) hI hT (PI_f hI hr hQ)
  refine ⟨hv.2.2.2, fun h i hi => ?_, fun i hi h => ?_⟩
  · unfold qone at h ⊢
    dsimp only at h ⊢
    unfold qafter
    rw [h]; rfl
  · unfold qone at h
    dsimp only at h
    unfold qafter at h
    simp only [Bool.and_eq_true, Bool.or_eq_true] at h
    rcases h.2 with h | h
    · exact hI.2.2 i hi h.1
    · exact h.2
theorem qone_PT {E : qE} {r : Nat} {P : qP} (hI : PI E P) (hT : PT P) (hr : r < 24) (hQ : P.2.1 r = true) : PT (qone E r P) := (qone_inv (r := r) hI hT (PI_f hI hr hQ)).1
theorem qcnt_mono {f g : Nat → Bool} : ∀ k, (∀ i, i < k → f i = true → g i = true) → qcnt f k ≤ qcnt g k := by
  intro k
  induction k with
  | zero => intro _; exact Nat.le_refl _
  | succ k ih =>
    intro h
    have h1 := ih (fun i hi => h i (by omega))
    have h2 := h k (by omega)
    rw [qcnt, qcnt]
    cases hf : f k with
    | false => simp; omega
    | true => rw [h2 hf]; simp; omega
theorem mu_lt {E : qE} {r : Nat} {P : qP} (hI : PI E P) (hT : PT P) (hr : r < 24) (hQ : P.2.1 r = true) : mu (qone E r P) < mu P := by
  have hv := qone_inv (r := r) hI hT (PI_f hI hr hQ)
  have hlen := hv.1.len
  have hc24 := qcnt_le (qone E r P).2.1 24
  unfold mu
  have e1 : (qone E r P).2.2.2 = ((vls (Ev E r)).foldl (pstep (Kp E r P.1) (nI r)) (P.1, false, P.2.2.2, fun _ => false)).2.2.1 := rfl
  rw [e1]
  rcases hv.2.2.1 with h | h
  · have hle := hv.2.1
    have h2 : qcnt (qone E r P).2.1 24 ≤ qcnt (fun i => P.2.1 i && !decide (i = r)) 24 := by
      refine qcnt_mono 24 (fun i hi hq => ?_)
      have : wk ((vls (Ev E r)).foldl (pstep (Kp E r P.1) (nI r)) (P.1, false, P.2.2.2, fun _ => false)).2.2.2 (fun x i => Ev E i x) i = false := by
        cases hw : wk ((vls (Ev E r)).foldl (pstep (Kp E r P.1) (nI r)) (P.1, false, P.2.2.2, fun _ => false)).2.2.2 (fun x i => Ev E i x) i with
        | false => rfl
        | true =>
          obtain ⟨x, g1, g2, g3⟩ := (wk_iff _ _ _).mp hw
          rw [h x] at g2; cases g2
      unfold qone at hq
      dsimp only at hq
      unfold qafter at hq
      rw [this] at hq
      simp only [Bool.and_eq_true, Bool.or_eq_true, Bool.false_and, Bool.or_false] at hq
      simp only [Bool.and_eq_true]; exact hq.2
    have h3 := qcnt_del P.2.1 r hQ 24 hr
    omega
  · have := hT.len
    omega
/-- the ordered run -/
def qiter (E : qE) : Nat → qP → qP
  | 0, P => P
  | k + 1, P => match qnx (Er E) P.2.1 24 with
    | none => P
    | some r => qiter E k (qone E r P)
def qlen (E : qE) : Nat → qP → Nat
  | 0, _ => 0
  | k + 1, P => match qnx (Er E) P.2.1 24 with
    | none => 0
    | some r => 1 + qlen E k (qone E r P)
theorem mu_le (P : qP) : mu P ≤ 2024 := by
  have := qcnt_le P.2.1 24
  unfold mu; omega
theorem mu_0 {P : qP} (h : mu P = 0) : ∀ i, i < 24 → P.2.1 i = false := by
  have : qcnt P.2.1 24 = 0 := by unfold mu at h; omega
  exact (qcnt_0 _ 24).mp this
/-- at the end nobody waits -/
theorem qiter_done (E : qE) : ∀ (k : Nat) (P : qP), PI E P → PT P → mu P ≤ k → PI E (qiter E k P) ∧ PT (qiter E k P) ∧ ∀ r, r < 24 → (qiter E k P).2.1 r = false := by
  intro k
  induction k with
  | zero => intro P hI hT hm; exact ⟨hI, hT, mu_0 (P := P) (by omega)⟩
  | succ k ih =>
    intro P hI hT hm
    rw [qiter]
    cases hq : qnx (Er E) P.2.1 24 with
    | none => exact ⟨hI, hT, qnx_none.mp hq⟩
    | some r =>
      obtain ⟨h1, h2⟩ := qnx_lt hq
      have := mu_lt hI hT h1 h2
      exact ih _ (qone_PI hI hT h1 h2) (qone_PT hI hT h1 h2) (by omega)
theorem runOne_sp {o : Nat} (ho : gHall o) {E : qE} {h : gH} {P : qP} (hE : XE h E) (H : HP h o E P) (hI : PI E P) (hs : h o 10 = 0) :
    Sp (fH_runOne o h) (fun p => match qnx (Er E) P.2.1 24 with
      | none => p = (-1, h)
      | some r => p.1 = nI r ∧ HP p.2 o E (qone E r P) ∧ p.2 o 8 = h o 8 + 1) := by
  unfold fH_runOne
  rw [hs]
  refine Sp_pos rfl ?_
  rw [ordered_sp (pr := Er E) H.2.2.1 (fun r hr hq => hE.2.2.2.2.2.1 r (hI.2.2 r hr hq))]
  refine Sp_bind (Sp_some rfl) ?_
  rintro p - rfl
  dsimp only
  cases hq : qnx (Er E) P.2.1 24 with
  | none =>
    unfold fH_runOne_18
    refine Sp_pos rfl (Sp_some rfl)
  | some r =>
    obtain ⟨h1, h2⟩ := qnx_lt hq
    exact run18 ho hE H hI h1 h2
theorem runAll_loop {o : Nat} (ho : gHall o) {E : qE} : ∀ (k fu c : Nat) (h : gH) (P : qP), mu P ≤ k → k < fu → c + k < 1000000 → XE h E → HP h o E P → PI E P → h o 10 = 0 →
    Sp (fH_runAll_2 o fu (nI c) h) (fun p => p.1 = nI (c + qlen E k P) ∧ HP p.2 o E (qiter E k P) ∧ p.2 o 8 = h o 8 + nI (qlen E k P)) := by
  have h17 := ho17 ho
  intro k
  induction k with
  | zero =>
    intro fu c h P hm hfu hc hE H hI hs
    obtain ⟨fu, rfl⟩ : ∃ f, fu = f + 1 := ⟨fu - 1, by omega⟩
    unfold fH_runAll_2
    refine Sp_pos (nltT (show c < 1000000 by omega) (by decide)) ?_
    have h0 : h o 7 = 0 := by rw [H.2.2.1, mkn_zero (by omega)]; exact mu_0 (by omega)
    refine Sp_pos h0 (Sp_some ⟨rfl, H, ?_⟩)
    show h o 8 = h o 8 + 0
    rw [Int32.add_zero]
  | succ k ih =>
    intro fu c h P hm hfu hc hE H hI hs
    obtain ⟨fu, rfl⟩ : ∃ f, fu = f + 1 := ⟨fu - 1, by omega⟩
    unfold fH_runAll_2
    refine Sp_pos (nltT (show c < 1000000 by omega) (by decide)) ?_
    rw [qlen, qiter]
    cases hq : qnx (Er E) P.2.1 24 with
    | none =>
      have h0 : h o 7 = 0 := by rw [H.2.2.1, mkn_zero (by omega)]; exact qnx_none.mp hq
      refine Sp_pos h0 (Sp_some ⟨rfl, H, ?_⟩)
      show h o 8 = h o 8 + 0
      rw [Int32.add_zero]
    | some r =>
      obtain ⟨h1, h2⟩ := qnx_lt hq
      have h0 : ¬ h o 7 = 0 := fun z => by
        rw [H.2.2.1, mkn_zero (by omega)] at z
        rw [z r h1] at h2; cases h2
      refine Sp_neg h0 ?_
      have hT : PT P := H.2.2.2.2.2.2
      have hlt := mu_lt hI hT h1 h2
      have hone := runOne_sp ho hE H hI hs
      rw [hq] at hone
      refine Sp_bind (Sp_and hone (fun _ e => fH_runOne_fr ho e)) ?_
      rintro p - ⟨⟨a1, a2, a3⟩, fr⟩
      have hoth : ∀ b k, b < 17 → p.2 b k = h b k := fun b k hb => fr b k (by simp; omega) (by simp; omega)
      have hs2 : p.2 o 10 = 0 := by rw [fr o 10 (by simp) (by simp)]; exact hs
      have hE2 : XE p.2 E := XE_fr hE (hoth 1 8 (by omega)) (funext fun k => hoth 3 k (by omega)) (funext fun k => hoth 4 k (by omega)) (funext fun k => hoth 5 k (by omega)) (funext fun k => hoth 6 k (by omega)) (funext fun k => hoth 7 k (by omega)) (funext fun k => hoth 8 k (by omega))
      rw [nadd_l]
      refine Sp_mono (ih fu (c + 1) p.2 (qone E r P) (by omega) (by omega) (by omega) hE2 a2 (qone_PI hI hT h1 h2) hs2) ?_
      rintro p2 ⟨b1, b2, b3⟩
      refine ⟨?_, b2, ?_⟩
      · rw [b1]; congr 1; dsimp only; omega
      · rw [b3, a3]; dsimp only
        rw [← nI_add, Int32.add_assoc]; rfl
theorem runAll_sp {o : Nat} (ho : gHall o) {E : qE} {h : gH} {P : qP} (hE : XE h E) (H : HP h o E P) (hI : PI E P) (hs : h o 10 = 0) :
    Sp (fH_runAll o h) (fun p => p.1 = nI (qlen E 2024 P) ∧ HP p.2 o E (qiter E 2024 P) ∧ p.2 o 8 = h o 8 + nI (qlen E 2024 P)) := by
  unfold fH_runAll
  refine Sp_mono (runAll_loop ho 2024 gfu 0 h P (mu_le P) (by unfold gfu; omega) (by omega) hE H hI hs) ?_
  rintro p ⟨a1, a2⟩
  exact ⟨by rw [a1, Nat.zero_add], a2⟩

