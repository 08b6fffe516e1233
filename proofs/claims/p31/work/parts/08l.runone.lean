/-! a rule runs: what it leaves of its variables, one after the other, until one is empty -/
abbrev qS : Type := (Nat → Nat → Bool) × Bool × qT × (Nat → Bool)
def pstep (K : Nat → Nat → Bool) (rs : Int32) (st : qS) (x : Nat) : qS :=
  if st.2.1 then st else (qnar st.1 x (K x), !qany (qnar st.1 x (K x) x), st.2.2.1 ++ qent x rs (fun v => st.1 x v && !K x v) 10 0, fun y => st.2.2.2 y || (decide (y = x) && qany (fun v => st.1 x v && !K x v)))
def wk (ch : Nat → Bool) (hv : Nat → Nat → Bool) (r : Nat) : Bool := (List.range 8).any (fun x => ch x && hv x r)
theorem wk_iff (ch : Nat → Bool) (hv : Nat → Nat → Bool) (r : Nat) : wk ch hv r = true ↔ ∃ x, x < 8 ∧ ch x = true ∧ hv x r = true := by
  unfold wk; simp [List.any_eq_true]
def rmv (vs : Nat → Bool) (k m : Nat) : List Nat := (List.range' k m).filter vs
theorem rmv_succ (vs : Nat → Bool) (k m : Nat) : rmv vs k (m + 1) = if vs k then k :: rmv vs (k + 1) m else rmv vs (k + 1) m := by
  unfold rmv; rw [List.range'_succ, List.filter_cons]
theorem vls_rmv (vs : Nat → Bool) : vls vs = rmv vs 0 8 := by unfold vls rmv; rw [List.range_eq_range']
theorem pstep_stop (K : Nat → Nat → Bool) (rs : Int32) (st : qS) (h : st.2.1 = true) : ∀ l : List Nat, l.foldl (pstep K rs) st = st := by
  intro l
  induction l with
  | nil => rfl
  | cons a l ih =>
    have : pstep K rs st a = st := by unfold pstep; rw [if_pos h]
    rw [List.foldl_cons, this]; exact ih
theorem ho17 {o : Nat} (ho : gHall o) : 17 ≤ o := by rcases ho with rfl | rfl | rfl | rfl <;> omega
theorem HX_congr {h : gH} {o : Nat} {D D2 : Nat → Nat → Bool} {Q Q2 : Nat → Bool} {f f2 : Bool} {t t2 : qT} {tk : Nat → Bool} (H : HX h o D Q f t tk) (hD : ∀ x, x < 8 → ∀ v, v < 10 → D2 x v = D x v) (hQ : ∀ r, r < 24 → Q2 r = Q r) (hf : f2 = f) (ht : t2 = t) : HX h o D2 Q2 f2 t2 tk := by
  subst hf; subst ht
  refine ⟨fun x hx => (H.1 x hx).trans (mkn_congr (fun v hv => (hD x hx v hv).symm)), H.2.1, H.2.2.1.trans (mkn_congr (fun r hr => (hQ r hr).symm)), H.2.2.2.1, H.2.2.2.2.1, H.2.2.2.2.2.1, H.2.2.2.2.2.2.1, H.2.2.2.2.2.2.2.1, fun x hx v hv => ?_⟩
  rw [hD x hx v hv]; exact H.2.2.2.2.2.2.2.2 x hx v hv
/-- the queue behind a run of rule r -/
def qafter (Q : Nat → Bool) (f : Bool) (w tk : Nat → Bool) (r : Nat) : Nat → Bool := fun i => !f && (Q i || (w i && !decide (i = r) && tk i))
theorem run179 {o r : Nat} (ho : gHall o) (hr : r < 24) {h : gH} {D : Nat → Nat → Bool} {Q w tk : Nat → Bool} {f : Bool} {t : qT} (H : HX h o D Q f t tk) :
    Sp (fH_runOne_179 o (nI r) (mkn 24 w) h) (fun p => (p.1 = nI r ∧ HX p.2 o D (qafter Q f w tk r) f t tk) ∧ p.2 o 8 = h o 8) := by
  obtain ⟨h1, h2, h3, h4, h5, h6, h7⟩ := H
  unfold fH_runOne_179
  rw [mkn_del (by omega) (by omega), wake_eq, h3, h4, h6]
  refine Sp_some ⟨⟨rfl, fun x hx => ?_, ?_, ?_, ?_, ⟨?_, fun i a hi => ?_⟩, ?_, h7⟩, by dsimp only; rw [hu_k _ _ _ _ (by omega)]⟩
  · dsimp only; rw [hu_o _ _ _ _ _ (by omega)]; exact h1 x hx
  · dsimp only; rw [hu_o _ _ _ _ _ (by omega)]; exact h2
  · dsimp only; rw [hu_same]
    cases f with
    | false => rw [if_pos (by decide), mkn_and (by omega), mkn_or (by omega)]; exact mkn_congr (fun i _ => by unfold qafter; simp)
    | true => rw [if_neg (by decide), mkn_0 24 (by omega)]; exact mkn_congr (fun i _ => by unfold qafter; simp)
  · dsimp only; rw [hu_k _ _ _ _ (by omega)]; exact h4
  · dsimp only; rw [hu_k _ _ _ _ (by omega)]; exact h5.1
  · dsimp only; rw [hu_o _ _ _ _ _ (by omega), hu_o _ _ _ _ _ (by omega)]; exact h5.2 i a hi
  · dsimp only; rw [hu_k _ _ _ _ (by omega)]; exact h6
theorem run95 {o r : Nat} (ho : gHall o) (hr : r < 24) {vs : Nat → Bool} {K D0 : Nat → Nat → Bool} {hv : Nat → Nat → Bool} {Q tk : Nat → Bool} (hK : ∀ u, u < 8 → vs u = true → ∀ v, v < 10 → K u v = true → D0 u v = true) : ∀ (m k fu : Nat) (h : gH) (st : qS), k + m = 8 → m < fu → HX h o st.1 Q st.2.1 st.2.2.1 tk → h 3 r = mkn 8 vs → (∀ x, x < 8 → h 5 x = mkn 24 (hv x)) → (∀ u, k ≤ u → u < 8 → vs u = true → h (o + 2) u = mkn 10 (K u)) → (∀ u, k ≤ u → u < 8 → ∀ v, v < 10 → st.1 u v = D0 u v) → (st.2.1 = false → ∀ x, x < 8 → qany (st.1 x) = true) →
    Sp (fH_runOne_95 o (nI r) fu (mkn 24 (wk st.2.2.2 hv)) (nI k) h) (fun p => (p.1 = nI r ∧ HX p.2 o ((rmv vs k m).foldl (pstep K (nI r)) st).1 (qafter Q ((rmv vs k m).foldl (pstep K (nI r)) st).2.1 (wk ((rmv vs k m).foldl (pstep K (nI r)) st).2.2.2 hv) tk r) ((rmv vs k m).foldl (pstep K (nI r)) st).2.1 ((rmv vs k m).foldl (pstep K (nI r)) st).2.2.1 tk) ∧ p.2 o 8 = h o 8) := by
  have h17 := ho17 ho
  intro m
  induction m with
  | zero =>
    intro k fu h st hk hfu H h3 h5 hs hD hne
    obtain ⟨fu, rfl⟩ : ∃ f, fu = f + 1 := ⟨fu - 1, by omega⟩
    have hk : k = 8 := by omega
    subst hk
    unfold fH_runOne_95
    refine Sp_neg (by decide) ?_
    exact run179 ho hr H
  | succ m ih =>
    intro k fu h st hk hfu H h3 h5 hs hD hne
    obtain ⟨fu, rfl⟩ : ∃ f, fu = f + 1 := ⟨fu - 1, by omega⟩
    have hk8 : k < 8 := by omega
    unfold fH_runOne_95
    refine Sp_pos (nltT hk8 (by decide)) ?_
    rw [H.2.2.2.1]
    cases hf : st.2.1 with
    | true =>
      refine Sp_neg (by decide) ?_
      rw [pstep_stop K (nI r) st hf]
      exact run179 ho hr H
    | false =>
      refine Sp_pos rfl (Sp_gg (gin_t hr (by omega)) ?_)
      rw [clampn (by omega), h3, mkn_test (by omega) hk8, rmv_succ]
      cases hv1 : vs k with
      | false =>
        refine Sp_neg (by simp) ?_
        rw [nadd_l, if_neg (by simp)]
        exact ih (k + 1) fu h st (by omega) (by omega) H h3 h5 (fun u h1 h2 h3 => hs u (by omega) h2 h3) (fun u h1 h2 => hD u (by omega) h2) hne
      | true =>
        refine Sp_pos (by simp) (Sp_gg (gin_t (by omega) (by omega)) (Sp_gg (gin_t (by omega) (by omega)) ?_))
        rw [clampn (by omega), hs k (Nat.le_refl _) hk8 hv1, H.1 k hk8, if_pos rfl, List.foldl_cons]
        have hsub : ∀ v, v < 10 → K k v = true → st.1 k v = true := fun v hv hkv => by rw [hD k (Nat.le_refl _) hk8 v hv]; exact hK k hk8 hv1 v hv hkv
        have est : pstep K (nI r) st k = (qnar st.1 k (K k), !qany (qnar st.1 k (K k) k), st.2.2.1 ++ qent k (nI r) (fun v => st.1 k v && !K k v) 10 0, fun y => st.2.2.2 y || (decide (y = k) && qany (fun v => st.1 k v && !K k v))) := by
          unfold pstep; rw [hf, if_neg (by simp)]
        rw [nadd_l]
        refine Sp_if (fun q => ?_) (fun q => ?_)
        · -- nothing goes
          have hq : ∀ v, v < 10 → st.1 k v = K k v := mkn_inj (by omega) q
          have hno : qany (fun v => st.1 k v && !K k v) = false := (qany_f _).mpr (fun v hv => by rw [hq v hv]; cases K k v <;> rfl)
          have hent : qent k (nI r) (fun v => st.1 k v && !K k v) 10 0 = [] := by
            have : ¬ 0 < (qent k (nI r) (fun v => st.1 k v && !K k v) 10 0).length := fun z => by rw [qent_nil, hno] at z; cases z
            exact List.length_eq_zero_iff.mp (by omega)
          have hsame : ∀ x, x < 8 → ∀ v, v < 10 → qnar st.1 k (K k) x v = st.1 x v := fun x _ v hv => by
            unfold qnar
            by_cases e : x = k
            · subst e; rw [if_pos rfl, ← hq v hv]; cases st.1 x v <;> rfl
            · rw [if_neg e]
          have hany : qany (qnar st.1 k (K k) k) = true := by rw [qany_congr (fun v hv => hsame k hk8 v hv)]; exact hne hf k hk8
          have hch : mkn 24 (wk st.2.2.2 hv) = mkn 24 (wk (pstep K (nI r) st k).2.2.2 hv) := by
            rw [est]; dsimp only; rw [hno]; congr 1; funext i; unfold wk; simp
          rw [hch]
          refine ih (k + 1) fu h (pstep K (nI r) st k) (by omega) (by omega) ?_ h3 h5 (fun u h1 h2 h3 => hs u (by omega) h2 h3) ?_ ?_
          · rw [est]; exact HX_congr H hsame (fun _ _ => rfl) (by rw [hany, hf]; rfl) (by rw [hent, List.append_nil])
          · intro u h1 h2 v hv2; rw [est]; exact (hsame u h2 v hv2).trans (hD u (by omega) h2 v hv2)
          · intro _ x hx; rw [est]; exact (qany_congr (fun v hv => hsame x hx v hv)).trans (hne hf x hx)
        · -- something goes
          have hyes : qany (fun v => st.1 k v && !K k v) = true := by
            cases hq : qany (fun v => st.1 k v && !K k v) with
            | true => rfl
            | false =>
              exfalso; apply q
              refine mkn_congr (fun v hv => ?_)
              have h1 := (qany_f _).mp hq v hv
              have h2 := hsub v hv
              revert h1 h2
              cases st.1 k v <;> cases K k v <;> simp
          refine Sp_gg (gin_t (by omega) (by omega)) (Sp_gg (gin_t (by omega) (by omega)) ?_)
          rw [mkn_dif (by omega)]
          refine Sp_bind (drop_sp ho hk8 (nI r) (K k) (H.1 k hk8) H.2.2.2.2.1 H.2.2.2.2.2.2) ?_
          rintro h' he ⟨a1, a2, a3, a4⟩
          have fr := fH_drop_fr ho he
          refine Sp_gg (gin_t (by omega) (by omega)) ?_
          have e5 : ∀ x, h' 5 x = h 5 x := fun x => fr 5 x (by simp; omega) (by simp; omega)
          rw [e5, h5 k hk8, mkn_or (by omega)]
          have hch : mkn 24 (fun i => wk st.2.2.2 hv i || hv k i) = mkn 24 (wk (pstep K (nI r) st k).2.2.2 hv) := mkn_congr (fun i _ => by
            rw [est]; dsimp only; rw [hyes, Bool.eq_iff_iff, Bool.or_eq_true, wk_iff, wk_iff]
            constructor
            · rintro (⟨x, g1, g2, g3⟩ | g)
              · exact ⟨x, g1, by simp [g2], g3⟩
              · exact ⟨k, hk8, by simp, g⟩
            · rintro ⟨x, g1, g2, g3⟩
              by_cases e : x = k
              · subst e; exact Or.inr g3
              · left; exact ⟨x, g1, by simpa [e] using g2, g3⟩)
          rw [hch, ← fr o 8 (by simp) (by simp)]
          refine ih (k + 1) fu h' (pstep K (nI r) st k) (by omega) (by omega) ?_ ?_ ?_ ?_ ?_ ?_
          · rw [est]
            dsimp only
            refine ⟨fun x hx => ?_, ?_, ?_, ?_, a2, ?_, H.2.2.2.2.2.2.drop hk8 (nI r) (K k)⟩
            · by_cases e : x = k
              · subst e; exact a1
              · rw [a3 x e, H.1 x hx]; exact mkn_congr (fun v _ => by unfold qnar; rw [if_neg e])
            · rw [a3 8 (by omega)]; exact H.2.1
            · rw [fr o 7 (by simp) (by simp)]; exact H.2.2.1
            · rw [a4, H.2.2.2.1, hf]
              cases qany (qnar st.1 k (K k) k) <;> simp [b2i]
            · rw [fr o 6 (by simp) (by simp)]; exact H.2.2.2.2.2.1
          · rw [fr 3 r (by simp; omega) (by simp; omega)]; exact h3
          · intro x hx; rw [e5]; exact h5 x hx
          · intro u h1 h2 h3
            rw [fr (o + 2) u (by simp) (by simp)]; exact hs u (by omega) h2 h3
          · intro u h1 h2 v hv2
            rw [est]
            have : u ≠ k := by omega
            show qnar st.1 k (K k) u v = D0 u v
            unfold qnar; rw [if_neg this]; exact hD u (by omega) h2 v hv2
          · intro hfl x hx
            rw [est] at hfl ⊢
            by_cases e : x = k
            · subst e; simpa using hfl
            · show qany (qnar st.1 k (K k) x) = true
              rw [qany_congr (g := st.1 x) (fun v _ => by unfold qnar; rw [if_neg e])]
              exact hne hf x hx

