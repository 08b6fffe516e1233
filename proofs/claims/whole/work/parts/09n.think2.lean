theorem Mwhy65 {S : qW} (W : WI S) {v1 v2 : Int32} (hv : v1 = -1 ∨ vis 8 v1 = true ∧ vis 10 v2 = true) {h0 : gH} (H0 : MC h0 S.1 S.2.1) : ∀ (m k fu : Nat) (a : Int32) (h : gH), k + m = S.2.1.2.1.1 → m < fu → TH h0 S.1 S.2.1 h → Sp (fM_why_65 v1 v2 1 fu a (nI k) h) (fun p => p.1 = whyf S v1 v2 k m a ∧ MC p.2 S.1 S.2.1) := by
  have hd12 := W.2.2.1
  intro m
  induction m with
  | zero =>
    intro k fu a h hk hfu H
    obtain ⟨fu, rfl⟩ : ∃ f, fu = f + 1 := ⟨fu - 1, by omega⟩
    have e : h 65 12 = nI S.2.1.2.1.1 := H.2.2.2.2.2.2.2.1.2.1
    unfold fM_why_65 fM_why_121
    refine Sp_neg (by rw [e]; exact nI_nlt (by omega) (by omega)) (Sp_bind (TH_back H H0) (fun h1 _ q => ?_))
    exact Sp_neg (by decide) (Sp_some ⟨rfl, q.1⟩)
  | succ m ih =>
    intro k fu a h hk hfu H
    obtain ⟨fu, rfl⟩ : ∃ f, fu = f + 1 := ⟨fu - 1, by omega⟩
    have e : h 65 12 = nI S.2.1.2.1.1 := H.2.2.2.2.2.2.2.1.2.1
    unfold fM_why_65 whyf
    refine Sp_pos (by rw [e]; exact (nlt (by omega) (by omega)).mpr (by omega)) (Sp_neg (by decide) (Sp_bind (TH_starts H (bitoff a k) (b := none) (fun b0 z => by cases z)) (fun h1 _ q => ?_)))
    obtain ⟨q1, q2⟩ := q
    refine Sp_eq (M_isGone (S := S) (bitoff a k) v1 v2 q2 hv) ?_
    dsimp only
    unfold fM_why_114
    rw [nadd_l k 1]
    cases hg : s_gone S (bitoff a k) v1 v2 with
    | true =>
      rw [if_pos (show true = true from rfl)]
      exact Sp_neg (by decide) (ih (k + 1) fu _ _ (by omega) (by omega) q1)
    | false =>
      rw [if_neg (show ¬ false = true by decide)]
      exact Sp_pos rfl (ih (k + 1) fu _ _ (by omega) (by omega) q1)
theorem BM_same {h h1 : gH} {S : qW} {W : List Nat} {F : List (Nat × Nat)} (H : BM h S) (a : gfr W F h h1) (w : W.all (fun b => decide (65 < b ∧ b ≠ 79 ∧ b ≤ 90)) = true) (f : F.all (fun c => decide (c.1 = 65 ∧ c.2 ≠ 22 ∧ c.2 < 70)) = true) (C : MC h1 S.1 S.2.1) (z : ZB h1) : BM h1 S := BM_core H a w f C z
theorem M_why {h : gH} {S : qW} (H : BM h S) (W : WI S) (v1 v2 : Int32) : Sp (fM_why v1 v2 h) (fun p => p.1 = s_why S v1 v2 ∧ BM p.2 S) := by
  have hd12 := W.2.2.1
  refine Sp_to (Q := fun p => p.1 = s_why S v1 v2 ∧ MC p.2 S.1 S.2.1) ?_ (fun p e q => ⟨q.1, BM_same H (fM_why_fr e) (by decide) (by decide) q.2 (fM_why_zb H.2.2.2.2 e)⟩)
  have key : (v1 = -1 ∨ vis 8 v1 = true ∧ vis 10 v2 = true) → Sp (fM_why_34 v1 v2 h) (fun p => p.1 = (if s_gone S (allm S.2.1.2.1.1) v1 v2 = true then whyf S v1 v2 0 S.2.1.2.1.1 (allm S.2.1.2.1.1) else -1) ∧ MC p.2 S.1 S.2.1) := by
    intro hv
    unfold fM_why_34
    refine Sp_bind (TH_aside H.1 H.2.2.2.2) (fun h1 _ T => ?_)
    have e : h1 65 12 = nI S.2.1.2.1.1 := T.2.2.2.2.2.2.2.1.2.1
    rw [e]
    refine Sp_bind (TH_starts T (allm S.2.1.2.1.1) (b := none) (fun b0 z => by cases z)) (fun h2 _ q => ?_)
    obtain ⟨q1, q2⟩ := q
    refine Sp_eq (M_isGone (S := S) (allm S.2.1.2.1.1) v1 v2 q2 hv) ?_
    dsimp only
    cases hg : s_gone S (allm S.2.1.2.1.1) v1 v2 with
    | true =>
      rw [if_pos (show true = true from rfl)]
      have m0 := Mwhy65 W hv H.1 S.2.1.2.1.1 0 gfu (allm S.2.1.2.1.1) h2 (by omega) (by unfold gfu; omega) q1
      rw [nI_0] at m0
      exact m0
    | false =>
      rw [if_neg (show ¬ false = true by decide)]
      have fin : Sp (fM_why_121 (allm S.2.1.2.1.1) (b2i false) h2) (fun p => p.1 = -1 ∧ MC p.2 S.1 S.2.1) := by
        unfold fM_why_121
        refine Sp_bind (TH_back q1 H.1) (fun h1 _ q => ?_)
        exact Sp_pos rfl (Sp_some ⟨rfl, q.1⟩)
      have hgf : ∃ f, gfu = f + 1 := ⟨gfu - 1, rfl⟩
      obtain ⟨f, hf⟩ := hgf
      rw [hf]
      unfold fM_why_65
      exact Sp_if (fun _ => Sp_pos rfl fin) (fun _ => fin)
  unfold fM_why s_why
  refine Sp_eq (fM_in_gen v1 (-1) 7 h) ?_
  have em : (-1 : Int64).toInt = -1 := by decide
  have e7 : (7 : Int64).toInt = 7 := by decide
  have hm1 : v1 = -1 ↔ v1.toInt = -1 := by
    rw [← Int32.toInt_inj]; rfl
  rw [em, e7]
  dsimp only
  by_cases h1 : v1 = -1
  · rw [decide_eq_true (by rw [hm1] at h1; omega), if_neg (show ¬ (¬ v1 = -1 ∧ (vis 8 v1 && vis 10 v2) = false) from fun z => z.1 h1)]
    exact Sp_neg (by decide) (Sp_pos h1 (key (Or.inl h1)))
  · cases q1 : vis 8 v1 with
    | false =>
      rw [vis_iff] at q1
      have q1 := of_decide_eq_false q1
      rw [decide_eq_false (by rw [hm1] at h1; omega), if_pos (show ¬ v1 = -1 ∧ (false && vis 10 v2) = false from ⟨h1, rfl⟩)]
      exact Sp_pos rfl (Sp_some ⟨rfl, H.1⟩)
    | true =>
      have q1b := q1
      rw [vis_iff] at q1
      have q1 := of_decide_eq_true q1
      rw [decide_eq_true (by omega)]
      refine Sp_neg (by decide) (Sp_neg h1 (Sp_eq (fM_in_eq (n := 10) (by decide) v2 h) ?_))
      dsimp only
      cases q2 : vis 10 v2 with
      | false => rw [if_pos (show ¬ v1 = -1 ∧ (true && false) = false from ⟨h1, rfl⟩)]; exact Sp_pos rfl (Sp_some ⟨rfl, H.1⟩)
      | true =>
        rw [if_neg (show ¬ (¬ v1 = -1 ∧ (true && true) = false) from fun z => by cases z.2)]
        exact Sp_neg (by decide) (key (Or.inr ⟨q1b, q2⟩))
/-! mixed -/
def s_mixed (S : qW) (v : Int32) : Int32 := match vin 8 v with
  | none => -2
  | some x => if (qthink (Et S.1) none S.2.1.2.1.2 (bt (allm S.2.1.2.1.1)) S.2.1.2.1.1).2.2.1 = true then -1 else mkn 10 ((qthink (Et S.1) none S.2.1.2.1.2 (bt (allm S.2.1.2.1.1)) S.2.1.2.1.1).1 x)
theorem M_mixed {h : gH} {S : qW} (H : BM h S) (W : WI S) (v1 v2 : Int32) : Sp (fM_mixed v1 v2 h) (fun p => p.1 = s_mixed S v2 ∧ BM p.2 S) := by
  refine Sp_to (Q := fun p => p.1 = s_mixed S v2 ∧ MC p.2 S.1 S.2.1) ?_ (fun p e q => ⟨q.1, BM_same H (fM_mixed_fr e) (by decide) (by decide) q.2 (fM_mixed_zb H.2.2.2.2 e)⟩)
  unfold fM_mixed s_mixed
  refine Sp_eq (fM_in_eq (n := 8) (by decide) v2 h) ?_
  dsimp only
  rcases vin_cases 8 (by decide) v2 with ⟨x, hx, e1, e⟩ | ⟨e, -⟩
  · subst e1
    rw [e, vis_nI hx (by decide)]
    dsimp only
    refine Sp_neg (by decide) (Sp_bind (TH_aside H.1 H.2.2.2.2) (fun h1 _ T => ?_))
    have e : h1 65 12 = nI S.2.1.2.1.1 := T.2.2.2.2.2.2.2.1.2.1
    rw [e]
    refine Sp_bind (TH_starts T (allm S.2.1.2.1.1) (b := none) (fun b0 z => by cases z)) (fun h2 _ q => ?_)
    obtain ⟨q1, q2⟩ := q
    have h9 := q2.2.2
    unfold fM_mixed_50
    cases hf : (qthink (Et S.1) none S.2.1.2.1.2 (bt (allm S.2.1.2.1.1)) S.2.1.2.1.1).2.2.1 with
    | true =>
      rw [hf] at h9
      rw [if_pos (show true = true from rfl)]
      exact Sp_neg (by rw [h9]; decide) (Sp_bind (TH_back q1 H.1) (fun h1 _ q => Sp_some ⟨rfl, q.1⟩))
    | false =>
      rw [hf] at h9
      rw [if_neg (show ¬ false = true by decide)]
      refine Sp_pos (by rw [h9]; rfl) (Sp_gg (gin_t (by omega) (by omega)) ?_)
      rw [clampn (by omega), q2.1 x hx]
      exact Sp_bind (TH_back q1 H.1) (fun h1 _ q => Sp_some ⟨rfl, q.1⟩)
  · rw [e, vis_none e]
    exact Sp_pos rfl (Sp_some ⟨rfl, H.1⟩)
theorem X_mixed {h : gH} {S : qW} (H : AX h S) (W : WI S) (v1 v2 : Int32) : Sp (fX_mixed v1 v2 h) (fun p => p.1 = s_mixed S v2 ∧ AX p.2 S) := by
  unfold fX_mixed s_mixed
  refine Sp_eq (fX_isVariable_eq v2 h) ?_
  dsimp only
  rcases vin_cases 8 (by decide) v2 with ⟨x, hx, e1, e⟩ | ⟨e, -⟩
  · subst e1
    rw [e, vis_nI hx (by decide)]
    dsimp only
    have hd : h 22 5 = nI S.2.1.2.1.1 := H.2.1.2.2.1.2.1
    obtain ⟨t1, t2, t3, t4⟩ := H.2.2.2.2.2.2
    refine Sp_neg (by decide) (Sp_eq (x := (allm S.2.1.2.1.1, h)) (by unfold fP_all; rw [hd]; rfl) (Sp_eq (rall_eq H W) ?_))
    dsimp only
    have hx2 : XD h S.2.1.2.1.1 S.2.1.2.1.2 := H.2.1.2.2.1
    refine Sp_bind (Sp_and (start_sp (Or.inl rfl) (allm S.2.1.2.1.1) (XE_bt (b := none) H.1.1) hx2 t3) (fun x e => fH_start_fr gH28 e)) (fun h1 _ q => ?_)
    obtain ⟨q1, fr1⟩ := q
    have hi := qst_inv (E := Ebt (Et S.1) none) (mk := bt (allm S.2.1.2.1.1)) (fun i hi => (H.2.1.2.2.1.2.2 i hi).2.2)
    refine Sp_bind (R := fun h2 => HP h2 28 (Ebt (Et S.1) none) (qst (Ebt (Et S.1) none) S.2.1.2.1.2 (bt (allm S.2.1.2.1.1)) S.2.1.2.1.1) ∧ h2 28 10 = 1 ∧ ∀ c, ¬ (28 ≤ c ∧ c ≤ 32) → h2 c = h c) ?_ (fun h2 _ q => ?_)
    · unfold fH_shuffle
      refine Sp_let (Sp_some ⟨HP_o11 gH28 v1 (HX_fr q1 ?_ ?_ ?_ ?_ (fun x hx => ?_) ?_ ?_), ?_, fun c hc => ?_⟩)
      all_goals first
        | (rw [hu_k _ _ _ _ (by omega)]; done)
        | (rw [hu_ne (by omega)]; done)
        | (rw [hu_k _ _ _ _ (by omega), hu_same]; done)
        | (rw [hu_ne (by omega), hu_ne (by omega)]; exact gfr_out fr1 28 32 (by decide) (by decide) c hc)
    · obtain ⟨a1, a2, a3⟩ := q
      have hET : Etx (Ebt (Et S.1) none) := fun r hr => by
        have hr2 : r < S.1.1 := by
          have : Eact (Et S.1) r = true := hr
          rw [Eact_Et] at this; exact of_decide_eq_true this
        exact ⟨by have := W.1; omega, (XR_of H hr2).2.1⟩
      refine Sp_bind (Sp_and (shufAll gH28 hET (XE_hall (XE_bt (b := none) H.1.1) (fun c k hc => by rw [a3 c (by omega)])) a1 hi.1 (fun hf r hr ha => ?_) a2) (fun x e => fH_runAll_fr gH28 e)) (fun p _ q => ?_)
      · unfold qst qwake at hf ⊢
        dsimp only at hf ⊢
        rw [if_neg (by rw [hf]; decide)]; exact ha
      · obtain ⟨⟨P', b1, b2, b3⟩, fr2⟩ := q
        have a4 : ∀ c, ¬ (28 ≤ c ∧ c ≤ 32) → p.2 c = h c := fun c hc => (gfr_out fr2 28 32 (by decide) (by decide) c hc).trans (a3 c hc)
        unfold fH_inOrder
        refine Sp_bind (R := fun h4 => h4 = hu p.2 28 10 0) (Sp_some rfl) (fun h4 _ e4 => ?_)
        rw [e4]
        have hA : AX (hu p.2 28 10 0) S := AX_think H (fun c hc => by rw [hu_ne (by omega)]; exact a4 c (by omega)) (hu_same _ _ _ _) (by rw [hu_ne (by omega), a4 33 (by omega)]; exact t2) (by rw [hu_ne (by omega)]; exact b1.2.1) (by rw [hu_ne (by omega), a4 34 (by omega)]; exact t4)
        have h9 : hu p.2 28 10 0 28 9 = b2i P'.2.2.1 := by rw [hu_k _ _ _ _ (by omega)]; exact b1.2.2.2.1
        have eq1 : (qthink (Et S.1) none S.2.1.2.1.2 (bt (allm S.2.1.2.1.1)) S.2.1.2.1.1).2.2.1 = P'.2.2.1 := b2.symm
        rw [eq1]
        cases hf : P'.2.2.1 with
        | true =>
          rw [hf] at h9
          rw [if_pos (show true = true from rfl)]
          exact Sp_neg (by rw [h9]; decide) (Sp_some ⟨rfl, hA⟩)
        | false =>
          rw [hf] at h9
          rw [if_neg (show ¬ false = true by decide)]
          refine Sp_pos (by rw [h9]; rfl) (Sp_gg (gin_t (by omega) (by omega)) (Sp_some ⟨?_, hA⟩))
          dsimp only
          rw [clampn (by omega), hu_ne (by omega)]
          exact (b1.1 x hx).trans (mkn_congr (fun v hv => b3 hf x hx v hv))
  · rw [e, vis_none e]
    exact Sp_pos rfl (Sp_some ⟨rfl, H⟩)
