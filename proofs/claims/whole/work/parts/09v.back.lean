/-! back, on the reference's side -/
theorem bck165 {h0 : gH} {Q : Int32 × gH → Prop} : ∀ (m k fu : Nat) (h : gH), k + m = 8 → m < fu → CI [(66, 95), (76, 100), (77, 101), (78, 102)] k h0 h → (∀ h1, CI [(66, 95), (76, 100), (77, 101), (78, 102)] 8 h0 h1 → Sp (fM_back_165 1 (nI 8) h1) Q) → Sp (fM_back_165 fu (nI k) h) Q := by
  intro m
  induction m with
  | zero =>
    intro k fu h hk hfu hC hQ
    obtain ⟨fu, rfl⟩ : ∃ f, fu = f + 1 := ⟨fu - 1, by omega⟩
    have : k = 8 := by omega
    subst this
    have := hQ h hC
    unfold fM_back_165 at this ⊢
    rw [if_neg (by decide)] at this ⊢
    exact this
  | succ m ih =>
    intro k fu h hk hfu hC hQ
    obtain ⟨fu, rfl⟩ : ∃ f, fu = f + 1 := ⟨fu - 1, by omega⟩
    unfold fM_back_165
    have g8 : gin (nI k) 8 = true := gin_t (by omega) (by omega)
    refine Sp_pos (nltT (show k < 8 by omega) (by decide)) (Sp_gg g8 (Sp_gg g8 (Sp_let (Sp_gg g8 (Sp_gg g8 (Sp_let (Sp_gg g8 (Sp_gg g8 (Sp_let (Sp_gg g8 (Sp_gg g8 (Sp_let ?_))))))))))))
    rw [nadd_l k 1, clampn (by omega)]
    exact ih (k + 1) fu _ (by omega) (by omega) (CI_s hC (by decide) (by decide)) hQ
theorem bck127 {h0 : gH} {Q : Int32 × gH → Prop} : ∀ (m k fu : Nat) (h : gH), k + m = 12 → m < fu → CI [(72, 96), (73, 97)] k h0 h → (∀ h1, CI [(72, 96), (73, 97)] 12 h0 h1 → Sp (fM_back_165 gfu 0 h1) Q) → Sp (fM_back_127 fu (nI k) h) Q := by
  intro m
  induction m with
  | zero =>
    intro k fu h hk hfu hC hQ
    obtain ⟨fu, rfl⟩ : ∃ f, fu = f + 1 := ⟨fu - 1, by omega⟩
    have : k = 12 := by omega
    subst this
    unfold fM_back_127
    exact Sp_neg (by decide) (hQ h hC)
  | succ m ih =>
    intro k fu h hk hfu hC hQ
    obtain ⟨fu, rfl⟩ : ∃ f, fu = f + 1 := ⟨fu - 1, by omega⟩
    unfold fM_back_127
    have g8 : gin (nI k) 12 = true := gin_t (by omega) (by omega)
    refine Sp_pos (nltT (show k < 12 by omega) (by decide)) (Sp_gg g8 (Sp_gg g8 (Sp_let (Sp_gg g8 (Sp_gg g8 (Sp_let ?_))))))
    rw [nadd_l k 1, clampn (by omega)]
    exact ih (k + 1) fu _ (by omega) (by omega) (CI_s hC (by decide) (by decide)) hQ
theorem bck89 {h0 : gH} {Q : Int32 × gH → Prop} : ∀ (m k fu : Nat) (h : gH), k + m = 80 → m < fu → CI [(74, 98), (75, 99)] k h0 h → (∀ h1, CI [(74, 98), (75, 99)] 80 h0 h1 → Sp (fM_back_127 gfu 0 h1) Q) → Sp (fM_back_89 fu (nI k) h) Q := by
  intro m
  induction m with
  | zero =>
    intro k fu h hk hfu hC hQ
    obtain ⟨fu, rfl⟩ : ∃ f, fu = f + 1 := ⟨fu - 1, by omega⟩
    have : k = 80 := by omega
    subst this
    unfold fM_back_89
    exact Sp_neg (by decide) (hQ h hC)
  | succ m ih =>
    intro k fu h hk hfu hC hQ
    obtain ⟨fu, rfl⟩ : ∃ f, fu = f + 1 := ⟨fu - 1, by omega⟩
    unfold fM_back_89
    have g8 : gin (nI k) 80 = true := gin_t (by omega) (by omega)
    refine Sp_pos (nltT (show k < 80 by omega) (by decide)) (Sp_gg g8 (Sp_gg g8 (Sp_let (Sp_gg g8 (Sp_gg g8 (Sp_let ?_))))))
    rw [nadd_l k 1, clampn (by omega)]
    exact ih (k + 1) fu _ (by omega) (by omega) (CI_s hC (by decide) (by decide)) hQ
theorem bck39 {h0 : gH} (zb : ∀ k, h0 94 k = 0 ∨ h0 94 k = 1) {Q : Int32 × gH → Prop} : ∀ (m k fu : Nat) (h : gH), k + m = 16 → m < fu → CI [(67, 91), (68, 92), (71, 94)] k h0 h → (∀ h1, CI [(67, 91), (68, 92), (71, 94)] 16 h0 h1 → Sp (fM_back_89 gfu 0 h1) Q) → Sp (fM_back_39 fu (nI k) h) Q := by
  intro m
  induction m with
  | zero =>
    intro k fu h hk hfu hC hQ
    obtain ⟨fu, rfl⟩ : ∃ f, fu = f + 1 := ⟨fu - 1, by omega⟩
    have : k = 16 := by omega
    subst this
    unfold fM_back_39
    exact Sp_neg (by decide) (hQ h hC)
  | succ m ih =>
    intro k fu h hk hfu hC hQ
    obtain ⟨fu, rfl⟩ : ∃ f, fu = f + 1 := ⟨fu - 1, by omega⟩
    unfold fM_back_39
    have g8 : gin (nI k) 16 = true := gin_t (by omega) (by omega)
    have g9 : gin (nI k) 24 = true := gin_t (by omega) (by omega)
    refine Sp_pos (nltT (show k < 16 by omega) (by decide)) (Sp_gg g8 (Sp_gg g9 (Sp_let (Sp_gg g8 (Sp_gg g9 (Sp_let (Sp_gg g8 (Sp_gg g9 (Sp_gg ?_ (Sp_let ?_))))))))))
    · rw [hu_ne (by decide), hu_ne (by decide), hC.2 94 (by decide)]; exact gbo_t (zb _)
    rw [nadd_l k 1, clampn (by omega)]
    exact ih (k + 1) fu _ (by omega) (by omega) (CI_s hC (by decide) (by decide)) hQ
theorem bck12 {h0 : gH} (zb : ∀ k, h0 93 k = 0 ∨ h0 93 k = 1) {Q : Int32 × gH → Prop} : ∀ (m k fu : Nat) (h : gH), k + m = 16000 → m < fu → CI [(69, 93)] k h0 h → (∀ h1, CI [(69, 93)] 16000 h0 h1 → Sp (fM_back_39 gfu 0 h1) Q) → Sp (fM_back_12 fu (nI k) h) Q := by
  intro m
  induction m with
  | zero =>
    intro k fu h hk hfu hC hQ
    obtain ⟨fu, rfl⟩ : ∃ f, fu = f + 1 := ⟨fu - 1, by omega⟩
    have : k = 16000 := by omega
    subst this
    unfold fM_back_12
    exact Sp_neg (by decide) (hQ h hC)
  | succ m ih =>
    intro k fu h hk hfu hC hQ
    obtain ⟨fu, rfl⟩ : ∃ f, fu = f + 1 := ⟨fu - 1, by omega⟩
    unfold fM_back_12
    have g8 : gin (nI k) 16000 = true := gin_t (by omega) (by omega)
    refine Sp_pos (nltT (show k < 16000 by omega) (by decide)) (Sp_gg g8 (Sp_gg g8 (Sp_gg ?_ (Sp_let ?_))))
    · rw [hC.2 93 (by decide)]; exact gbo_t (zb _)
    rw [nadd_l k 1, clampn (by omega)]
    exact ih (k + 1) fu _ (by omega) (by omega) (CI_s hC (by decide) (by decide)) hQ
theorem M_back {h : gH} {S : qW} (H : BM h S) (W : WI S) : Sp (fM_back h) (fun p => p.1 = (s_back S).1 ∧ BM p.2 (s_back S).2) := by
  have zb : ∀ x, fM_back h = some x → ZB x.2 := fun x e => fM_back_zb H.2.2.2.2 e
  suffices Sp (fM_back h) (fun p => p.1 = (s_back S).1 ∧ (ZB p.2 → BM p.2 (s_back S).2)) from Sp_to this (fun x e q => ⟨q.1, q.2 (zb x e)⟩)
  have Z := H.2.2.2.2
  have Hk := H.2.1
  unfold fM_back
  cases e : S.2.2.1 with
  | none =>
    rw [e] at Hk
    rw [s_back1 e]
    exact Sp_pos Hk (Sp_some ⟨rfl, fun _ => H⟩)
  | some kk =>
    rw [e] at Hk
    rw [s_back2 e]
    obtain ⟨w1, w2, w3⟩ := W.2.2.2.1 kk e
    obtain ⟨m76, m70, m71, m72, m73, m74, m75, mD, mR, mT, mC, mL, mB⟩ := Hk
    refine Sp_neg (by rw [m76]; decide) ?_
    rw [← nI_0]
    refine bck12 (h0 := h) (fun k => Z.1 93 (by decide) k) 16000 0 gfu h (by omega) (by unfold gfu; omega) (CI_0 _ _) (fun h1 c1 => ?_)
    rw [← nI_0]
    refine bck39 (h0 := h1) (fun k => by rw [c1.2 94 (by decide)]; exact Z.1 94 (by decide) k) 16 0 gfu h1 (by omega) (by unfold gfu; omega) (CI_0 _ _) (fun h2 c2 => ?_)
    rw [← nI_0]
    refine bck89 (h0 := h2) 80 0 gfu h2 (by omega) (by unfold gfu; omega) (CI_0 _ _) (fun h3 c3 => ?_)
    rw [← nI_0]
    refine bck127 (h0 := h3) 12 0 gfu h3 (by omega) (by unfold gfu; omega) (CI_0 _ _) (fun h4 c4 => ?_)
    rw [← nI_0]
    refine bck165 (h0 := h4) 8 0 gfu h4 (by omega) (by unfold gfu; omega) (CI_0 _ _) (fun h5 c5 => ?_)
    have fr : ∀ o, o < 66 ∨ o = 70 ∨ 78 < o → h5 o = h o := fun o ho => by
      rw [c5.2 o (by simp; omega), c4.2 o (by simp; omega), c3.2 o (by simp; omega), c2.2 o (by simp; omega), c1.2 o (by simp; omega)]
    have k69 : ∀ q, q < 16000 → h5 69 q = h 93 q := fun q hq => by
      rw [c5.2 69 (by decide), c4.2 69 (by decide), c3.2 69 (by decide), c2.2 69 (by decide)]; exact c1.1 (69, 93) (by decide) q hq
    have k2 : ∀ d s, (d, s) ∈ [(67, 91), (68, 92), (71, 94)] → ∀ q, q < 16 → h5 d q = h s q := fun d s hm q hq => by
      have h2' := c2.1 (d, s) hm q hq
      have f1 : h1 s = h s := c1.2 s (by simp at hm ⊢; omega)
      rw [c5.2 d (by simp at hm ⊢; omega), c4.2 d (by simp at hm ⊢; omega), c3.2 d (by simp at hm ⊢; omega)]
      rw [← f1]; exact h2'
    have k3 : ∀ d s, (d, s) ∈ [(74, 98), (75, 99)] → ∀ q, q < 80 → h5 d q = h s q := fun d s hm q hq => by
      have h2' := c3.1 (d, s) hm q hq
      have f1 : h2 s = h s := (c2.2 s (by simp at hm ⊢; omega)).trans (c1.2 s (by simp at hm ⊢; omega))
      rw [c5.2 d (by simp at hm ⊢; omega), c4.2 d (by simp at hm ⊢; omega)]
      rw [← f1]; exact h2'
    have k4 : ∀ d s, (d, s) ∈ [(72, 96), (73, 97)] → ∀ q, q < 12 → h5 d q = h s q := fun d s hm q hq => by
      have h2' := c4.1 (d, s) hm q hq
      have f1 : h3 s = h s := (c3.2 s (by simp at hm ⊢; omega)).trans ((c2.2 s (by simp at hm ⊢; omega)).trans (c1.2 s (by simp at hm ⊢; omega)))
      rw [c5.2 d (by simp at hm ⊢; omega)]
      rw [← f1]; exact h2'
    have k5 : ∀ d s, (d, s) ∈ [(66, 95), (76, 100), (77, 101), (78, 102)] → ∀ q, q < 8 → h5 d q = h s q := fun d s hm q hq => by
      have h2' := c5.1 (d, s) hm q hq
      have f1 : h4 s = h s := (c4.2 s (by simp at hm ⊢; omega)).trans ((c3.2 s (by simp at hm ⊢; omega)).trans ((c2.2 s (by simp at hm ⊢; omega)).trans (c1.2 s (by simp at hm ⊢; omega))))
      rw [← f1]; exact h2'
    unfold fM_back_165
    refine Sp_neg (by decide) (Sp_gg ?_ (Sp_let (Sp_let (Sp_let (Sp_let (Sp_let (Sp_let (Sp_some ⟨?_, fun zb => ?_⟩))))))))
    · rw [fr 65 (by omega), m70]; exact gbo_b _
    · rw [hu_k _ _ _ _ (by decide), hu_k _ _ _ _ (by decide), hu_same, hu_k _ _ _ _ (by decide), hu_k _ _ _ _ (by decide), hu_k _ _ _ _ (by decide), fr 65 (by omega)]
      exact m73
    · obtain ⟨⟨⟨⟨gA, gE⟩, gX, g36, gT⟩, g20, gD, gL⟩, gK, gP, gS, gZ⟩ := H
      generalize hh : hu (hu (hu (hu (hu (hu h5 65 2 _) 65 8 _) 65 12 _) 65 15 _) 65 19 _) 65 20 _ = h6 at zb ⊢
      have n65 : ∀ o, o ≠ 65 → h6 o = h5 o := fun o ho => by
        rw [← hh, hu_ne ho, hu_ne ho, hu_ne ho, hu_ne ho, hu_ne ho, hu_ne ho]
      have l65 : ∀ k, k ≠ 2 → k ≠ 8 → k ≠ 12 → k ≠ 15 → k ≠ 19 → k ≠ 20 → h6 65 k = h 65 k := fun k a1 a2 a3 a4 a5 a6 => by
        rw [← hh, hu_k _ _ _ _ a6, hu_k _ _ _ _ a5, hu_k _ _ _ _ a4, hu_k _ _ _ _ a3, hu_k _ _ _ _ a2, hu_k _ _ _ _ a1, fr 65 (by omega)]
      have v65 : h6 65 2 = h 65 70 ∧ h6 65 8 = h 65 71 ∧ h6 65 12 = h 65 72 ∧ h6 65 15 = h 65 73 ∧ h6 65 19 = h 65 74 ∧ h6 65 20 = h 65 75 := by
        rw [← hh, ← fr 65 (by omega)]
        refine ⟨?_, ?_, ?_, ?_, ?_, ?_⟩ <;> simp [hu_at]
      have fr6 : ∀ o, o < 65 ∨ o = 70 ∨ 78 < o → h6 o = h o := fun o ho => by rw [n65 o (by omega), fr o (by omega)]
      obtain ⟨v1, v2, v3, v4, v5, v6⟩ := v65
      have hn := W.1
      have htl := w2.2.1.len
      show BM h6 _
      refine ⟨⟨⟨⟨fun _ => rfl, ⟨Nat.le_trans w1 hn, Nat.zero_le _, v2.trans m71, (l65 9 (by decide) (by decide) (by decide) (by decide) (by decide) (by decide)).trans gE.2.2.2.1, fun r hr => ?_, fun j hj => absurd hj (Nat.not_lt_zero _)⟩⟩, ⟨fun x hx => ?_, fun r hr ha => ?_, v1.trans m70⟩, (l65 36 (by decide) (by decide) (by decide) (by decide) (by decide) (by decide)).trans g36, ⟨v4.trans m73, fun i a hi => ?_⟩⟩, v6.trans m75, ⟨w3, v3.trans m72, fun i hi => ?_⟩, ⟨v5.trans m74, fun i hi => ?_⟩⟩, ?_, MTp_fr gP (l65 22 (by decide) (by decide) (by decide) (by decide) (by decide) (by decide)) (fr6 79 (by omega)), MSh_fr gS (fun b h1 h2 => fr6 b (by omega)), zb⟩
      · have hr : r < kk.1 := hr
        have e1 := gE.2.2.2.2.1 r (show r < S.1.1 by omega)
        rw [n65 68 (by decide), n65 67 (by decide), k2 68 92 (by decide) r (by omega), k2 67 91 (by decide) r (by omega)]
        refine ⟨(mR r hr).2.2, (mR r hr).2.1, e1.2.2.1, e1.2.2.2.1, e1.2.2.2.2.1, fun x hx y hy z hz => ?_⟩
        rw [n65 69 (by decide), k69 _ (by omega)]; exact mB r hr x hx y hy z hz
      · rw [n65 66 (by decide), k5 66 95 (by decide) x hx]; exact mD x hx
      · rw [Eact_Et] at ha
        have hr : r < kk.1 := of_decide_eq_true ha
        rw [n65 71 (by decide), k2 71 94 (by decide) r (by omega)]; exact (mR r hr).1
      · have hi2 : i < kk.2.1.2.2.2.length := by
          by_cases q : i < kk.2.1.2.2.2.length
          · exact q
          · have hi : kk.2.1.2.2.2[i]? = some a := hi
            rw [List.getElem?_eq_none (by omega)] at hi; cases hi
        rw [n65 74 (by decide), n65 75 (by decide), k3 74 98 (by decide) i (by omega), k3 75 99 (by decide) i (by omega)]
        exact mT i a hi
      · have hi : i < kk.2.2.1.1 := hi
        rw [n65 72 (by decide), n65 73 (by decide), k4 72 96 (by decide) i (by omega), k4 73 97 (by decide) i (by omega)]
        exact mC i hi
      · have hl := w2.2.2.1
        have hi : i < kk.2.2.2.1.1 := hi
        rw [n65 76 (by decide), n65 77 (by decide), n65 78 (by decide), k5 76 100 (by decide) i (by omega), k5 77 101 (by decide) i (by omega), k5 78 102 (by decide) i (by omega)]
        exact mL i hi
      · exact MKp_fr (k := some kk) (R := rcut S.1 kk.1) ⟨m76, m70, m71, m72, m73, m74, m75, mD, mR, mT, mC, mL, mB⟩ (fun k k1 k2 => l65 k (by omega) (by omega) (by omega) (by omega) (by omega) (by omega)) (fun b b1 b2 => fr6 b (by omega))
