/-! the whole of the reference search -/
/-- what lies aside meanwhile -/
def AS (h0 : gH) (R : qR) (K : qK) (h : gH) : Prop := (∀ x, x < 8 → h 89 x = h0 66 x) ∧ (∀ r, r < 24 → h 90 r = h0 71 r) ∧ h 65 57 = h0 65 2 ∧ h 65 36 = 1 ∧ MT h K.1.2.2.2 ∧ ME h (Et R) R.2.2.2 ∧ MD h K.2.1.1 K.2.1.2 ∧ MLv h K.2.2.1 ∧ ZB h ∧ h 65 20 = h0 65 20
theorem as28 {h0 : gH} (z : ∀ k, h0 71 k = 0 ∨ h0 71 k = 1) (z2 : h0 65 2 = 0 ∨ h0 65 2 = 1) : ∀ (m k fu : Nat) (h : gH), k + m = 24 → m < fu → CI [(90, 71)] k h0 h → Sp (fM_laysAside2_28 fu (nI k) h) (fun h1 => ∃ h2, CI [(90, 71)] 24 h0 h2 ∧ h1 = hu (hu h2 65 57 (h0 65 2)) 65 36 1) := by
  intro m
  induction m with
  | zero =>
    intro k fu h hk hfu hC
    obtain ⟨fu, rfl⟩ : ∃ f, fu = f + 1 := ⟨fu - 1, by omega⟩
    have : k = 24 := by omega
    subst this
    unfold fM_laysAside2_28
    refine Sp_neg (by decide) ?_
    rw [hC.2 65 (by decide)]
    exact Sp_gg (gbo_t z2) (Sp_let (Sp_some ⟨h, hC, rfl⟩))
  | succ m ih =>
    intro k fu h hk hfu hC
    obtain ⟨fu, rfl⟩ : ∃ f, fu = f + 1 := ⟨fu - 1, by omega⟩
    unfold fM_laysAside2_28
    have g8 : gin (nI k) 24 = true := gin_t (by omega) (by omega)
    refine Sp_pos (nltT (show k < 24 by omega) (by decide)) (Sp_gg g8 (Sp_gg g8 (Sp_gg ?_ (Sp_let ?_))))
    · rw [hC.2 71 (by decide)]; exact gbo_t (z _)
    rw [nadd_l k 1, clampn (by omega)]
    exact ih (k + 1) fu _ (by omega) (by omega) (CI_s hC (by decide) (by decide))
theorem as2 {h0 : gH} (z : ∀ k, h0 71 k = 0 ∨ h0 71 k = 1) (z2 : h0 65 2 = 0 ∨ h0 65 2 = 1) : ∀ (m k fu : Nat) (h : gH), k + m = 8 → m < fu → CI [(89, 66)] k h0 h → Sp (fM_laysAside2_2 fu (nI k) h) (fun h1 => ∃ h3 h2, CI [(89, 66)] 8 h0 h3 ∧ CI [(90, 71)] 24 h3 h2 ∧ h1 = hu (hu h2 65 57 (h3 65 2)) 65 36 1) := by
  intro m
  induction m with
  | zero =>
    intro k fu h hk hfu hC
    obtain ⟨fu, rfl⟩ : ∃ f, fu = f + 1 := ⟨fu - 1, by omega⟩
    have : k = 8 := by omega
    subst this
    unfold fM_laysAside2_2
    refine Sp_neg (by decide) ?_
    have x0 := as28 (h0 := h) (fun k => by rw [hC.2 71 (by decide)]; exact z k) (by rw [hC.2 65 (by decide)]; exact z2) 24 0 gfu h rfl (by unfold gfu; omega) (CI_0 _ _)
    rw [nI_0] at x0
    exact Sp_mono x0 (fun h1 ⟨h2, a, b⟩ => ⟨h, h2, hC, a, b⟩)
  | succ m ih =>
    intro k fu h hk hfu hC
    obtain ⟨fu, rfl⟩ : ∃ f, fu = f + 1 := ⟨fu - 1, by omega⟩
    unfold fM_laysAside2_2
    have g8 : gin (nI k) 8 = true := gin_t (by omega) (by omega)
    refine Sp_pos (nltT (show k < 8 by omega) (by decide)) (Sp_gg g8 (Sp_gg g8 (Sp_let ?_)))
    rw [nadd_l k 1, clampn (by omega)]
    exact ih (k + 1) fu _ (by omega) (by omega) (CI_s hC (by decide) (by decide))
theorem AS_aside {h : gH} {R : qR} {K : qK} (H : MC h R K) (z : ZB h) : Sp (fM_laysAside2 h) (fun h1 => AS h R K h1 ∧ MP h1 (Et R) R.2.2.2 true K.1.2.2.2 K.1 ∧ (∀ b, b ≠ 65 → b ≠ 89 → b ≠ 90 → h1 b = h b) ∧ ∀ k, k ≠ 57 → k ≠ 36 → h1 65 k = h 65 k) := by
  have x0 := as2 (h0 := h) (fun k => zb71 z k) (z.2 2 (by decide)) 8 0 gfu h rfl (by unfold gfu; omega) (CI_0 _ _)
  rw [nI_0] at x0
  refine Sp_mono (Sp_and (show Sp (fM_laysAside2 h) _ from x0) (fun _ e => fM_laysAside2_zb z e)) (fun h1 q => ?_)
  obtain ⟨⟨h3, h2, c3, c2, e⟩, zz⟩ := q
  have w : ∀ b, b ≠ 65 → b ≠ 89 → b ≠ 90 → h1 b = h b := fun b b1 b2 b3 => by
    rw [e, hu_ne b1, hu_ne b1, c2.2 b (by simp; omega), c3.2 b (by simp; omega)]
  have w65 : ∀ k, k ≠ 57 → k ≠ 36 → h1 65 k = h 65 k := fun k k1 k2 => by
    rw [e, hu_k _ _ _ _ k2, hu_k _ _ _ _ k1, c2.2 65 (by decide), c3.2 65 (by decide)]
  have v89 : ∀ x, x < 8 → h1 89 x = h 66 x := fun x hx => by
    rw [e, hu_ne (by decide), hu_ne (by decide), c2.2 89 (by decide)]; exact c3.1 (89, 66) (by decide) x hx
  have v90 : ∀ r, r < 24 → h1 90 r = h 71 r := fun r hr => by
    rw [e, hu_ne (by decide), hu_ne (by decide), ← c3.2 71 (by decide)]; exact c2.1 (90, 71) (by decide) r hr
  have v57 : h1 65 57 = h 65 2 := by rw [e, hu_k _ _ _ _ (by decide), hu_same, c3.2 65 (by decide)]
  have v36 : h1 65 36 = 1 := by rw [e, hu_same]
  obtain ⟨⟨⟨hA, hM⟩, hX, h36, hT⟩, hr, hd, hl⟩ := H
  have M1 : ME h1 (Et R) R.2.2.2 := ME_fr hM (w65 8 (by decide) (by decide)) (w65 9 (by decide) (by decide)) (w 67 (by decide) (by decide) (by decide)) (w 68 (by decide) (by decide) (by decide)) (w 69 (by decide) (by decide) (by decide)) (w 70 (by decide) (by decide) (by decide))
  have T1 : MT h1 K.1.2.2.2 := MT_of hT (w65 15 (by decide) (by decide)) (w 74 (by decide) (by decide) (by decide)) (w 75 (by decide) (by decide) (by decide))
  exact ⟨⟨v89, v90, v57, v36, T1, M1, MD_fr hd (w65 12 (by decide) (by decide)) (w 72 (by decide) (by decide) (by decide)) (w 73 (by decide) (by decide) (by decide)), MLv_fr hl (w65 19 (by decide) (by decide)) (w 76 (by decide) (by decide) (by decide)) (w 77 (by decide) (by decide) (by decide)) (w 78 (by decide) (by decide) (by decide)), zz, w65 20 (by decide) (by decide)⟩, ⟨⟨hA, M1⟩, MX_fr hX (w 66 (by decide) (by decide) (by decide)) (w 71 (by decide) (by decide) (by decide)) (w65 2 (by decide) (by decide)), v36, T1⟩, w, w65⟩
theorem bk28 {h0 : gH} (z : ∀ k, h0 90 k = 0 ∨ h0 90 k = 1) (z2 : h0 65 57 = 0 ∨ h0 65 57 = 1) : ∀ (m k fu : Nat) (h : gH), k + m = 24 → m < fu → CI [(71, 90)] k h0 h → Sp (fM_laysBack2_28 fu (nI k) h) (fun h1 => ∃ h2, CI [(71, 90)] 24 h0 h2 ∧ h1 = hu (hu h2 65 2 (h0 65 57)) 65 36 0) := by
  intro m
  induction m with
  | zero =>
    intro k fu h hk hfu hC
    obtain ⟨fu, rfl⟩ : ∃ f, fu = f + 1 := ⟨fu - 1, by omega⟩
    have : k = 24 := by omega
    subst this
    unfold fM_laysBack2_28
    refine Sp_neg (by decide) ?_
    rw [hC.2 65 (by decide)]
    exact Sp_gg (gbo_t z2) (Sp_let (Sp_some ⟨h, hC, rfl⟩))
  | succ m ih =>
    intro k fu h hk hfu hC
    obtain ⟨fu, rfl⟩ : ∃ f, fu = f + 1 := ⟨fu - 1, by omega⟩
    unfold fM_laysBack2_28
    have g8 : gin (nI k) 24 = true := gin_t (by omega) (by omega)
    refine Sp_pos (nltT (show k < 24 by omega) (by decide)) (Sp_gg g8 (Sp_gg g8 (Sp_gg ?_ (Sp_let ?_))))
    · rw [hC.2 90 (by decide)]; exact gbo_t (z _)
    rw [nadd_l k 1, clampn (by omega)]
    exact ih (k + 1) fu _ (by omega) (by omega) (CI_s hC (by decide) (by decide))
theorem bk2 {h0 : gH} (z : ∀ k, h0 90 k = 0 ∨ h0 90 k = 1) (z2 : h0 65 57 = 0 ∨ h0 65 57 = 1) : ∀ (m k fu : Nat) (h : gH), k + m = 8 → m < fu → CI [(66, 89)] k h0 h → Sp (fM_laysBack2_2 fu (nI k) h) (fun h1 => ∃ h3 h2, CI [(66, 89)] 8 h0 h3 ∧ CI [(71, 90)] 24 h3 h2 ∧ h1 = hu (hu h2 65 2 (h3 65 57)) 65 36 0) := by
  intro m
  induction m with
  | zero =>
    intro k fu h hk hfu hC
    obtain ⟨fu, rfl⟩ : ∃ f, fu = f + 1 := ⟨fu - 1, by omega⟩
    have : k = 8 := by omega
    subst this
    unfold fM_laysBack2_2
    refine Sp_neg (by decide) ?_
    have x0 := bk28 (h0 := h) (fun k => by rw [hC.2 90 (by decide)]; exact z k) (by rw [hC.2 65 (by decide)]; exact z2) 24 0 gfu h rfl (by unfold gfu; omega) (CI_0 _ _)
    rw [nI_0] at x0
    exact Sp_mono x0 (fun h1 ⟨h2, a, b⟩ => ⟨h, h2, hC, a, b⟩)
  | succ m ih =>
    intro k fu h hk hfu hC
    obtain ⟨fu, rfl⟩ : ∃ f, fu = f + 1 := ⟨fu - 1, by omega⟩
    unfold fM_laysBack2_2
    have g8 : gin (nI k) 8 = true := gin_t (by omega) (by omega)
    refine Sp_pos (nltT (show k < 8 by omega) (by decide)) (Sp_gg g8 (Sp_gg g8 (Sp_let ?_)))
    rw [nadd_l k 1, clampn (by omega)]
    exact ih (k + 1) fu _ (by omega) (by omega) (CI_s hC (by decide) (by decide))
theorem AS_back {h0 h : gH} {R : qR} {K : qK} (H : AS h0 R K h) (H0 : MC h0 R K) : Sp (fM_laysBack2 h) (fun h1 => MC h1 R K ∧ ZB h1 ∧ (∀ b, b ≠ 65 → b ≠ 66 → b ≠ 71 → h1 b = h b) ∧ ∀ k, k ≠ 2 → k ≠ 36 → h1 65 k = h 65 k) := by
  obtain ⟨s1, s2, s3, s4, s5, s6, s7, s8, z, s10⟩ := H
  have x0 := bk2 (h0 := h) (fun k => z.1 90 (by decide) k) (z.2 57 (by decide)) 8 0 gfu h rfl (by unfold gfu; omega) (CI_0 _ _)
  rw [nI_0] at x0
  refine Sp_mono (Sp_and (show Sp (fM_laysBack2 h) _ from x0) (fun _ e => fM_laysBack2_zb z e)) (fun h1 q => ?_)
  obtain ⟨⟨h3, h2, c3, c2, e⟩, zz⟩ := q
  have w : ∀ b, b ≠ 65 → b ≠ 66 → b ≠ 71 → h1 b = h b := fun b b1 b2 b3 => by
    rw [e, hu_ne b1, hu_ne b1, c2.2 b (by simp; omega), c3.2 b (by simp; omega)]
  have w65 : ∀ k, k ≠ 2 → k ≠ 36 → h1 65 k = h 65 k := fun k k1 k2 => by
    rw [e, hu_k _ _ _ _ k2, hu_k _ _ _ _ k1, c2.2 65 (by decide), c3.2 65 (by decide)]
  have v66 : ∀ x, x < 8 → h1 66 x = h0 66 x := fun x hx => by
    rw [e, hu_ne (by decide), hu_ne (by decide), c2.2 66 (by decide), ← s1 x hx]; exact c3.1 (66, 89) (by decide) x hx
  have v71 : ∀ r, r < 24 → h1 71 r = h0 71 r := fun r hr => by
    rw [e, hu_ne (by decide), hu_ne (by decide), ← s2 r hr, ← c3.2 90 (by decide)]; exact c2.1 (71, 90) (by decide) r hr
  have v2 : h1 65 2 = h0 65 2 := by rw [e, hu_k _ _ _ _ (by decide), hu_same, c3.2 65 (by decide)]; exact s3
  have v36 : h1 65 36 = 0 := by rw [e, hu_same]
  obtain ⟨⟨⟨hA, hM⟩, hX, h36, hT⟩, hr, hd, hl⟩ := H0
  refine ⟨⟨⟨⟨hA, ME_fr s6 (w65 8 (by decide) (by decide)) (w65 9 (by decide) (by decide)) (w 67 (by decide) (by decide) (by decide)) (w 68 (by decide) (by decide) (by decide)) (w 69 (by decide) (by decide) (by decide)) (w 70 (by decide) (by decide) (by decide))⟩, ⟨fun x hx => by rw [v66 x hx]; exact hX.1 x hx, fun r hr hv => by rw [v71 r hr]; exact hX.2.1 r hr hv, v2.trans hX.2.2⟩, v36, MT_of s5 (w65 15 (by decide) (by decide)) (w 74 (by decide) (by decide) (by decide)) (w 75 (by decide) (by decide) (by decide))⟩, (w65 20 (by decide) (by decide)).trans (s10.trans hr), MD_fr s7 (w65 12 (by decide) (by decide)) (w 72 (by decide) (by decide) (by decide)) (w 73 (by decide) (by decide) (by decide)), MLv_fr s8 (w65 19 (by decide) (by decide)) (w 76 (by decide) (by decide) (by decide)) (w 77 (by decide) (by decide) (by decide)) (w 78 (by decide) (by decide) (by decide))⟩, zz, w, w65⟩
/-- rules of texts alone again -/
theorem ME_0 {h h1 : gH} {E E2 : qE} {kd : Nat → Nat} (H : ME h E2 kd) (e : sE0 E E2) (h0 : El E = 0) (a9 : h1 65 9 = 0) (a8 : h1 65 8 = h 65 8) (b : ∀ b, 67 ≤ b → b ≤ 69 → h1 b = h b) : ME h1 E kd := by
  obtain ⟨a1, a2, a3, a4, a5, a6⟩ := H
  obtain ⟨e1, e2, e3, e4⟩ := e
  rw [e1] at a1 a3 a5
  refine ⟨a1, by omega, a8.trans a3, by rw [a9, h0]; rfl, fun r hr => ?_, fun j hj => by omega⟩
  obtain ⟨n1, n2, n3, n4, n5, n6⟩ := a5 r hr
  obtain ⟨f1, f2, f3⟩ := e3 r (by omega)
  rw [f1] at n1 n4 n5
  rw [f3] at n5
  rw [f2] at n6
  rw [b 67 (by decide) (by decide), b 68 (by decide) (by decide)]
  refine ⟨n1, n2, n3, n4, n5, fun x hx y hy z hz => ?_⟩
  rw [b 69 (by decide) (by decide)]; exact n6 x hx y hy z hz
def MOut (h : gH) (l : Nat) (st : Nat × Nat × Nat) (sol : Nat → Nat) : Prop := h 65 48 = nI st.1 ∧ h 65 49 = nI st.2.1 ∧ h 65 50 = nI st.2.2 ∧ h 65 54 = nI l ∧ (0 < st.2.2 → ∀ x, x < 8 → h 87 x = nI (sol x))
theorem MOut_fr {h h1 : gH} {l : Nat} {st : Nat × Nat × Nat} {sol : Nat → Nat} (H : MOut h l st sol) (a : ∀ k, 48 ≤ k → k ≤ 54 → h1 65 k = h 65 k) (b : h1 87 = h 87) : MOut h1 l st sol := ⟨(a 48 (by omega) (by omega)).trans H.1, (a 49 (by omega) (by omega)).trans H.2.1, (a 50 (by omega) (by omega)).trans H.2.2.1, (a 54 (by omega) (by omega)).trans H.2.2.2.1, fun z x hx => by rw [b]; exact H.2.2.2.2 z x hx⟩
theorem M_searched {h0 h : gH} {S : qW} {P0 : qP} {ch pk mo : Nat} {ln al : Bool} (hch : ch < 4) (hpk : pk < 3) (hmo : mo ≤ 300) (A : AS h0 S.1 S.2.1 h) (H : MP h (Et S.1) S.1.2.2.2 true S.2.1.1.2.2.2 P0) (I : PI (Et S.1) P0) (T : PT P0) : Sp (fM_searched (nI ch) (nI pk) (b2i ln) (b2i al) (nI mo) h) (fun p => p.1 = scode (s_go S P0 ch pk mo ln al).1 ∧ AS h0 S.1 S.2.1 p.2 ∧ MOut p.2 (El (s_go S P0 ch pk mo ln al).2.2.1) (s_go S P0 ch pk mo ln al).2.2.2.2.1 (s_go S P0 ch pk mo ln al).2.2.2.2.2) := by
  have kp := sRec_keep (scfg S ch pk mo ln al) 9 [] (Et S.1, P0, (0, 0, 0), fun _ => 0)
  have zb : ∀ x, fM_searched (nI ch) (nI pk) (b2i ln) (b2i al) (nI mo) h = some x → ZB x.2 := fun x e => fM_searched_zb A.2.2.2.2.2.2.2.2.1 e
  suffices Sp (fM_searched (nI ch) (nI pk) (b2i ln) (b2i al) (nI mo) h) (fun p => p.1 = scode (s_go S P0 ch pk mo ln al).1 ∧ ME p.2 (Et S.1) S.1.2.2.2 ∧ p.2 65 36 = 1 ∧ MT p.2 S.2.1.1.2.2.2 ∧ MD p.2 S.2.1.2.1.1 S.2.1.2.1.2 ∧ MOut p.2 (El (s_go S P0 ch pk mo ln al).2.2.1) (s_go S P0 ch pk mo ln al).2.2.2.2.1 (s_go S P0 ch pk mo ln al).2.2.2.2.2) by
    refine Sp_to (Sp_and this (fun _ e => fM_searched_fr e)) (fun p e q => ?_)
    obtain ⟨⟨q1, q2, q3, q4, q5, q6⟩, fr⟩ := q
    obtain ⟨s1, s2, s3, s4, s5, s6, s7, s8, z, s10⟩ := A
    refine ⟨q1, ⟨fun x hx => by rw [gfr_row fr 89 rfl rfl]; exact s1 x hx, fun r hr => by rw [gfr_row fr 90 rfl rfl]; exact s2 r hr, (gfr_fld fr 65 57 rfl rfl).trans s3, q3, q4, q2, q5, MLv_fr s8 (gfr_fld fr 65 19 rfl rfl) (gfr_row fr 76 rfl rfl) (gfr_row fr 77 rfl rfl) (gfr_row fr 78 rfl rfl), zb p e, (gfr_fld fr 65 20 rfl rfl).trans s10⟩, q6⟩
  obtain ⟨s1, s2, s3, s4, s5, s6, s7, s8, z, s10⟩ := A
  unfold fM_searched
  refine Sp_let (Sp_let (Sp_gg (gbo_b _) (Sp_let (Sp_gg (gbo_b _) (Sp_let (Sp_let (Sp_let (Sp_let (Sp_let (Sp_let ?_))))))))))
  generalize hh : hu (hu (hu (hu (hu (hu (hu (hu (hu h 65 44 (nI ch)) 65 45 (nI pk)) 65 46 (b2i ln)) 65 47 (b2i al)) 65 48 0) 65 49 0) 65 50 0) 65 9 0) 65 53 0 = h1
  have w : ∀ b, b ≠ 65 → h1 b = h b := fun b hb => by rw [← hh, hu_ne hb, hu_ne hb, hu_ne hb, hu_ne hb, hu_ne hb, hu_ne hb, hu_ne hb, hu_ne hb, hu_ne hb]
  have w65 : ∀ k, k ≠ 9 → k < 44 → h1 65 k = h 65 k := fun k k9 k44 => by rw [← hh, hu_k _ _ _ _ (by omega), hu_k _ _ _ _ k9, hu_k _ _ _ _ (by omega), hu_k _ _ _ _ (by omega), hu_k _ _ _ _ (by omega), hu_k _ _ _ _ (by omega), hu_k _ _ _ _ (by omega), hu_k _ _ _ _ (by omega), hu_k _ _ _ _ (by omega)]
  have v : h1 65 44 = nI ch ∧ h1 65 45 = nI pk ∧ h1 65 46 = b2i ln ∧ h1 65 47 = b2i al ∧ h1 65 48 = nI 0 ∧ h1 65 49 = nI 0 ∧ h1 65 50 = nI 0 ∧ h1 65 9 = 0 := by
    rw [← hh]
    refine ⟨?_, ?_, ?_, ?_, ?_, ?_, ?_, ?_⟩ <;> simp [hu_at, nI_0]
  obtain ⟨v1, v2, v3, v4, v5, v6, v7, v8⟩ := v
  have H1 : MP h1 (Et S.1) S.1.2.2.2 true S.2.1.1.2.2.2 P0 := by
    obtain ⟨⟨gA, g1⟩, g2, g3, g4⟩ := H
    exact ⟨⟨gA, ME_0 g1 (sE0_rf _) rfl v8 (w65 8 (by decide) (by decide)) (fun b _ _ => w b (by omega))⟩, MX_fr g2 (w 66 (by decide)) (w 71 (by decide)) (w65 2 (by decide) (by decide)), (w65 36 (by decide) (by decide)).trans g3, MT_of g4 (w65 15 (by decide) (by decide)) (w 74 (by decide)) (w 75 (by decide))⟩
  have S1 : MSc (scfg S ch pk mo ln al) h1 (0, 0, 0) (fun _ => 0) := ⟨MD_fr s7 (w65 12 (by decide) (by decide)) (w 72 (by decide)) (w 73 (by decide)), ⟨v1, v2, v3, v4⟩, v5, v6, v7, fun z => absurd z (Nat.lt_irrefl _)⟩
  have x0 := msrch (c := scfg S ch pk mo ln al) hch hpk hmo 9 40 [] (Et S.1) P0 (0, 0, 0) (fun _ => 0) h1 (by decide) (by decide) (sI_top I T) (Nat.zero_le _) H1 S1 (fun i hi => absurd hi (Nat.not_lt_zero _))
  have x0 : Sp (gMS 40 0 (nI mo) h1) (MSq (scfg S ch pk mo ln al) S.1.2.2.2 S.2.1.1.2.2.2 h1 0 (s_go S P0 ch pk mo ln al)) := x0
  refine Sp_bind x0 (fun p _ g => ?_)
  obtain ⟨g1, ⟨ga, gb, gc, gd⟩, ⟨m1, -, m3, m4, m5, m6⟩, -, -⟩ := g
  refine Sp_let (Sp_let (Sp_some ⟨g1, ?_, ?_, ?_, ?_, ?_⟩)) <;> dsimp only
  · exact ME_0 gb kp.1 rfl (hu_same _ _ _ _) (by rw [hu_k _ _ _ _ (by decide), hu_k _ _ _ _ (by decide)]) (fun b _ _ => by rw [hu_ne (by omega), hu_ne (by omega)])
  · rw [hu_k _ _ _ _ (by decide), hu_k _ _ _ _ (by decide)]; exact gc
  · exact MT_of gd (by rw [hu_k _ _ _ _ (by decide), hu_k _ _ _ _ (by decide)]) (by rw [hu_ne (by decide), hu_ne (by decide)]) (by rw [hu_ne (by decide), hu_ne (by decide)])
  · exact MD_fr m1 (by rw [hu_k _ _ _ _ (by decide), hu_k _ _ _ _ (by decide)]) (by rw [hu_ne (by decide), hu_ne (by decide)]) (by rw [hu_ne (by decide), hu_ne (by decide)])
  · refine ⟨?_, ?_, ?_, ?_, fun z x hx => ?_⟩
    · rw [hu_k _ _ _ _ (by decide), hu_k _ _ _ _ (by decide)]; exact m3
    · rw [hu_k _ _ _ _ (by decide), hu_k _ _ _ _ (by decide)]; exact m4
    · rw [hu_k _ _ _ _ (by decide), hu_k _ _ _ _ (by decide)]; exact m5
    · rw [hu_k _ _ _ _ (by decide), hu_same]; exact gb.2.2.2.1
    · rw [hu_ne (by decide), hu_ne (by decide)]; exact m6 z x hx
