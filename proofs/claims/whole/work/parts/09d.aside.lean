/-! the model thinks: what is laid aside is laid back -/
theorem gbo_t {x : Int32} (h : x = 0 ∨ x = 1) : gbo x = true := decide_eq_true h
theorem gbo_b (b : Bool) : gbo (b2i b) = true := by cases b <;> rfl
theorem zb71 {h : gH} (z : ZB h) (k : Nat) : h 71 k = 0 ∨ h 71 k = 1 := z.1 71 (by decide) k
def asd (h h1 : gH) : Prop := (∀ x, x < 8 → h1 82 x = h 66 x) ∧ (∀ r, r < 24 → h1 83 r = h 71 r) ∧ h1 65 39 = h 65 2 ∧ h1 65 40 = h 65 20 ∧ h1 65 36 = 1 ∧ (∀ b, b ≠ 82 → b ≠ 83 → b ≠ 65 → h1 b = h b) ∧ ∀ k, k ≠ 39 → k ≠ 40 → k ≠ 36 → h1 65 k = h 65 k
theorem aside28 {h0 : gH} (z : ZB h0) : ∀ (m k fu : Nat) (h : gH), k + m = 24 → m < fu → (∀ x, x < 8 → h 82 x = h0 66 x) → (∀ r, r < k → h 83 r = h0 71 r) → (∀ b, b ≠ 82 → b ≠ 83 → h b = h0 b) → Sp (fM_laysAside_28 fu (nI k) h) (asd h0) := by
  intro m
  induction m with
  | zero =>
    intro k fu h hk hfu h82 h83 hfr
    obtain ⟨fu, rfl⟩ : ∃ f, fu = f + 1 := ⟨fu - 1, by omega⟩
    have hk : k = 24 := by omega
    subst hk
    unfold fM_laysAside_28
    have e65 := hfr 65 (by omega) (by omega)
    refine Sp_neg (by decide) (Sp_gg (gbo_t (by rw [e65]; exact z.2 2 (by decide))) (Sp_let (Sp_let (Sp_some ⟨fun x hx => ?_, fun r hr => ?_, ?_, ?_, hu_same _ _ _ _, fun b b1 b2 b3 => ?_, fun k k1 k2 k3 => ?_⟩))))
    · rw [hu_ne (by omega), hu_ne (by omega), hu_ne (by omega)]; exact h82 x hx
    · rw [hu_ne (by omega), hu_ne (by omega), hu_ne (by omega)]; exact h83 r hr
    · rw [hu_k _ _ _ _ (by omega), hu_k _ _ _ _ (by omega), hu_same, e65]
    · rw [hu_k _ _ _ _ (by omega), hu_same, hu_k _ _ _ _ (by omega), e65]
    · rw [hu_ne b3, hu_ne b3, hu_ne b3]; exact hfr b b1 b2
    · rw [hu_k _ _ _ _ k3, hu_k _ _ _ _ k2, hu_k _ _ _ _ k1, e65]
  | succ m ih =>
    intro k fu h hk hfu h82 h83 hfr
    obtain ⟨fu, rfl⟩ : ∃ f, fu = f + 1 := ⟨fu - 1, by omega⟩
    unfold fM_laysAside_28
    have e71 := hfr 71 (by omega) (by omega)
    refine Sp_pos (nltT (show k < 24 by omega) (by decide)) (Sp_gg (gin_t (by omega) (by omega)) (Sp_gg (gin_t (by omega) (by omega)) (Sp_gg (gbo_t (by rw [e71]; exact zb71 z _)) (Sp_let ?_))))
    rw [nadd_l, clampn (by omega)]
    refine ih (k + 1) fu _ (by omega) (by omega) (fun x hx => by rw [hu_ne (by omega)]; exact h82 x hx) (fun r hr => ?_) (fun b b1 b2 => by rw [hu_ne b2]; exact hfr b b1 b2)
    by_cases e : r = k
    · subst e; rw [hu_same, e71]
    · rw [hu_k _ _ _ _ e]; exact h83 r (by omega)
theorem aside2 {h0 : gH} (z : ZB h0) : ∀ (m k fu : Nat) (h : gH), k + m = 8 → m < fu → (∀ x, x < k → h 82 x = h0 66 x) → (∀ b, b ≠ 82 → h b = h0 b) → Sp (fM_laysAside_2 fu (nI k) h) (asd h0) := by
  intro m
  induction m with
  | zero =>
    intro k fu h hk hfu h82 hfr
    obtain ⟨fu, rfl⟩ : ∃ f, fu = f + 1 := ⟨fu - 1, by omega⟩
    have hk : k = 8 := by omega
    subst hk
    unfold fM_laysAside_2
    refine Sp_neg (by decide) ?_
    exact aside28 z 24 0 gfu h (by omega) (by unfold gfu; omega) h82 (fun r hr => by omega) (fun b b1 b2 => hfr b b1)
  | succ m ih =>
    intro k fu h hk hfu h82 hfr
    obtain ⟨fu, rfl⟩ : ∃ f, fu = f + 1 := ⟨fu - 1, by omega⟩
    unfold fM_laysAside_2
    have e66 := hfr 66 (by omega)
    refine Sp_pos (nltT (show k < 8 by omega) (by decide)) (Sp_gg (gin_t (by omega) (by omega)) (Sp_gg (gin_t (by omega) (by omega)) (Sp_let ?_)))
    rw [nadd_l, clampn (by omega)]
    refine ih (k + 1) fu _ (by omega) (by omega) (fun r hr => ?_) (fun b b1 => by rw [hu_ne b1]; exact hfr b b1)
    by_cases e : r = k
    · subst e; rw [hu_same, e66]
    · rw [hu_k _ _ _ _ e]; exact h82 r (by omega)
theorem aside_sp {h : gH} (z : ZB h) : Sp (fM_laysAside h) (asd h) := aside2 z 8 0 gfu h (by omega) (by unfold gfu; omega) (fun x hx => by omega) (fun _ _ => rfl)
def bck (h h1 : gH) : Prop := (∀ x, x < 8 → h1 66 x = h 82 x) ∧ (∀ r, r < 24 → h1 71 r = h 83 r) ∧ h1 65 2 = h 65 39 ∧ h1 65 20 = h 65 40 ∧ h1 65 36 = 0 ∧ (∀ b, b ≠ 66 → b ≠ 71 → b ≠ 65 → h1 b = h b) ∧ ∀ k, k ≠ 2 → k ≠ 20 → k ≠ 36 → h1 65 k = h 65 k
theorem back28 {h0 : gH} (z : ZB h0) : ∀ (m k fu : Nat) (h : gH), k + m = 24 → m < fu → (∀ x, x < 8 → h 66 x = h0 82 x) → (∀ r, r < k → h 71 r = h0 83 r) → (∀ b, b ≠ 66 → b ≠ 71 → h b = h0 b) → Sp (fM_laysBack_28 fu (nI k) h) (bck h0) := by
  intro m
  induction m with
  | zero =>
    intro k fu h hk hfu h82 h83 hfr
    obtain ⟨fu, rfl⟩ : ∃ f, fu = f + 1 := ⟨fu - 1, by omega⟩
    have hk : k = 24 := by omega
    subst hk
    unfold fM_laysBack_28
    have e65 := hfr 65 (by omega) (by omega)
    refine Sp_neg (by decide) (Sp_gg (gbo_t (by rw [e65]; exact z.2 39 (by decide))) (Sp_let (Sp_let (Sp_some ⟨fun x hx => ?_, fun r hr => ?_, ?_, ?_, hu_same _ _ _ _, fun b b1 b2 b3 => ?_, fun k k1 k2 k3 => ?_⟩))))
    · rw [hu_ne (by omega), hu_ne (by omega), hu_ne (by omega)]; exact h82 x hx
    · rw [hu_ne (by omega), hu_ne (by omega), hu_ne (by omega)]; exact h83 r hr
    · rw [hu_k _ _ _ _ (by omega), hu_k _ _ _ _ (by omega), hu_same, e65]
    · rw [hu_k _ _ _ _ (by omega), hu_same, hu_k _ _ _ _ (by omega), e65]
    · rw [hu_ne b3, hu_ne b3, hu_ne b3]; exact hfr b b1 b2
    · rw [hu_k _ _ _ _ k3, hu_k _ _ _ _ k2, hu_k _ _ _ _ k1, e65]
  | succ m ih =>
    intro k fu h hk hfu h82 h83 hfr
    obtain ⟨fu, rfl⟩ : ∃ f, fu = f + 1 := ⟨fu - 1, by omega⟩
    unfold fM_laysBack_28
    have e83 := hfr 83 (by omega) (by omega)
    refine Sp_pos (nltT (show k < 24 by omega) (by decide)) (Sp_gg (gin_t (by omega) (by omega)) (Sp_gg (gin_t (by omega) (by omega)) (Sp_gg (gbo_t (by rw [e83]; exact z.1 83 (by decide) _)) (Sp_let ?_))))
    rw [nadd_l, clampn (by omega)]
    refine ih (k + 1) fu _ (by omega) (by omega) (fun x hx => by rw [hu_ne (by omega)]; exact h82 x hx) (fun r hr => ?_) (fun b b1 b2 => by rw [hu_ne b2]; exact hfr b b1 b2)
    by_cases e : r = k
    · subst e; rw [hu_same, e83]
    · rw [hu_k _ _ _ _ e]; exact h83 r (by omega)
theorem back2 {h0 : gH} (z : ZB h0) : ∀ (m k fu : Nat) (h : gH), k + m = 8 → m < fu → (∀ x, x < k → h 66 x = h0 82 x) → (∀ b, b ≠ 66 → h b = h0 b) → Sp (fM_laysBack_2 fu (nI k) h) (bck h0) := by
  intro m
  induction m with
  | zero =>
    intro k fu h hk hfu h82 hfr
    obtain ⟨fu, rfl⟩ : ∃ f, fu = f + 1 := ⟨fu - 1, by omega⟩
    have hk : k = 8 := by omega
    subst hk
    unfold fM_laysBack_2
    refine Sp_neg (by decide) ?_
    exact back28 z 24 0 gfu h (by omega) (by unfold gfu; omega) h82 (fun r hr => by omega) (fun b b1 b2 => hfr b b1)
  | succ m ih =>
    intro k fu h hk hfu h82 hfr
    obtain ⟨fu, rfl⟩ : ∃ f, fu = f + 1 := ⟨fu - 1, by omega⟩
    unfold fM_laysBack_2
    have e66 := hfr 82 (by omega)
    refine Sp_pos (nltT (show k < 8 by omega) (by decide)) (Sp_gg (gin_t (by omega) (by omega)) (Sp_gg (gin_t (by omega) (by omega)) (Sp_let ?_)))
    rw [nadd_l, clampn (by omega)]
    refine ih (k + 1) fu _ (by omega) (by omega) (fun r hr => ?_) (fun b b1 => by rw [hu_ne b1]; exact hfr b b1)
    by_cases e : r = k
    · subst e; rw [hu_same, e66]
    · rw [hu_k _ _ _ _ e]; exact h82 r (by omega)
theorem back_sp {h : gH} (z : ZB h) : Sp (fM_laysBack h) (bck h) := back2 z 8 0 gfu h (by omega) (by unfold gfu; omega) (fun x hx => by omega) (fun _ _ => rfl)
/-- within a thought: what lies aside, and what stands -/
def TH (h0 : gH) (R : qR) (K : qK) (h : gH) : Prop := (∀ x, x < 8 → h 82 x = h0 66 x) ∧ (∀ r, r < 24 → h 83 r = h0 71 r) ∧ h 65 39 = h0 65 2 ∧ h 65 40 = h0 65 20 ∧ h 65 36 = 1 ∧ MT h K.1.2.2.2 ∧ ME h (Et R) R.2.2.2 ∧ MD h K.2.1.1 K.2.1.2 ∧ MLv h K.2.2.1 ∧ ZB h
theorem TH_aside {h : gH} {R : qR} {K : qK} (H : MC h R K) (z : ZB h) : Sp (fM_laysAside h) (TH h R K) := by
  refine Sp_mono (Sp_and (aside_sp z) (fun x e => fM_laysAside_zb z e)) (fun h1 q => ?_)
  obtain ⟨⟨a1, a2, a3, a4, a5, a6, a7⟩, zz⟩ := q
  obtain ⟨hP, hr, hd, hl⟩ := H
  exact ⟨a1, a2, a3, a4, a5, MT_of hP.2.2.2 (a7 15 (by omega) (by omega) (by omega)) (a6 74 (by omega) (by omega) (by omega)) (a6 75 (by omega) (by omega) (by omega)),
    ME_fr hP.1.2 (a7 8 (by omega) (by omega) (by omega)) (a7 9 (by omega) (by omega) (by omega)) (a6 67 (by omega) (by omega) (by omega)) (a6 68 (by omega) (by omega) (by omega)) (a6 69 (by omega) (by omega) (by omega)) (a6 70 (by omega) (by omega) (by omega)),
    MD_fr hd (a7 12 (by omega) (by omega) (by omega)) (a6 72 (by omega) (by omega) (by omega)) (a6 73 (by omega) (by omega) (by omega)),
    MLv_fr hl (a7 19 (by omega) (by omega) (by omega)) (a6 76 (by omega) (by omega) (by omega)) (a6 77 (by omega) (by omega) (by omega)) (a6 78 (by omega) (by omega) (by omega)), zz⟩
theorem TH_back {h0 h : gH} {R : qR} {K : qK} (H : TH h0 R K h) (H0 : MC h0 R K) : Sp (fM_laysBack h) (fun h1 => MC h1 R K ∧ ZB h1) := by
  obtain ⟨t1, t2, t3, t4, t5, t6, t7, t8, t9, z⟩ := H
  refine Sp_mono (Sp_and (back_sp z) (fun x e => fM_laysBack_zb z e)) (fun h1 q => ?_)
  obtain ⟨⟨a1, a2, a3, a4, a5, a6, a7⟩, zz⟩ := q
  obtain ⟨⟨⟨hA, hM⟩, hX, h36, hT⟩, hr, hd, hl⟩ := H0
  refine ⟨⟨⟨⟨hA, ?_⟩, ⟨fun x hx => ?_, fun r hr0 hv => ?_, ?_⟩, a5, ?_⟩, ?_, ?_, ?_⟩, zz⟩
  · exact ME_fr t7 (a7 8 (by omega) (by omega) (by omega)) (a7 9 (by omega) (by omega) (by omega)) (a6 67 (by omega) (by omega) (by omega)) (a6 68 (by omega) (by omega) (by omega)) (a6 69 (by omega) (by omega) (by omega)) (a6 70 (by omega) (by omega) (by omega))
  · rw [a1 x hx, t1 x hx]; exact hX.1 x hx
  · rw [a2 r hr0, t2 r hr0]; exact hX.2.1 r hr0 hv
  · rw [a3, t3]; exact hX.2.2
  · exact MT_of t6 (a7 15 (by omega) (by omega) (by omega)) (a6 74 (by omega) (by omega) (by omega)) (a6 75 (by omega) (by omega) (by omega))
  · rw [a4, t4]; exact hr
  · exact MD_fr t8 (a7 12 (by omega) (by omega) (by omega)) (a6 72 (by omega) (by omega) (by omega)) (a6 73 (by omega) (by omega) (by omega))
  · exact MLv_fr t9 (a7 19 (by omega) (by omega) (by omega)) (a6 76 (by omega) (by omega) (by omega)) (a6 77 (by omega) (by omega) (by omega)) (a6 78 (by omega) (by omega) (by omega))
/-- a thought: from the start, with some decisions, without a rule or with all, to its end -/
def qthink (E : qE) (b : Option Nat) (dec : Nat → Nat × Int32) (mk : Nat → Bool) (d : Nat) : qP := qiter (Ebt E b) 2024 (qst (Ebt E b) dec mk d)
theorem qdcs_none (E : qE) (dec : Nat → Nat × Int32) (mk : Nat → Bool) (rsf : Nat → Int32) (hm : ∀ i, mk i = false) : ∀ (m k : Nat) (P : qP), qdcs E dec mk rsf k m P = P := by
  intro m
  induction m with
  | zero => intro k P; rfl
  | succ m ih => intro k P; rw [qdcs_s, ih, hm k]; simp
theorem TH_starts {h0 h : gH} {R : qR} {K : qK} (H : TH h0 R K h) (mk : Int32) {b : Option Nat} (hb : ∀ b0, b = some b0 → b0 < R.1) :
    Sp (fM_starts mk 0 (oI b) h) (fun h1 => TH h0 R K h1 ∧ MX Vno h1 (qthink (Et R) b K.2.1.2 (bt mk) K.2.1.1).1 qemp (qthink (Et R) b K.2.1.2 (bt mk) K.2.1.1).2.2.1) := by
  obtain ⟨t1, t2, t3, t4, t5, t6, t7, t8, t9, z⟩ := H
  have h0' : ∀ i, bt 0 i = false := bt_0
  refine Sp_mono (Sp_and (Sp_and (starts_sp (tr := fun _ => (0, 0)) (mk := mk) (mk2 := 0) (E := Et R) hb t5 t6 t7 t8 (fun i _ q => by rw [h0'] at q; cases q)) (fun x e => fM_starts_fr e)) (fun x e => fM_starts_zb z e)) (fun h1 q => ?_)
  obtain ⟨⟨⟨hX, h9, h36, hT⟩, fr⟩, zz⟩ := q
  refine ⟨⟨fun x hx => ?_, fun r hr => ?_, ?_, ?_, h36, hT, ?_, ?_, ?_, zz⟩, ?_⟩
  · rw [gfr_row fr 82 (by decide) (by decide)]; exact t1 x hx
  · rw [gfr_row fr 83 (by decide) (by decide)]; exact t2 r hr
  · rw [gfr_fld fr 65 39 (by decide) (by decide)]; exact t3
  · rw [gfr_fld fr 65 40 (by decide) (by decide)]; exact t4
  · exact ME_fr t7 (gfr_fld fr 65 8 (by decide) (by decide)) (h9.trans t7.2.2.2.1.symm) (gfr_row fr 67 (by decide) (by decide)) (gfr_row fr 68 (by decide) (by decide)) (gfr_row fr 69 (by decide) (by decide)) (gfr_row fr 70 (by decide) (by decide))
  · exact MD_fr t8 (gfr_fld fr 65 12 (by decide) (by decide)) (gfr_row fr 72 (by decide) (by decide)) (gfr_row fr 73 (by decide) (by decide))
  · exact MLv_fr t9 (gfr_fld fr 65 19 (by decide) (by decide)) (gfr_row fr 76 (by decide) (by decide)) (gfr_row fr 77 (by decide) (by decide)) (gfr_row fr 78 (by decide) (by decide))
  · unfold qth at hX
    rw [qdcs_none _ _ _ _ h0'] at hX
    exact hX
