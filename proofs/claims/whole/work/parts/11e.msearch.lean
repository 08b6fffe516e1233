/-! the reference searches -/
theorem mdec {E : qE} {kd : Nat → Nat} {t0 : qT} {h : gH} {P : qP} {x : Nat} (hx : x < 8) (s : Int32) (H : MP h E kd true t0 P) (hne : qany (P.1 x) = true) (hf : P.2.2.1 = false) : Sp (fM_decides (nI x) s 0 h) (fun h' => MP h' E kd true t0 (qnw E x s 100 P) ∧ gfr [66, 74, 75, 71] [(65, 35), (65, 15), (65, 2)] h h') := by
  obtain ⟨⟨gA, g1⟩, g2, g3, g4⟩ := H
  have g2' : MX (Eact E) h P.1 P.2.1 false := by rw [← hf]; exact g2
  refine Sp_mono (Sp_and (decides_sp (th := true) hx g1.1 g1.2.1 s 0 g2' g3 g4 hne (Or.inl rfl) g1.2.2.1 g1.2.2.2.1) (fun _ e => fM_decides_fr e)) (fun h' q => ?_)
  obtain ⟨⟨q1, q2⟩, fr⟩ := q
  refine ⟨⟨⟨gA, ME_fr g1 (gfr_fld fr 65 8 rfl rfl) (gfr_fld fr 65 9 rfl rfl) (gfr_row fr 67 rfl rfl) (gfr_row fr 68 rfl rfl) (gfr_row fr 69 rfl rfl) (gfr_row fr 70 rfl rfl)⟩, MX_congr q1 (fun _ _ _ _ => rfl) (fun r hr ha => ?_) (by show (P.2.2.1 || _) = _; rw [hf]; rfl), (gfr_fld fr 65 36 rfl rfl).trans g3, q2⟩, fr⟩
  show qwk P.2.1 (P.2.2.1 || !qany (qnar P.1 x (bt s) x)) (qany (fun v => P.1 x v && !bt s v)) (fun r => Ev E r x && Eact E r) r = _
  unfold qwk
  rw [hf, Bool.false_or]
  have ev : bt (h 68 r) x = Ev E r x := by rw [ME_68 g1 ha, bt_mkn (by decide), decide_eq_true hx, Bool.true_and]
  have ea : qact (En E) (El E) 0 r = Eact E r := by unfold Eact; rw [gA r, Bool.and_true]
  dsimp only
  rw [ev, ea, Bool.and_comm (Ev E r x)]
/-- the search's own -/
def MSc (c : sC) (h : gH) (st : Nat × Nat × Nat) (sol : Nat → Nat) : Prop := MD h (cd c) (cdec c) ∧ (h 65 44 = nI (cch c) ∧ h 65 45 = nI (cpk c) ∧ h 65 46 = b2i (cln c) ∧ h 65 47 = b2i (cal c)) ∧ h 65 48 = nI st.1 ∧ h 65 49 = nI st.2.1 ∧ h 65 50 = nI st.2.2 ∧ (0 < st.2.2 → ∀ x, x < 8 → h 87 x = nI (sol x))
theorem MSc_fr {c : sC} {h h1 : gH} {st : Nat × Nat × Nat} {sol : Nat → Nat} (H : MSc c h st sol) (a : ∀ k, k = 12 ∨ (44 ≤ k ∧ k ≤ 50) → h1 65 k = h 65 k) (b72 : h1 72 = h 72) (b73 : h1 73 = h 73) (b87 : h1 87 = h 87) : MSc c h1 st sol := by
  obtain ⟨g1, ⟨g2, g3, g4, g5⟩, g6, g7, g8, g9⟩ := H
  exact ⟨MD_fr g1 (a 12 (by omega)) b72 b73, ⟨(a 44 (by omega)).trans g2, (a 45 (by omega)).trans g3, (a 46 (by omega)).trans g4, (a 47 (by omega)).trans g5⟩, (a 48 (by omega)).trans g6, (a 49 (by omega)).trans g7, (a 50 (by omega)).trans g8, fun q x hx => by rw [b87]; exact g9 q x hx⟩
theorem MSc_g {c : sC} {h h1 : gH} {st : Nat × Nat × Nat} {sol : Nat → Nat} {W : List Nat} {F : List (Nat × Nat)} (H : MSc c h st sol) (fr : gfr W F h h1) (w : [65, 72, 73, 87].all (fun b => !W.contains b) = true) (f0 : F.all (fun c => decide (c.1 = 65)) = true) (f : [12, 44, 45, 46, 47, 48, 49, 50].all (fun k => !F.contains (65, k)) = true) : MSc c h1 st sol := by
  have w' : ∀ b, b ∈ [65, 72, 73, 87] → W.contains b = false := fun b hb => by have := List.all_eq_true.mp w b hb; simpa using this
  have f' : ∀ k, k ∈ [12, 44, 45, 46, 47, 48, 49, 50] → F.contains (65, k) = false := fun k hk => by have := List.all_eq_true.mp f k hk; simpa using this
  have r : ∀ b, b ≠ 65 → W.contains b = false → h1 b = h b := fun b b0 hb => gfr_row fr b hb (List.all_eq_true.mpr fun c hc => by
    have := of_decide_eq_true (List.all_eq_true.mp f0 c hc)
    rw [this, decide_eq_false (Ne.symm b0)]; rfl)
  refine MSc_fr H (fun k hk => gfr_fld fr 65 k (w' 65 (by decide)) (f' k ?_)) (r 72 (by decide) (w' 72 (by decide))) (r 73 (by decide) (w' 73 (by decide))) (r 87 (by decide) (w' 87 (by decide)))
  have : k = 12 ∨ k = 44 ∨ k = 45 ∨ k = 46 ∨ k = 47 ∨ k = 48 ∨ k = 49 ∨ k = 50 := by omega
  rcases this with e | e | e | e | e | e | e | e <;> subst e <;> decide
def MSe (E : qE) (kd : Nat → Nat) (t0 : qT) (h : gH) : Prop := Eall E ∧ ME h E kd ∧ h 65 36 = 1 ∧ MT h t0
theorem MSe_of {E : qE} {kd : Nat → Nat} {t0 : qT} {h : gH} {P : qP} (H : MP h E kd true t0 P) : MSe E kd t0 h := ⟨H.1.1, H.1.2, H.2.2.1, H.2.2.2⟩
theorem MSe_fr {E : qE} {kd : Nat → Nat} {t0 : qT} {h h1 : gH} (H : MSe E kd t0 h) (a : ∀ k, k = 8 ∨ k = 9 ∨ k = 15 ∨ k = 36 → h1 65 k = h 65 k) (b : ∀ b, (67 ≤ b ∧ b ≤ 70) ∨ b = 74 ∨ b = 75 → h1 b = h b) : MSe E kd t0 h1 := ⟨H.1, ME_fr H.2.1 (a 8 (by omega)) (a 9 (by omega)) (b 67 (by omega)) (b 68 (by omega)) (b 69 (by omega)) (b 70 (by omega)), (a 36 (by omega)).trans H.2.2.1, MT_of H.2.2.2 (a 15 (by omega)) (b 74 (by omega)) (b 75 (by omega))⟩
def scode (r : Nat) : Int32 := if r = 0 then 0 else if r = 1 then 1 else -6
/-- what stands below depth n stays -/
def mlow (n : Nat) (h h1 : gH) : Prop := (∀ i, i < n → h1 84 i = h 84 i ∧ h1 85 i = h 85 i) ∧ ∀ q, q < 8 * n → h1 88 q = h 88 q
theorem mlow_rf (n : Nat) (h : gH) : mlow n h h := ⟨fun _ _ => ⟨rfl, rfl⟩, fun _ _ => rfl⟩
theorem mlow_tr {n : Nat} {a b c : gH} (h1 : mlow n a b) (h2 : mlow n b c) : mlow n a c := ⟨fun i hi => ⟨(h2.1 i hi).1.trans (h1.1 i hi).1, (h2.1 i hi).2.trans (h1.1 i hi).2⟩, fun q hq => (h2.2 q hq).trans (h1.2 q hq)⟩
theorem mlow_of {n : Nat} {h h1 : gH} (a : h1 84 = h 84) (b : h1 85 = h 85) (c : h1 88 = h 88) : mlow n h h1 := ⟨fun i _ => ⟨by rw [a], by rw [b]⟩, fun q _ => by rw [c]⟩
def MSq (c : sC) (kd : Nat → Nat) (t0 : qT) (h : gH) (n : Nat) (r : Nat × Bool × sQ) (p : Int32 × gH) : Prop := p.1 = scode r.1 ∧ MSe r.2.2.1 kd t0 p.2 ∧ MSc c p.2 r.2.2.2.2.1 r.2.2.2.2.2 ∧ (r.1 = 0 → p.2 65 53 = b2i r.2.1) ∧ mlow n h p.2
theorem m159 {R : Int32 → Int32 → gH → Option (Int32 × gH)} {k10 : Int32 → gH → Option (Int32 × gH)} {d : Nat} (hd : d < 16) {v2 v3 v4 v5 : Int32} {h0 : gH} {Q : Int32 × gH → Prop} (hQ : ∀ h1, (∀ y, y < 8 → h1 88 (8 * d + y) = h0 66 y) → (∀ q, q < 8 * d → h1 88 q = h0 88 q) → (∀ b, b ≠ 88 → h1 b = h0 b) → Sp (fM_searches_159 R k10 (nI d) v2 v3 v4 v5 1 (nI 8) h1) Q) : ∀ (m k fu : Nat) (h : gH), k + m = 8 → m < fu → (∀ y, y < k → h 88 (8 * d + y) = h0 66 y) → (∀ q, q < 8 * d → h 88 q = h0 88 q) → (∀ b, b ≠ 88 → h b = h0 b) → Sp (fM_searches_159 R k10 (nI d) v2 v3 v4 v5 fu (nI k) h) Q := by
  intro m
  induction m with
  | zero =>
    intro k fu h hk hfu a b e
    obtain ⟨fu, rfl⟩ : ∃ f, fu = f + 1 := ⟨fu - 1, by omega⟩
    have : k = 8 := by omega
    subst this
    have := hQ h a b e
    unfold fM_searches_159 at this ⊢
    rw [if_neg (show ¬ nI 8 < 8 by decide)] at this ⊢
    exact this
  | succ m ih =>
    intro k fu h hk hfu a b e
    obtain ⟨fu, rfl⟩ : ∃ f, fu = f + 1 := ⟨fu - 1, by omega⟩
    unfold fM_searches_159
    refine Sp_pos (nltT (show k < 8 by omega) (by decide)) (Sp_gg (gin_t (by omega) (by omega)) ?_)
    rw [show (8 : Int32) * nI d = nI (8 * d) from nmul 8 d, nI_add]
    refine Sp_gg (gin_t (by omega) (by omega)) (Sp_let ?_)
    rw [nadd_l k 1, clampn (show k < 2 ^ 31 by omega), clampn (by omega)]
    refine ih (k + 1) fu _ (by omega) (by omega) (fun y hy => ?_) (fun q hq => by rw [hu_k _ _ _ _ (by omega)]; exact b q hq) (fun o ho => by rw [hu_ne ho]; exact e o ho)
    by_cases ey : y = k
    · rw [ey, hu_same, e 66 (by decide)]
    · rw [hu_k _ _ _ _ (by omega)]; exact a y (by omega)
theorem m272 {R : Int32 → Int32 → gH → Option (Int32 × gH)} {k10 : Int32 → gH → Option (Int32 × gH)} {d : Nat} (hd : d < 16) {v2 v3 v4 v5 v7 : Int32} {h0 : gH} {Q : Int32 × gH → Prop} (hQ : ∀ h1, (∀ y, y < 8 → h1 66 y = h0 88 (8 * d + y)) → (∀ b, b ≠ 66 → h1 b = h0 b) → Sp (fM_searches_272 R k10 (nI d) v2 v3 v4 v5 v7 1 (nI 8) h1) Q) : ∀ (m k fu : Nat) (h : gH), k + m = 8 → m < fu → (∀ y, y < k → h 66 y = h0 88 (8 * d + y)) → (∀ b, b ≠ 66 → h b = h0 b) → Sp (fM_searches_272 R k10 (nI d) v2 v3 v4 v5 v7 fu (nI k) h) Q := by
  intro m
  induction m with
  | zero =>
    intro k fu h hk hfu a e
    obtain ⟨fu, rfl⟩ : ∃ f, fu = f + 1 := ⟨fu - 1, by omega⟩
    have : k = 8 := by omega
    subst this
    have := hQ h a e
    unfold fM_searches_272 at this ⊢
    rw [if_neg (show ¬ nI 8 < 8 by decide)] at this ⊢
    exact this
  | succ m ih =>
    intro k fu h hk hfu a e
    obtain ⟨fu, rfl⟩ : ∃ f, fu = f + 1 := ⟨fu - 1, by omega⟩
    unfold fM_searches_272
    rw [show (8 : Int32) * nI d = nI (8 * d) from nmul 8 d, nI_add]
    refine Sp_pos (nltT (show k < 8 by omega) (by decide)) (Sp_gg (gin_t (by omega) (by omega)) (Sp_gg (gin_t (by omega) (by omega)) (Sp_let ?_)))
    rw [nadd_l k 1, clampn (show k < 2 ^ 31 by omega), clampn (by omega)]
    refine ih (k + 1) fu _ (by omega) (by omega) (fun y hy => ?_) (fun o ho => by rw [hu_ne ho]; exact e o ho)
    by_cases ey : y = k
    · rw [ey, hu_same, e 88 (by decide)]
    · rw [hu_k _ _ _ _ ey]; exact a y (by omega)
theorem m159_0 {R : Int32 → Int32 → gH → Option (Int32 × gH)} {k10 : Int32 → gH → Option (Int32 × gH)} {d : Nat} (hd : d < 16) {v2 v3 v4 v5 : Int32} {h0 : gH} {Q : Int32 × gH → Prop} (hQ : ∀ h1, (∀ y, y < 8 → h1 88 (8 * d + y) = h0 66 y) → (∀ q, q < 8 * d → h1 88 q = h0 88 q) → (∀ b, b ≠ 88 → h1 b = h0 b) → Sp (fM_searches_159 R k10 (nI d) v2 v3 v4 v5 1 (nI 8) h1) Q) : Sp (fM_searches_159 R k10 (nI d) v2 v3 v4 v5 gfu 0 h0) Q := by
  have x0 := m159 hd hQ 8 0 gfu h0 rfl (by unfold gfu; omega) (fun y hy => absurd hy (Nat.not_lt_zero _)) (fun _ _ => rfl) (fun _ _ => rfl)
  rw [nI_0] at x0
  exact x0
theorem m272_0 {R : Int32 → Int32 → gH → Option (Int32 × gH)} {k10 : Int32 → gH → Option (Int32 × gH)} {d : Nat} (hd : d < 16) {v2 v3 v4 v5 v7 : Int32} {h0 : gH} {Q : Int32 × gH → Prop} (hQ : ∀ h1, (∀ y, y < 8 → h1 66 y = h0 88 (8 * d + y)) → (∀ b, b ≠ 66 → h1 b = h0 b) → Sp (fM_searches_272 R k10 (nI d) v2 v3 v4 v5 v7 1 (nI 8) h1) Q) : Sp (fM_searches_272 R k10 (nI d) v2 v3 v4 v5 v7 gfu 0 h0) Q := by
  have x0 := m272 hd hQ 8 0 gfu h0 rfl (by unfold gfu; omega) (fun y hy => absurd hy (Nat.not_lt_zero _)) (fun _ _ => rfl)
  rw [nI_0] at x0
  exact x0
theorem m65 {R : Int32 → Int32 → gH → Option (Int32 × gH)} {D : Nat → Nat → Bool} (hne : ∀ x, x < 8 → qany (D x) = true) {h0 : gH} (hD : ∀ x, x < 8 → h0 66 x = mkn 10 (D x)) {al : Bool} (e47 : h0 65 47 = b2i al) : ∀ (m k fu : Nat) (h : gH), k + m = 8 → m < fu → (∀ y, y < k → h 87 y = nI (nthb (D y) 10 0 0)) → (∀ b, b ≠ 87 → h b = h0 b) → Sp (fM_searches_65 R fu (nI k) h) (fun p => p.1 = scode (if al = true then 0 else 1) ∧ p.2 65 53 = 0 ∧ (∀ x, x < 8 → p.2 87 x = nI (nthb (D x) 10 0 0)) ∧ (∀ b, b ≠ 87 → b ≠ 65 → p.2 b = h0 b) ∧ ∀ k, k ≠ 53 → p.2 65 k = h0 65 k) := by
  intro m
  induction m with
  | zero =>
    intro k fu h hk hfu a b
    obtain ⟨fu, rfl⟩ : ∃ f, fu = f + 1 := ⟨fu - 1, by omega⟩
    have : k = 8 := by omega
    subst this
    unfold fM_searches_65
    refine Sp_neg (by decide) (Sp_let ?_)
    have e : hu h 65 53 0 65 47 = b2i al := by rw [hu_k _ _ _ _ (by decide), b 65 (by decide)]; exact e47
    have r : ∀ v : Int32, v = scode (if al = true then 0 else 1) → Sp (some (v, hu h 65 53 0)) (fun p => p.1 = scode (if al = true then 0 else 1) ∧ p.2 65 53 = 0 ∧ (∀ x, x < 8 → p.2 87 x = nI (nthb (D x) 10 0 0)) ∧ (∀ b, b ≠ 87 → b ≠ 65 → p.2 b = h0 b) ∧ ∀ k, k ≠ 53 → p.2 65 k = h0 65 k) := fun v hv => Sp_some ⟨hv, (by dsimp only; rw [hu_same]), fun x hx => (by dsimp only; rw [hu_ne (by decide)]; exact a x hx), fun o b1 b2 => (by dsimp only; rw [hu_ne b2]; exact b o b1), fun k hk => (by dsimp only; rw [hu_k _ _ _ _ hk, b 65 (by decide)])⟩
    cases al with
    | true => exact Sp_neg (by rw [e]; decide) (r 0 rfl)
    | false => exact Sp_pos (by rw [e]; rfl) (r 1 rfl)
  | succ m ih =>
    intro k fu h hk hfu a b
    obtain ⟨fu, rfl⟩ : ∃ f, fu = f + 1 := ⟨fu - 1, by omega⟩
    unfold fM_searches_65
    refine Sp_pos (nltT (show k < 8 by omega) (by decide)) (Sp_gg (gin_t (by omega) (by omega)) ?_)
    rw [clampn (show k < 2 ^ 31 by omega), b 66 (by decide), hD k (by omega)]
    refine Sp_eq (lowM (hne k (by omega)) h) (Sp_gg (gin_t (by omega) (by omega)) (Sp_let ?_))
    rw [nadd_l k 1]
    refine ih (k + 1) fu _ (by omega) (by omega) (fun y hy => ?_) (fun o ho => by dsimp only; rw [hu_ne ho]; exact b o ho)
    dsimp only
    by_cases ey : y = k
    · rw [ey, hu_same]
    · rw [hu_k _ _ _ _ ey]; exact a y (by omega)
/-- the try is taken back: what was saved is laid back, and its value goes -/
theorem m258 {c : sC} {kd : Nat → Nat} {t0 : qT} {R : Int32 → Int32 → gH → Option (Int32 × gH)} {k10 : Int32 → gH → Option (Int32 × gH)} {pth : List (Nat × Nat)} (hl : pth.length < 8) {E1 E2 : qE} {P1 P2 : qP} {x v : Nat} (hx : x < 8) (ls : Bool) (he : ls = true → El E2 = El E1 + 1 ∧ El E1 < 8 ∧ (∀ r, r ≠ 16 + El E1 → Eact E2 r = Eact E1 r ∧ Ev E2 r = Ev E1 r) ∧ P2 = swake (16 + El E1) (sback E1 x v P1)) (he0 : ls = false → E2 = E1 ∧ P2 = sback E1 x v P1) (hne : ∀ x, x < 8 → qany (P1.1 x) = true) {st : Nat × Nat × Nat} {sol : Nat → Nat} {h : gH} {v2 : Int32} (He : MSe E2 kd t0 h) (S : MSc c h st sol) (Mp : MPth h pth) (sv : ∀ y, y < 8 → h 88 (8 * pth.length + y) = mkn 10 (P1.1 y)) {Q : Int32 × gH → Prop}
    (hK : ∀ h6, MP h6 E2 kd true t0 P2 → MSc c h6 st sol → MPth h6 pth → mlow pth.length h h6 → Sp (k10 0 h6) Q) : Sp (fM_searches_258 R k10 (nI pth.length) v2 0 (nI x) (nI v) (b2i ls) h) Q := by
  unfold fM_searches_258
  refine Sp_let ?_
  have cl : Sp (fM_clears (hu h 65 53 0)) (fun h1 => (∀ r, r < 24 → h1 71 r = 0) ∧ h1 65 2 = 0 ∧ gfr [71] [(65, 2)] (hu h 65 53 0) h1) := by
    have lp : ∀ (m k fu : Nat) (g : gH), k + m = 24 → m < fu → (∀ r, r < k → g 71 r = 0) → Sp (fM_clears_2 fu (nI k) g) (fun h1 => (∀ r, r < 24 → h1 71 r = 0) ∧ h1 65 2 = 0) := by
      intro m
      induction m with
      | zero =>
        intro k fu g hk hfu a
        obtain ⟨fu, rfl⟩ : ∃ f, fu = f + 1 := ⟨fu - 1, by omega⟩
        have : k = 24 := by omega
        subst this
        unfold fM_clears_2
        exact Sp_neg (by decide) (Sp_some ⟨fun r hr => by rw [hu_ne (by decide)]; exact a r hr, hu_same _ _ _ _⟩)
      | succ m ih =>
        intro k fu g hk hfu a
        obtain ⟨fu, rfl⟩ : ∃ f, fu = f + 1 := ⟨fu - 1, by omega⟩
        unfold fM_clears_2
        refine Sp_pos (nltT (show k < 24 by omega) (by decide)) (Sp_gg (gin_t (by omega) (by omega)) (Sp_let ?_))
        rw [nadd_l k 1, clampn (by omega)]
        refine ih (k + 1) fu _ (by omega) (by omega) (fun r hr => ?_)
        by_cases e : r = k
        · rw [e, hu_same]
        · rw [hu_k _ _ _ _ e]; exact a r (by omega)
    have x0 := lp 24 0 gfu (hu h 65 53 0) rfl (by unfold gfu; omega) (fun r hr => absurd hr (Nat.not_lt_zero _))
    rw [nI_0] at x0
    exact Sp_mono (Sp_and (show Sp (fM_clears (hu h 65 53 0)) _ from x0) (fun _ e => fM_clears_fr e)) (fun h1 q => ⟨q.1.1, q.1.2, q.2⟩)
  refine Sp_bind cl (fun h1 _ q => ?_)
  obtain ⟨q1, q2, fr⟩ := q
  have b1 : ∀ b, b ≠ 71 → b ≠ 65 → h1 b = h b := fun b x1 x2 => by
    have : h1 b = hu h 65 53 0 b := funext fun k => fr b k (by simp; exact x1) (by simp; exact fun z => absurd z x2)
    rw [this, hu_ne x2]
  have f1 : ∀ k, k ≠ 2 → k ≠ 53 → h1 65 k = h 65 k := fun k k1 k2 => by
    rw [fr 65 k (by simp) (by simp; exact k1), hu_k _ _ _ _ k2]
  refine m272_0 (show pth.length < 16 by omega) (fun h2 a1 a2 => ?_)
  have b2 : ∀ b, b ≠ 66 → b ≠ 71 → b ≠ 65 → h2 b = h b := fun b x0 x1 x2 => by rw [a2 b x0]; exact b1 b x1 x2
  have f2 : ∀ k, k ≠ 2 → k ≠ 53 → h2 65 k = h 65 k := fun k k1 k2 => by rw [a2 65 (by decide)]; exact f1 k k1 k2
  have He2 : MSe E2 kd t0 h2 := MSe_fr He (fun k hk => f2 k (by omega) (by omega)) (fun b hb => b2 b (by omega) (by omega) (by omega))
  have S2 : MSc c h2 st sol := MSc_fr S (fun k hk => f2 k (by omega) (by omega)) (b2 72 (by decide) (by decide) (by decide)) (b2 73 (by decide) (by decide) (by decide)) (b2 87 (by decide) (by decide) (by decide))
  have H2 : MP h2 E2 kd true t0 (P1.1, qemp, false, P1.2.2.2) := ⟨⟨He2.1, He2.2.1⟩, ⟨fun y hy => by rw [a1 y hy, b1 88 (by decide) (by decide)]; exact sv y hy, fun r hr _ => by rw [a2 71 (by decide)]; exact q1 r hr, by rw [a2 65 (by decide)]; exact q2⟩, He2.2.2.1, He2.2.2.2⟩
  unfold fM_searches_272
  refine Sp_neg (by decide) (Sp_bind (mdec hx (sbit v ^^^ (-1 : Int32)) H2 (hne x hx) rfl) (fun h3 _ q3 => ?_))
  obtain ⟨H3, fr3⟩ := q3
  have S3 : MSc c h3 st sol := MSc_g S2 fr3 rfl rfl rfl
  have r84 : h3 84 = h 84 := (gfr_row fr3 84 rfl rfl).trans (b2 84 (by decide) (by decide) (by decide))
  have r85 : h3 85 = h 85 := (gfr_row fr3 85 rfl rfl).trans (b2 85 (by decide) (by decide) (by decide))
  have r88 : h3 88 = h 88 := (gfr_row fr3 88 rfl rfl).trans (b2 88 (by decide) (by decide) (by decide))
  have Mp3 : MPth h3 pth := fun i hi => by rw [r84, r85]; exact Mp i hi
  have L3 : mlow pth.length h h3 := mlow_of r84 r85 r88
  cases ls with
  | false =>
    obtain ⟨e1, e2⟩ := he0 rfl
    refine Sp_pos rfl (hK h3 ?_ S3 Mp3 L3)
    rw [e2, ← e1]; exact H3
  | true =>
    obtain ⟨e1, e2, e3, e4⟩ := he rfl
    refine Sp_neg (by decide) ?_
    have e9 : h3 65 9 = nI (El E1 + 1) := by rw [← e1]; exact H3.1.2.2.2.2.1
    rw [e9, show (16 : Int32) + nI (El E1 + 1) = nI (16 + (El E1 + 1)) from nI_add 16 _, show nI (16 + (El E1 + 1)) - (1 : Int32) = nI (16 + El E1) from nsub (a := 16 + (El E1 + 1)) (b := 1) (by omega)]
    refine Sp_gg (gin_t (by omega) (by omega)) ?_
    rw [clampn (by omega)]
    have w : ∀ b, b ≠ 71 → hu h3 71 (16 + El E1) 1 b = h3 b := fun b hb => hu_ne hb
    refine hK _ ?_ (MSc_fr S3 (fun k _ => by rw [w 65 (by decide)]) (w 72 (by decide)) (w 73 (by decide)) (w 87 (by decide))) (fun i hi => by rw [w 84 (by decide), w 85 (by decide)]; exact Mp3 i hi) (mlow_tr L3 (mlow_of (w 84 (by decide)) (w 85 (by decide)) (w 88 (by decide))))
    obtain ⟨⟨gA, g1⟩, g2, g3, g4⟩ := H3
    rw [e4]
    refine ⟨⟨gA, ME_fr g1 (by rw [w 65 (by decide)]) (by rw [w 65 (by decide)]) (w 67 (by decide)) (w 68 (by decide)) (w 69 (by decide)) (w 70 (by decide))⟩, ⟨fun y hy => by rw [w 66 (by decide)]; exact g2.1 y hy, fun r hr ha => ?_, by rw [w 65 (by decide)]; exact g2.2.2⟩, by rw [w 65 (by decide)]; exact g3, MT_of g4 (by rw [w 65 (by decide)]) (w 74 (by decide)) (w 75 (by decide))⟩
    show hu h3 71 (16 + El E1) 1 71 r = b2i ((sback E1 x v P1).2.1 r || decide (r = 16 + El E1))
    by_cases er : r = 16 + El E1
    · rw [er, hu_same, decide_eq_true rfl, Bool.or_true]; rfl
    · rw [hu_k _ _ _ _ er, decide_eq_false er, Bool.or_false, g2.2.1 r hr ha]
      obtain ⟨u1, u2⟩ := e3 r er
      refine congrArg b2i ?_
      unfold sback qnw qwk
      dsimp only
      rw [u1, u2]
