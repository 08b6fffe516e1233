/-! image, back -/
def cst : List (Nat × Nat) → Nat → gH → gH
  | [], _, h => h
  | a :: L, k, h => cst L k (hu h a.1 k (h a.2 k))
theorem cst_o : ∀ (L : List (Nat × Nat)) (k : Nat) (h : gH) (o : Nat), (∀ p ∈ L, p.1 ≠ o) → cst L k h o = h o := by
  intro L
  induction L with
  | nil => intro k h o _; rfl
  | cons a L ih =>
    intro k h o ho
    show cst L k (hu h a.1 k (h a.2 k)) o = h o
    rw [ih k _ o (fun p hp => ho p (List.mem_cons_of_mem _ hp))]
    exact hu_ne (fun z => ho a List.mem_cons_self z.symm)
theorem cst_k : ∀ (L : List (Nat × Nat)) (k : Nat) (h : gH) (o q : Nat), q ≠ k → cst L k h o q = h o q := by
  intro L
  induction L with
  | nil => intro k h o q _; rfl
  | cons a L ih =>
    intro k h o q hq
    show cst L k (hu h a.1 k (h a.2 k)) o q = h o q
    rw [ih k _ o q hq, hu_at]
    by_cases e : o = a.1
    · rw [if_pos e, if_neg hq]
    · rw [if_neg e]
def cdj : List (Nat × Nat) → Bool
  | [] => true
  | a :: L => L.all (fun p => !decide (p.1 = a.1) && !decide (p.2 = a.1)) && cdj L
theorem cst_at : ∀ (L : List (Nat × Nat)) (k : Nat) (h : gH), cdj L = true → ∀ p ∈ L, cst L k h p.1 k = h p.2 k := by
  intro L
  induction L with
  | nil => intro k h _ p hp; cases hp
  | cons a L ih =>
    intro k h hd p hp
    unfold cdj at hd
    rw [Bool.and_eq_true] at hd
    have ha := List.all_eq_true.mp hd.1
    show cst L k (hu h a.1 k (h a.2 k)) p.1 k = h p.2 k
    rcases List.mem_cons.mp hp with e | e
    · rw [e, cst_o L k _ a.1 (fun p hp => by have := ha p hp; simp at this; exact this.1), hu_same]
    · rw [ih k _ hd.2 p e, hu_ne (by have := ha p e; simp at this; exact this.2)]
/-- the first n of each row lie in its other row -/
def CI (L : List (Nat × Nat)) (n : Nat) (h0 h : gH) : Prop := (∀ p ∈ L, ∀ q, q < n → h p.1 q = h0 p.2 q) ∧ ∀ o, L.all (fun p => !decide (p.1 = o)) = true → h o = h0 o
theorem CI_0 (L : List (Nat × Nat)) (h : gH) : CI L 0 h h := ⟨fun _ _ _ hq => absurd hq (Nat.not_lt_zero _), fun _ _ => rfl⟩
theorem CI_s {L : List (Nat × Nat)} {k : Nat} {h0 h : gH} (H : CI L k h0 h) (d : cdj L = true) (dd : L.all (fun r => L.all (fun p => !decide (p.1 = r.2))) = true) : CI L (k + 1) h0 (cst L k h) := by
  refine ⟨fun p hp q hq => ?_, fun o ho => ?_⟩
  · by_cases e : q = k
    · rw [e, cst_at L k h d p hp, H.2 p.2 (List.all_eq_true.mp dd p hp)]
    · rw [cst_k L k h p.1 q e]; exact H.1 p hp q (by omega)
  · rw [cst_o L k h o (fun p hp => by have := List.all_eq_true.mp ho p hp; simpa using this)]; exact H.2 o ho
theorem img155 {h0 : gH} {Q : Int32 × gH → Prop} : ∀ (m k fu : Nat) (h : gH), k + m = 8 → m < fu → CI [(95, 66), (100, 76), (101, 77), (102, 78)] k h0 h → (∀ h1, CI [(95, 66), (100, 76), (101, 77), (102, 78)] 8 h0 h1 → Sp (fM_image_155 1 (nI 8) h1) Q) → Sp (fM_image_155 fu (nI k) h) Q := by
  intro m
  induction m with
  | zero =>
    intro k fu h hk hfu hC hQ
    obtain ⟨fu, rfl⟩ : ∃ f, fu = f + 1 := ⟨fu - 1, by omega⟩
    have : k = 8 := by omega
    subst this
    have := hQ h hC
    unfold fM_image_155 at this ⊢
    rw [if_neg (by decide)] at this ⊢
    exact this
  | succ m ih =>
    intro k fu h hk hfu hC hQ
    obtain ⟨fu, rfl⟩ : ∃ f, fu = f + 1 := ⟨fu - 1, by omega⟩
    unfold fM_image_155
    have g8 : gin (nI k) 8 = true := gin_t (by omega) (by omega)
    refine Sp_pos (nltT (show k < 8 by omega) (by decide)) (Sp_gg g8 (Sp_gg g8 (Sp_let (Sp_gg g8 (Sp_gg g8 (Sp_let (Sp_gg g8 (Sp_gg g8 (Sp_let (Sp_gg g8 (Sp_gg g8 (Sp_let ?_))))))))))))
    rw [nadd_l k 1, clampn (by omega)]
    exact ih (k + 1) fu _ (by omega) (by omega) (CI_s hC (by decide) (by decide)) hQ
theorem img117 {h0 : gH} {Q : Int32 × gH → Prop} : ∀ (m k fu : Nat) (h : gH), k + m = 12 → m < fu → CI [(96, 72), (97, 73)] k h0 h → (∀ h1, CI [(96, 72), (97, 73)] 12 h0 h1 → Sp (fM_image_155 gfu 0 h1) Q) → Sp (fM_image_117 fu (nI k) h) Q := by
  intro m
  induction m with
  | zero =>
    intro k fu h hk hfu hC hQ
    obtain ⟨fu, rfl⟩ : ∃ f, fu = f + 1 := ⟨fu - 1, by omega⟩
    have : k = 12 := by omega
    subst this
    unfold fM_image_117
    exact Sp_neg (by decide) (hQ h hC)
  | succ m ih =>
    intro k fu h hk hfu hC hQ
    obtain ⟨fu, rfl⟩ : ∃ f, fu = f + 1 := ⟨fu - 1, by omega⟩
    unfold fM_image_117
    have g8 : gin (nI k) 12 = true := gin_t (by omega) (by omega)
    refine Sp_pos (nltT (show k < 12 by omega) (by decide)) (Sp_gg g8 (Sp_gg g8 (Sp_let (Sp_gg g8 (Sp_gg g8 (Sp_let ?_))))))
    rw [nadd_l k 1, clampn (by omega)]
    exact ih (k + 1) fu _ (by omega) (by omega) (CI_s hC (by decide) (by decide)) hQ
theorem img79 {h0 : gH} {Q : Int32 × gH → Prop} : ∀ (m k fu : Nat) (h : gH), k + m = 80 → m < fu → CI [(98, 74), (99, 75)] k h0 h → (∀ h1, CI [(98, 74), (99, 75)] 80 h0 h1 → Sp (fM_image_117 gfu 0 h1) Q) → Sp (fM_image_79 fu (nI k) h) Q := by
  intro m
  induction m with
  | zero =>
    intro k fu h hk hfu hC hQ
    obtain ⟨fu, rfl⟩ : ∃ f, fu = f + 1 := ⟨fu - 1, by omega⟩
    have : k = 80 := by omega
    subst this
    unfold fM_image_79
    exact Sp_neg (by decide) (hQ h hC)
  | succ m ih =>
    intro k fu h hk hfu hC hQ
    obtain ⟨fu, rfl⟩ : ∃ f, fu = f + 1 := ⟨fu - 1, by omega⟩
    unfold fM_image_79
    have g8 : gin (nI k) 80 = true := gin_t (by omega) (by omega)
    refine Sp_pos (nltT (show k < 80 by omega) (by decide)) (Sp_gg g8 (Sp_gg g8 (Sp_let (Sp_gg g8 (Sp_gg g8 (Sp_let ?_))))))
    rw [nadd_l k 1, clampn (by omega)]
    exact ih (k + 1) fu _ (by omega) (by omega) (CI_s hC (by decide) (by decide)) hQ
theorem img29 {h0 : gH} (zb : ∀ k, h0 71 k = 0 ∨ h0 71 k = 1) {Q : Int32 × gH → Prop} : ∀ (m k fu : Nat) (h : gH), k + m = 16 → m < fu → CI [(91, 67), (92, 68), (94, 71)] k h0 h → (∀ h1, CI [(91, 67), (92, 68), (94, 71)] 16 h0 h1 → Sp (fM_image_79 gfu 0 h1) Q) → Sp (fM_image_29 fu (nI k) h) Q := by
  intro m
  induction m with
  | zero =>
    intro k fu h hk hfu hC hQ
    obtain ⟨fu, rfl⟩ : ∃ f, fu = f + 1 := ⟨fu - 1, by omega⟩
    have : k = 16 := by omega
    subst this
    unfold fM_image_29
    exact Sp_neg (by decide) (hQ h hC)
  | succ m ih =>
    intro k fu h hk hfu hC hQ
    obtain ⟨fu, rfl⟩ : ∃ f, fu = f + 1 := ⟨fu - 1, by omega⟩
    unfold fM_image_29
    have g8 : gin (nI k) 16 = true := gin_t (by omega) (by omega)
    have g9 : gin (nI k) 24 = true := gin_t (by omega) (by omega)
    refine Sp_pos (nltT (show k < 16 by omega) (by decide)) (Sp_gg g9 (Sp_gg g8 (Sp_let (Sp_gg g9 (Sp_gg g8 (Sp_let (Sp_gg g9 (Sp_gg g8 (Sp_gg ?_ (Sp_let ?_))))))))))
    · rw [hu_ne (by decide), hu_ne (by decide), hC.2 71 (by decide)]; exact gbo_t (zb _)
    rw [nadd_l k 1, clampn (by omega)]
    exact ih (k + 1) fu _ (by omega) (by omega) (CI_s hC (by decide) (by decide)) hQ
theorem img2 {h0 : gH} (zb : ∀ k, h0 69 k = 0 ∨ h0 69 k = 1) {Q : Int32 × gH → Prop} : ∀ (m k fu : Nat) (h : gH), k + m = 16000 → m < fu → CI [(93, 69)] k h0 h → (∀ h1, CI [(93, 69)] 16000 h0 h1 → Sp (fM_image_29 gfu 0 h1) Q) → Sp (fM_image_2 fu (nI k) h) Q := by
  intro m
  induction m with
  | zero =>
    intro k fu h hk hfu hC hQ
    obtain ⟨fu, rfl⟩ : ∃ f, fu = f + 1 := ⟨fu - 1, by omega⟩
    have : k = 16000 := by omega
    subst this
    unfold fM_image_2
    exact Sp_neg (by decide) (hQ h hC)
  | succ m ih =>
    intro k fu h hk hfu hC hQ
    obtain ⟨fu, rfl⟩ : ∃ f, fu = f + 1 := ⟨fu - 1, by omega⟩
    unfold fM_image_2
    have g8 : gin (nI k) 16000 = true := gin_t (by omega) (by omega)
    refine Sp_pos (nltT (show k < 16000 by omega) (by decide)) (Sp_gg g8 (Sp_gg g8 (Sp_gg ?_ (Sp_let ?_))))
    · rw [hC.2 69 (by decide)]; exact gbo_t (zb _)
    rw [nadd_l k 1, clampn (by omega)]
    exact ih (k + 1) fu _ (by omega) (by omega) (CI_s hC (by decide) (by decide)) hQ
def s_image (S : qW) : Int32 × qW := (nI S.2.1.1.2.2.2.length, (S.1, S.2.1, some (S.1.1, S.2.1), S.2.2.2))
theorem W_image {S : qW} (H : WI S) : WI (s_image S).2 := ⟨H.1, H.2.1, H.2.2.1, fun k e => by
  have e : some (S.1.1, S.2.1) = some k := e
  have e := Option.some.inj e
  rw [← e]; exact ⟨Nat.le_refl _, H.2.1, H.2.2.1⟩, H.2.2.2.2⟩
theorem M_image {h : gH} {S : qW} (H : BM h S) (W : WI S) : Sp (fM_image h) (fun p => p.1 = (s_image S).1 ∧ BM p.2 (s_image S).2) := by
  have zb : ∀ x, fM_image h = some x → ZB x.2 := fun x e => fM_image_zb H.2.2.2.2 e
  suffices Sp (fM_image h) (fun p => p.1 = (s_image S).1 ∧ (ZB p.2 → BM p.2 (s_image S).2)) from Sp_to this (fun x e q => ⟨q.1, q.2 (zb x e)⟩)
  have Z := H.2.2.2.2
  unfold fM_image
  rw [← nI_0]
  refine img2 (h0 := h) (fun k => Z.1 69 (by decide) k) 16000 0 gfu h (by omega) (by unfold gfu; omega) (CI_0 _ _) (fun h1 c1 => ?_)
  rw [← nI_0]
  refine img29 (h0 := h1) (fun k => by rw [c1.2 71 (by decide)]; exact Z.1 71 (by decide) k) 16 0 gfu h1 (by omega) (by unfold gfu; omega) (CI_0 _ _) (fun h2 c2 => ?_)
  rw [← nI_0]
  refine img79 (h0 := h2) 80 0 gfu h2 (by omega) (by unfold gfu; omega) (CI_0 _ _) (fun h3 c3 => ?_)
  rw [← nI_0]
  refine img117 (h0 := h3) 12 0 gfu h3 (by omega) (by unfold gfu; omega) (CI_0 _ _) (fun h4 c4 => ?_)
  rw [← nI_0]
  refine img155 (h0 := h4) 8 0 gfu h4 (by omega) (by unfold gfu; omega) (CI_0 _ _) (fun h5 c5 => ?_)
  have fr : ∀ o, o < 91 ∨ 102 < o → h5 o = h o := fun o ho => by
    rw [c5.2 o (by simp; omega), c4.2 o (by simp; omega), c3.2 o (by simp; omega), c2.2 o (by simp; omega), c1.2 o (by simp; omega)]
  have k93 : ∀ q, q < 16000 → h5 93 q = h 69 q := fun q hq => by
    rw [c5.2 93 (by decide), c4.2 93 (by decide), c3.2 93 (by decide), c2.2 93 (by decide)]; exact c1.1 (93, 69) (by decide) q hq
  have k2 : ∀ d s, (d, s) ∈ [(91, 67), (92, 68), (94, 71)] → ∀ q, q < 16 → h5 d q = h s q := fun d s hm q hq => by
    have h2' := c2.1 (d, s) hm q hq
    have f1 : h1 s = h s := c1.2 s (by simp at hm ⊢; omega)
    rw [c5.2 d (by simp at hm ⊢; omega), c4.2 d (by simp at hm ⊢; omega), c3.2 d (by simp at hm ⊢; omega)]
    rw [← f1]; exact h2'
  have k3 : ∀ d s, (d, s) ∈ [(98, 74), (99, 75)] → ∀ q, q < 80 → h5 d q = h s q := fun d s hm q hq => by
    have h2' := c3.1 (d, s) hm q hq
    have f1 : h2 s = h s := (c2.2 s (by simp at hm ⊢; omega)).trans (c1.2 s (by simp at hm ⊢; omega))
    rw [c5.2 d (by simp at hm ⊢; omega), c4.2 d (by simp at hm ⊢; omega)]
    rw [← f1]; exact h2'
  have k4 : ∀ d s, (d, s) ∈ [(96, 72), (97, 73)] → ∀ q, q < 12 → h5 d q = h s q := fun d s hm q hq => by
    have h2' := c4.1 (d, s) hm q hq
    have f1 : h3 s = h s := (c3.2 s (by simp at hm ⊢; omega)).trans ((c2.2 s (by simp at hm ⊢; omega)).trans (c1.2 s (by simp at hm ⊢; omega)))
    rw [c5.2 d (by simp at hm ⊢; omega)]
    rw [← f1]; exact h2'
  have k5 : ∀ d s, (d, s) ∈ [(95, 66), (100, 76), (101, 77), (102, 78)] → ∀ q, q < 8 → h5 d q = h s q := fun d s hm q hq => by
    have h2' := c5.1 (d, s) hm q hq
    have f1 : h4 s = h s := (c4.2 s (by simp at hm ⊢; omega)).trans ((c3.2 s (by simp at hm ⊢; omega)).trans ((c2.2 s (by simp at hm ⊢; omega)).trans (c1.2 s (by simp at hm ⊢; omega))))
    rw [← f1]; exact h2'
  unfold fM_image_155
  refine Sp_neg (by decide) (Sp_gg ?_ (Sp_let (Sp_let (Sp_let (Sp_let (Sp_let (Sp_let (Sp_let (Sp_some ⟨?_, fun zb => ?_⟩)))))))))
  · rw [fr 65 (by omega)]; exact gbo_t (Z.2 2 (by decide))
  · rw [hu_k _ _ _ _ (by decide), hu_k _ _ _ _ (by decide), hu_k _ _ _ _ (by decide), hu_k _ _ _ _ (by decide), hu_k _ _ _ _ (by decide), hu_k _ _ _ _ (by decide), hu_k _ _ _ _ (by decide), fr 65 (by omega)]
    exact H.1.1.2.2.2.1
  · obtain ⟨⟨⟨⟨gA, gE⟩, gX, g36, gT⟩, g20, gD, gL⟩, gK, gP, gS, gZ⟩ := H
    generalize hh : hu (hu (hu (hu (hu (hu (hu h5 65 70 _) 65 71 _) 65 72 _) 65 73 _) 65 74 _) 65 75 _) 65 76 1 = h6 at zb ⊢
    have n65 : ∀ o, o ≠ 65 → h6 o = h5 o := fun o ho => by
      rw [← hh, hu_ne ho, hu_ne ho, hu_ne ho, hu_ne ho, hu_ne ho, hu_ne ho, hu_ne ho]
    have l65 : ∀ k, k < 70 ∨ 76 < k → h6 65 k = h 65 k := fun k hk => by
      rw [← hh, hu_k _ _ _ _ (by omega), hu_k _ _ _ _ (by omega), hu_k _ _ _ _ (by omega), hu_k _ _ _ _ (by omega), hu_k _ _ _ _ (by omega), hu_k _ _ _ _ (by omega), hu_k _ _ _ _ (by omega), fr 65 (by omega)]
    have v65 : h6 65 76 = 1 ∧ h6 65 70 = h 65 2 ∧ h6 65 71 = h 65 8 ∧ h6 65 72 = h 65 12 ∧ h6 65 73 = h 65 15 ∧ h6 65 74 = h 65 19 ∧ h6 65 75 = h 65 20 := by
      rw [← hh, ← fr 65 (by omega)]
      refine ⟨?_, ?_, ?_, ?_, ?_, ?_, ?_⟩ <;> simp [hu_at]
    have fr6 : ∀ o, o < 65 ∨ (65 < o ∧ o < 91) ∨ 102 < o → h6 o = h o := fun o ho => by rw [n65 o (by omega), fr o (by omega)]
    obtain ⟨v1, v2, v3, v4, v5, v6, v7⟩ := v65
    show BM h6 _
    refine ⟨MC_fr ⟨⟨⟨gA, gE⟩, gX, g36, gT⟩, g20, gD, gL⟩ (fun k hk => l65 k (by omega)) (fun b h1 h2 => fr6 b (by omega)), ?_, MTp_fr gP (l65 22 (by omega)) (fr6 79 (by omega)), MSh_fr gS (fun b h1 h2 => fr6 b (by omega)), zb⟩
    have hn := W.1
    have htl := W.2.1.2.1.len
    show MKp h6 _ _
    refine ⟨v1, v2.trans gX.2.2, v3.trans gE.2.2.1, v4.trans gD.2.1, v5.trans gT.1, v6.trans gL.1, v7.trans g20, fun x hx => ?_, fun r hr => ?_, fun i a hi => ?_, fun i hi => ?_, fun i hi => ?_, fun r hr x hx y hy z hz => ?_⟩
    · rw [n65 95 (by decide), k5 95 66 (by decide) x hx]; exact gX.1 x hx
    · have hr : r < S.1.1 := hr
      have e1 := gE.2.2.2.2.1 r hr
      rw [n65 94 (by decide), n65 91 (by decide), n65 92 (by decide), k2 94 71 (by decide) r (by omega), k2 91 67 (by decide) r (by omega), k2 92 68 (by decide) r (by omega)]
      exact ⟨gX.2.1 r (by omega) (by rw [Eact_Et]; exact decide_eq_true hr), e1.2.1, e1.1⟩
    · have hi2 : i < S.2.1.1.2.2.2.length := by
        by_cases q : i < S.2.1.1.2.2.2.length
        · exact q
        · have hi : S.2.1.1.2.2.2[i]? = some a := hi
          rw [List.getElem?_eq_none (by omega)] at hi; cases hi
      rw [n65 98 (by decide), n65 99 (by decide), k3 98 74 (by decide) i (by omega), k3 99 75 (by decide) i (by omega)]
      exact gT.2 i a hi
    · have hi : i < S.2.1.2.1.1 := hi
      have hd := gD.1
      rw [n65 96 (by decide), n65 97 (by decide), k4 96 72 (by decide) i (by omega), k4 97 73 (by decide) i (by omega)]
      exact gD.2.2 i hi
    · have hi : i < S.2.1.2.2.1.1 := hi
      have hl := W.2.1.2.2.1
      rw [n65 100 (by decide), n65 101 (by decide), n65 102 (by decide), k5 100 76 (by decide) i (by omega), k5 101 77 (by decide) i (by omega), k5 102 78 (by decide) i (by omega)]
      exact gL.2 i hi
    · have hr : r < S.1.1 := hr
      rw [n65 93 (by decide), k93 _ (by omega)]
      exact (gE.2.2.2.2.1 r hr).2.2.2.2.2 x hx y hy z hz
