/-! the model's picture: domains, queue, failed; the trail where it isn't thought -/
def MX (V : Nat → Bool) (h : gH) (D : Nat → Nat → Bool) (Q : Nat → Bool) (f : Bool) : Prop :=
  (∀ x, x < 8 → h 66 x = mkn 10 (D x)) ∧ (∀ r, r < 24 → V r = true → h 71 r = b2i (Q r)) ∧ h 65 2 = b2i f
def MT (h : gH) (t : qT) : Prop := h 65 15 = nI t.length ∧ ∀ (i : Nat) (a : Nat × Int32), t[i]? = some a → h 74 i = nI a.1 ∧ h 75 i = a.2
theorem MT_push {h h1 : gH} {t : qT} {c : Nat} {rs : Int32} (ht : MT h t) (h5 : h1 65 15 = nI (t.length + 1)) (h3 : h1 74 = fun i => if i = t.length then nI c else h 74 i) (h4 : h1 75 = fun i => if i = t.length then rs else h 75 i) : MT h1 (t ++ [(c, rs)]) := by
  refine ⟨by rw [h5]; simp, fun i a hi => ?_⟩
  by_cases hlt : i < t.length
  · rw [List.getElem?_append_left hlt] at hi
    have := ht.2 i a hi
    rw [h3, h4]
    simp only [if_neg (show ¬ i = t.length by omega)]
    exact this
  · rw [List.getElem?_append_right (by omega)] at hi
    have hi0 : i - t.length = 0 := by
      cases hq : i - t.length with
      | zero => rfl
      | succ j => rw [hq] at hi; simp at hi
    rw [hi0] at hi
    cases hi
    have : i = t.length := by omega
    subst this
    rw [h3, h4]
    simp
theorem MT_of {h h1 : gH} {t : qT} (ht : MT h t) (h5 : h1 65 15 = h 65 15) (h3 : h1 74 = h 74) (h4 : h1 75 = h 75) : MT h1 t := ⟨by rw [h5]; exact ht.1, fun i a hi => by rw [h3, h4]; exact ht.2 i a hi⟩
theorem goes85 : ∀ (m k n : Nat) (h : gH), k + m = 24 → m < n → Sp (fM_goes_85 n (nI k) h) (fun h' => (∀ r, h' 71 r = if k ≤ r ∧ r < 24 then 0 else h 71 r) ∧ ∀ b, b ≠ 71 → h' b = h b) := by
  intro m
  induction m with
  | zero =>
    intro k n h hk hn
    obtain ⟨n, rfl⟩ : ∃ n', n = n' + 1 := ⟨n - 1, by omega⟩
    have hk : k = 24 := by omega
    subst hk
    unfold fM_goes_85
    refine Sp_neg (by decide) (Sp_some ⟨fun r => ?_, fun _ _ => rfl⟩)
    rw [if_neg (by omega)]
  | succ m ih =>
    intro k n h hk hn
    obtain ⟨n, rfl⟩ : ∃ n', n = n' + 1 := ⟨n - 1, by omega⟩
    unfold fM_goes_85
    refine Sp_pos (nltT (show k < 24 by omega) (by decide)) (Sp_gg (gin_t (by omega) (by omega)) ?_)
    rw [clampn (by omega), nadd_l]
    refine Sp_let (Sp_mono (ih (k + 1) n _ (by omega) (by omega)) fun h' a => ⟨fun r => ?_, fun b hb => (a.2 b hb).trans (hu_ne hb)⟩)
    rw [a.1 r]
    by_cases hr : r = k
    · subst hr; rw [if_neg (by omega), if_pos (by omega), hu_same]
    · rw [hu_k _ _ _ _ hr]
      by_cases h2 : k + 1 ≤ r ∧ r < 24
      · rw [if_pos h2, if_pos (by omega)]
      · rw [if_neg h2, if_neg (by omega)]
def qemp : Nat → Bool := fun _ => false
/-- one value goes -/
theorem goes_sp {V : Nat → Bool} {x v : Nat} (hx : x < 8) (hv : v < 10) {h : gH} {D : Nat → Nat → Bool} {Q : Nat → Bool} {th : Bool} {t : qT} (rs : Int32) (H : MX V h D Q false) (hth : h 65 36 = b2i th) (ht : MT h t) (hr : th = true ∨ t.length < 80) :
    Sp (fM_goes (nI x) (nI v) rs h) (fun h' => MX V h' (qnar D x (fun i => !decide (i = v))) (if qany (qnar D x (fun i => !decide (i = v)) x) then Q else qemp) (!qany (qnar D x (fun i => !decide (i = v)) x)) ∧ MT h' (if th then t else t ++ [(10 * x + v, rs)]) ∧ h' 65 35 = (h 65 35 ||| (1 <<< (nI x &&& 31)))) := by
  obtain ⟨h1, h2, h3⟩ := H
  have eD : mkn 10 (fun i => D x i && !decide (i = v)) = mkn 10 (qnar D x (fun i => !decide (i = v)) x) := mkn_congr (fun i _ => by unfold qnar; rw [if_pos rfl])
  have key : ∀ hh : gH, hh 66 x = mkn 10 (qnar D x (fun i => !decide (i = v)) x) → (∀ y, y < 8 → y ≠ x → hh 66 y = h 66 y) → hh 71 = h 71 → hh 65 2 = h 65 2 → MT hh (if th then t else t ++ [(10 * x + v, rs)]) → hh 65 35 = (h 65 35 ||| (1 <<< (nI x &&& 31))) →
      Sp (fM_goes_68 (nI x) hh) (fun h' => MX V h' (qnar D x (fun i => !decide (i = v))) (if qany (qnar D x (fun i => !decide (i = v)) x) then Q else qemp) (!qany (qnar D x (fun i => !decide (i = v)) x)) ∧ MT h' (if th then t else t ++ [(10 * x + v, rs)]) ∧ h' 65 35 = (h 65 35 ||| (1 <<< (nI x &&& 31)))) := by
    intro hh g1 g2 g3 g4 g5 g6
    have eDy : ∀ y, y < 8 → hh 66 y = mkn 10 (qnar D x (fun i => !decide (i = v)) y) := fun y hy => by
      by_cases hyx : y = x
      · subst hyx; exact g1
      · rw [g2 y hy hyx, h1 y hy]; exact mkn_congr (fun i _ => by unfold qnar; rw [if_neg hyx])
    unfold fM_goes_68
    refine Sp_gg (gin_t (by omega) (by omega)) ?_
    rw [clampn (by omega), g1]
    refine Sp_if (fun q => ?_) (fun q => ?_)
    · rw [mkn10_0] at q
      refine Sp_let (Sp_mono (goes85 24 0 gfu _ (by omega) (by unfold gfu; omega)) ?_)
      rintro h' ⟨a, fr⟩
      have f1 : ∀ b k, b ≠ 71 → h' b k = hu hh 65 2 1 b k := fun b k hb => by rw [fr b hb]
      rw [q]
      refine ⟨⟨fun y hy => ?_, fun r hr _ => ?_, ?_⟩, MT_of g5 ?_ ?_ ?_, ?_⟩
      · rw [f1 66 y (by omega), hu_o _ _ _ _ _ (by omega)]; exact eDy y hy
      · rw [a r, if_pos (by omega)]; rfl
      · rw [f1 65 2 (by omega), hu_same]; rfl
      · rw [f1 65 15 (by omega), hu_k _ _ _ _ (by omega)]
      · funext k; rw [f1 74 k (by omega), hu_o _ _ _ _ _ (by omega)]
      · funext k; rw [f1 75 k (by omega), hu_o _ _ _ _ _ (by omega)]
      · rw [f1 65 35 (by omega), hu_k _ _ _ _ (by omega)]; exact g6
    · have q2 : qany (qnar D x (fun i => !decide (i = v)) x) = true := by
        cases hq : qany (qnar D x (fun i => !decide (i = v)) x) with
        | true => rfl
        | false => exact absurd ((mkn10_0 _).mpr hq) q
      rw [q2]
      refine Sp_some ⟨⟨eDy, fun r hr hv => ?_, ?_⟩, g5, g6⟩
      · rw [g3]; exact h2 r hr hv
      · rw [g4]; exact h3
  unfold fM_goes
  refine Sp_gg (gin_t (by omega) (by omega)) (Sp_gg (gin_t (by omega) (by omega)) ?_)
  rw [clampn (by omega), h1 x hx, mkn_del (by omega) (by omega), eD]
  refine Sp_let (Sp_let ?_)
  rw [hu_k _ _ _ _ (by omega), hu_o _ _ _ _ _ (by omega), hth]
  refine Sp_if (fun q => ?_) (fun q => ?_)
  · rw [b2i_0] at q
    subst q
    have hr : t.length < 80 := by rcases hr with hr | hr; · cases hr
                                  · exact hr
    rw [hu_k _ _ _ _ (by omega), hu_o _ _ _ _ _ (by omega), ht.1]
    refine Sp_gg (gin_t (by omega) (by omega)) ?_
    rw [clampn (by omega)]
    refine Sp_let ?_
    rw [hu_o _ _ _ _ _ (by omega), hu_k _ _ _ _ (by omega), hu_o _ _ _ _ _ (by omega), ht.1]
    refine Sp_gg (gin_t (by omega) (by omega)) ?_
    rw [clampn (by omega)]
    refine Sp_let ?_
    refine key _ ?_ ?_ ?_ ?_ ?_ ?_
    · rw [hu_o _ _ _ _ _ (by omega), hu_o _ _ _ _ _ (by omega), hu_o _ _ _ _ _ (by omega), hu_o _ _ _ _ _ (by omega), hu_same]
    · intro y hy hyx
      rw [hu_o _ _ _ _ _ (by omega), hu_o _ _ _ _ _ (by omega), hu_o _ _ _ _ _ (by omega), hu_o _ _ _ _ _ (by omega), hu_k _ _ _ _ hyx]
    · rw [hu_ne (by omega), hu_ne (by omega), hu_ne (by omega), hu_ne (by omega), hu_ne (by omega)]
    · rw [hu_k _ _ _ _ (by omega), hu_o _ _ _ _ _ (by omega), hu_o _ _ _ _ _ (by omega), hu_k _ _ _ _ (by omega), hu_o _ _ _ _ _ (by omega)]
    · rw [if_neg (by simp)]
      refine MT_push ht ?_ ?_ ?_
      · rw [hu_same, hu_o _ _ _ _ _ (by omega), hu_o _ _ _ _ _ (by omega), hu_k _ _ _ _ (by omega), hu_o _ _ _ _ _ (by omega), ht.1, nadd_l]
      · rw [hu_ne (by omega), hu_ne (by omega)]
        funext i
        rw [hu_at, if_pos rfl, hu_o _ _ _ _ _ (by omega), hu_o _ _ _ _ _ (by omega), nmul_r, nI_add]
      · rw [hu_ne (by omega)]
        funext i
        rw [hu_at, if_pos rfl, hu_o _ _ _ _ _ (by omega), hu_o _ _ _ _ _ (by omega), hu_o _ _ _ _ _ (by omega)]
    · rw [hu_k _ _ _ _ (by omega), hu_o _ _ _ _ _ (by omega), hu_o _ _ _ _ _ (by omega), hu_same, hu_o _ _ _ _ _ (by omega)]
  · have hth2 : th = true := by cases th with
      | true => rfl
      | false => exact absurd rfl q
    subst hth2
    refine key _ ?_ ?_ ?_ ?_ ?_ ?_
    · rw [hu_o _ _ _ _ _ (by omega), hu_same]
    · intro y hy hyx
      rw [hu_o _ _ _ _ _ (by omega), hu_k _ _ _ _ hyx]
    · rw [hu_ne (by omega), hu_ne (by omega)]
    · rw [hu_k _ _ _ _ (by omega), hu_o _ _ _ _ _ (by omega)]
    · rw [if_pos rfl]
      exact MT_of ht (by rw [hu_k _ _ _ _ (by omega), hu_o _ _ _ _ _ (by omega)]) (by rw [hu_ne (by omega), hu_ne (by omega)]) (by rw [hu_ne (by omega), hu_ne (by omega)])
    · rw [hu_same]
      rw [hu_o _ _ _ _ _ (by omega)]
