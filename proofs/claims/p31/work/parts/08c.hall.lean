/-! the hall's trail -/
abbrev qT : Type := List (Nat × Int32)
def TL (h : gH) (o : Nat) (t : qT) : Prop := h o 5 = nI t.length ∧ ∀ (i : Nat) (a : Nat × Int32), t[i]? = some a → h (o + 3) i = nI a.1 ∧ h (o + 4) i = a.2
/-- what goes of x, from place k on: m places -/
def qent (x : Nat) (rs : Int32) (S : Nat → Bool) : Nat → Nat → qT
  | 0, _ => []
  | m + 1, k => (if S k then [(10 * x + k, rs)] else []) ++ qent x rs S m (k + 1)
theorem TL_push {h h1 : gH} {o : Nat} {t : qT} {c : Nat} {rs : Int32} (ht : TL h o t) (h5 : h1 o 5 = nI (t.length + 1)) (h3 : h1 (o + 3) = fun i => if i = t.length then nI c else h (o + 3) i) (h4 : h1 (o + 4) = fun i => if i = t.length then rs else h (o + 4) i) : TL h1 o (t ++ [(c, rs)]) := by
  refine ⟨by rw [h5]; simp, fun i a hi => ?_⟩
  by_cases hlt : i < t.length
  · rw [List.getElem?_append_left hlt] at hi
    have := ht.2 i a hi
    rw [h3, h4]
    simp only [if_neg (show ¬ i = t.length by omega)]
    exact this
  · rw [List.getElem?_append_right (by omega)] at hi
    have hi0 : i - t.length = 0 := by
      cases hq : i - t.length with
      | zero => rfl
      | succ j => rw [hq] at hi; simp at hi
    rw [hi0] at hi
    cases hi
    have : i = t.length := by omega
    subst this
    rw [h3, h4]
    simp
theorem drop_loop {o : Nat} (ho : gHall o) {x : Nat} (hx : x < 8) (S : Nat → Bool) (rs : Int32) : ∀ (m k n : Nat) (h : gH) (D : Nat → Bool) (t : qT), k + m = 10 → m < n → h (o + 1) x = mkn 10 D → TL h o t → t.length + (qent x rs S m k).length ≤ 80 →
    Sp (fH_drop_3 o (nI x) (mkn 10 S) rs n (nI k) h) (fun h' => h' (o + 1) x = mkn 10 (fun v => D v && !(decide (k ≤ v) && S v)) ∧ TL h' o (t ++ qent x rs S m k) ∧ (∀ y, y ≠ x → h' (o + 1) y = h (o + 1) y) ∧ h' o 9 = (if h o 9 = 0 ∧ ¬ h' (o + 1) x = 0 then 0 else 1)) := by
  intro m
  induction m with
  | zero =>
    intro k n h D t hk hn hD ht hr
    obtain ⟨n, rfl⟩ : ∃ n', n = n' + 1 := ⟨n - 1, by omega⟩
    have hk : k = 10 := by omega
    subst hk
    unfold fH_drop_3
    refine Sp_neg (by decide) ?_
    have e1 : mkn 10 D = mkn 10 (fun v => D v && !(decide (10 ≤ v) && S v)) := mkn_congr (fun i hi => by simp; omega)
    refine Sp_if (fun q => ?_) (fun q => ?_)
    · refine Sp_gg (gin_t (by omega) (by omega)) ?_
      rw [clampn (by omega)]
      refine Sp_if (fun q2 => ?_) (fun q2 => ?_)
      · refine Sp_some ⟨?_, ?_, ?_, ?_⟩
        · rw [hu_o _ _ _ _ _ (by omega), hD, ← e1]
        · simp only [qent, List.append_nil]
          exact ⟨by rw [hu_k _ _ _ _ (by omega)]; exact ht.1, fun i a hi => by rw [hu_o _ _ _ _ _ (by omega), hu_o _ _ _ _ _ (by omega)]; exact ht.2 i a hi⟩
        · intro y _; rw [hu_o _ _ _ _ _ (by omega)]
        · rw [hu_same, hu_o _ _ _ _ _ (by omega)]; simp [q2]
      · refine Sp_some ⟨?_, ?_, ?_, ?_⟩
        · rw [hu_o _ _ _ _ _ (by omega), hD, ← e1]
        · simp only [qent, List.append_nil]
          exact ⟨by rw [hu_k _ _ _ _ (by omega)]; exact ht.1, fun i a hi => by rw [hu_o _ _ _ _ _ (by omega), hu_o _ _ _ _ _ (by omega)]; exact ht.2 i a hi⟩
        · intro y _; rw [hu_o _ _ _ _ _ (by omega)]
        · rw [hu_same, hu_o _ _ _ _ _ (by omega)]; simp [q2, q]
    · refine Sp_some ⟨?_, ?_, ?_, ?_⟩
      · rw [hu_o _ _ _ _ _ (by omega), hD, ← e1]
      · simp only [qent, List.append_nil]
        exact ⟨by rw [hu_k _ _ _ _ (by omega)]; exact ht.1, fun i a hi => by rw [hu_o _ _ _ _ _ (by omega), hu_o _ _ _ _ _ (by omega)]; exact ht.2 i a hi⟩
      · intro y _; rw [hu_o _ _ _ _ _ (by omega)]
      · rw [hu_same]; simp [q]
  | succ m ih =>
    intro k n h D t hk hn hD ht hr
    obtain ⟨n, rfl⟩ : ∃ n', n = n' + 1 := ⟨n - 1, by omega⟩
    have hk10 : k < 10 := by omega
    unfold fH_drop_3
    refine Sp_pos ((nlt_l (by omega) (by decide)).mpr hk10) ?_
    rw [nadd_l, mkn_test (by omega) hk10]
    rcases hS : S k with _ | _
    · refine Sp_neg (by simp) ?_
      have hq : qent x rs S (m + 1) k = qent x rs S m (k + 1) := by simp [qent, hS]
      rw [hq] at hr ⊢
      refine Sp_mono (ih (k + 1) n h D t (by omega) (by omega) hD ht hr) ?_
      rintro h' ⟨a1, a2, a3, a4⟩
      refine ⟨?_, a2, a3, a4⟩
      rw [a1]
      refine mkn_congr (fun i hi => ?_)
      by_cases hik : i = k
      · subst hik; simp [hS]
      · have : decide (k + 1 ≤ i) = decide (k ≤ i) := by apply decide_eq_decide.mpr; omega
        rw [this]
    · refine Sp_pos (by simp) ?_
      have hq : qent x rs S (m + 1) k = (10 * x + k, rs) :: qent x rs S m (k + 1) := by simp [qent, hS]
      rw [hq] at hr ⊢
      have hlen : t.length < 80 := by simp at hr; omega
      have h5 := ht.1
      refine Sp_pos (by rw [h5]; exact (nlt_l (by omega) (by decide)).mpr hlen) ?_
      refine Sp_gg (gin_t (by omega) (by omega)) (Sp_gg (gin_t (by omega) (by omega)) ?_)
      rw [clampn (by omega)]
      refine Sp_let ?_
      rw [hu_o _ _ _ _ _ (by omega), h5]
      refine Sp_gg (gin_t (by omega) (by omega)) ?_
      rw [clampn (by omega)]
      refine Sp_let ?_
      rw [hu_o _ _ _ _ _ (by omega), hu_o _ _ _ _ _ (by omega), h5]
      refine Sp_gg (gin_t (by omega) (by omega)) ?_
      rw [clampn (by omega)]
      refine Sp_let (Sp_let ?_)
      rw [hu_o _ _ _ _ _ (by omega), hu_o _ _ _ _ _ (by omega), hu_o _ _ _ _ _ (by omega), h5, nadd_l, hD, mkn_del (by omega) (by omega), nmul_l, nI_add]
      refine Sp_mono (ih (k + 1) n _ (fun i => D i && !decide (i = k)) (t ++ [(10 * x + k, rs)]) (by omega) (by omega) ?_ ?_ ?_) ?_
      · rw [hu_o _ _ _ _ _ (by omega), hu_o _ _ _ _ _ (by omega), hu_o _ _ _ _ _ (by omega), hu_same]
      · refine TL_push ht (by rw [hu_same]) ?_ ?_
        · rw [hu_ne (by omega), hu_ne (by omega)]
          funext i
          rw [hu_at, if_pos rfl, hu_o _ _ _ _ _ (by omega), Nat.mul_comm]
        · rw [hu_ne (by omega)]
          funext i
          rw [hu_at, if_pos rfl, hu_o _ _ _ _ _ (by omega), hu_o _ _ _ _ _ (by omega)]
      · simp at hr ⊢; omega
      · rintro h' ⟨a1, a2, a3, a4⟩
        refine ⟨?_, ?_, ?_, ?_⟩
        · rw [a1]
          refine mkn_congr (fun i hi => ?_)
          by_cases hik : i = k
          · subst hik; simp [hS]
          · have : decide (k + 1 ≤ i) = decide (k ≤ i) := by apply decide_eq_decide.mpr; omega
            rw [this]; simp [hik]
        · rw [List.append_assoc] at a2; exact a2
        · intro y hy
          rw [a3 y hy, hu_o _ _ _ _ _ (by omega), hu_o _ _ _ _ _ (by omega), hu_o _ _ _ _ _ (by omega), hu_k _ _ _ _ hy]
        · rw [a4, hu_k _ _ _ _ (by omega), hu_o _ _ _ _ _ (by omega), hu_o _ _ _ _ _ (by omega), hu_o _ _ _ _ _ (by omega)]
theorem wake_eq (o : Nat) (s : Int32) (h : gH) : fH_wake o s h = some (hu h o 7 (if h o 9 = 0 then (h o 7) ||| (s &&& (h o 6)) else 0)) := by
  unfold fH_wake
  by_cases q : h o 9 = 0
  · rw [if_pos q, if_pos q]
  · rw [if_neg q, if_neg q]

