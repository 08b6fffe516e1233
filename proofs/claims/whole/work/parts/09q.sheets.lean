/-! sheets -/
def setS (S : qW) (s : qSh) : qW := (S.1, S.2.1, S.2.2.1, S.2.2.2.1, s)
def upds (s : qSh) (i : Nat) (x : Int32 × Nat × (Nat → Int32)) : qSh := fun j => if j = i then x else s j
def WS1 (x : Int32 × Nat × (Nat → Int32)) : Prop := x.2.1 ≤ 40 ∧ (x.1 = -1 ∧ x.2.1 = 0 ∨ x.1 = 0 ∨ x.1 = 1 ∨ x.1 = 2)
theorem W_sh {S : qW} (H : WI S) {s : qSh} (h : ∀ i, i < 4 → WS1 (s i)) : WI (setS S s) := ⟨H.1, H.2.1, H.2.2.1, H.2.2.2.1, H.2.2.2.2.1, H.2.2.2.2.2.1, h⟩
theorem W_upd {S : qW} (H : WI S) {i : Nat} {x : Int32 × Nat × (Nat → Int32)} (h : WS1 x) : WI (setS S (upds S.2.2.2.2 i x)) := W_sh H (fun j hj => by
  unfold upds; split
  · exact h
  · exact H.2.2.2.2.2.2 j hj)
theorem AX_sh {h h1 : gH} {S : qW} {s : qSh} (H : AX h S) (a : ∀ b, ¬ (56 ≤ b ∧ b ≤ 63) → h1 b = h b) (Z : XSh h1 s) : AX h1 (setS S s) :=
  ⟨XRk_fr H.1 (fun b _ _ => a b (by omega)), XC_fr H.2.1 (fun b _ _ => a b (by omega)) (fun b _ _ => a b (by omega)), XKp_fr H.2.2.1 (a 0 (by omega)) (fun b _ _ => a b (by omega)), XTp_fr H.2.2.2.1 (by rw [a 10 (by omega)]) (a 11 (by omega)), Z,
    by have := H.2.2.2.2.2.1; unfold XZ at this ⊢; rw [a 17 (by omega), a 45 (by omega)]; exact this,
    by have := H.2.2.2.2.2.2; unfold XTh at this ⊢; rw [a 28 (by omega), a 33 (by omega), a 29 (by omega), a 34 (by omega)]; exact this⟩
theorem BM_sh {h h1 : gH} {S : qW} {s : qSh} (H : BM h S) (a : ∀ b, ¬ (103 ≤ b ∧ b ≤ 106) → h1 b = h b) (Z : MSh h1 s) (zb : ZB h1) : BM h1 (setS S s) :=
  ⟨MC_fr H.1 (fun k _ => congrFun (a 65 (by omega)) k) (fun b _ _ => a b (by omega)), MKp_fr H.2.1 (fun k _ _ => congrFun (a 65 (by omega)) k) (fun b _ _ => a b (by omega)), MTp_fr H.2.2.1 (congrFun (a 65 (by omega)) 22) (a 79 (by omega)), Z, zb⟩
theorem XSh_upd {h h1 : gH} {s : qSh} (H : XSh h s) {i : Nat} (hi : i < 4) {x : Int32 × Nat × (Nat → Int32)} (a : ∀ b, b ≠ 56 + 2 * i → b ≠ 57 + 2 * i → h1 b = h b) (z : h1 (56 + 2 * i) 1 = x.1 ∧ h1 (56 + 2 * i) 2 = nI x.2.1 ∧ ∀ j, j < x.2.1 → h1 (57 + 2 * i) j = x.2.2 j) : XSh h1 (upds s i x) := by
  intro j hj
  unfold upds
  by_cases e : j = i
  · subst e; rw [if_pos rfl]; exact z
  · rw [if_neg e, a (56 + 2 * j) (by omega) (by omega), a (57 + 2 * j) (by omega) (by omega)]; exact H j hj
theorem MSh_upd {h h1 : gH} {s : qSh} (H : MSh h s) {i : Nat} (hi : i < 4) {x : Int32 × Nat × (Nat → Int32)} (a3 : ∀ j, j ≠ i → h1 103 j = h 103 j) (a4 : ∀ j, j ≠ i → h1 104 j = h 104 j) (a5 : ∀ j, j ≠ i → h1 105 j = h 105 j) (a6 : ∀ k, k < 40 * i ∨ 40 * i + 40 ≤ k → h1 106 k = h 106 k) (hs : ∀ j, j < 4 → (s j).2.1 ≤ 40)
    (z : h1 103 i = b2i (!decide (x.1 = -1)) ∧ (¬ x.1 = -1 → h1 104 i = x.1 ∧ h1 105 i = nI x.2.1 ∧ ∀ j, j < x.2.1 → h1 106 (40 * i + j) = x.2.2 j)) : MSh h1 (upds s i x) := by
  intro j hj
  unfold upds
  by_cases e : j = i
  · subst e; rw [if_pos rfl]; exact z
  · rw [if_neg e, a3 j e, a4 j e, a5 j e]
    have hs40 := hs j hj
    obtain ⟨q1, q2⟩ := H j hj
    refine ⟨q1, fun n => ?_⟩
    obtain ⟨q3, q4, q5⟩ := q2 n
    exact ⟨q3, q4, fun k hk => by rw [a6 _ (by omega)]; exact q5 k hk⟩
theorem gsh_nI {i : Nat} (h : i < 4) : gsh (nI i) = 56 + 2 * i := by unfold gsh; rw [clampn (by omega)]
def s_sheet (S : qW) (v1 v2 v3 : Int32) : Int32 × qW := match vin 4 v1 with
  | none => (-2, S)
  | some i => if ¬ (-1 ≤ v2.toInt ∧ v2.toInt ≤ 2) then (-2, S) else if v2 = -1 then (1, setS S (upds S.2.2.2.2 i (-1, 0, fun _ => 0))) else if 40 < v3 then (-2, S) else if v3 < 0 then (-14, S) else (1, setS S (upds S.2.2.2.2 i (v2, vN v3, fun _ => 0)))
theorem s_sheet1 {S : qW} {v1 v2 v3 : Int32} (e : vin 4 v1 = none) : s_sheet S v1 v2 v3 = (-2, S) := by unfold s_sheet; rw [e]
theorem s_sheet2 {S : qW} {i : Nat} {v1 v2 v3 : Int32} (e : vin 4 v1 = some i) (h : ¬ (-1 ≤ v2.toInt ∧ v2.toInt ≤ 2)) : s_sheet S v1 v2 v3 = (-2, S) := by unfold s_sheet; rw [e]; dsimp only; rw [if_pos h]
theorem s_sheet3 {S : qW} {i : Nat} {v1 v3 : Int32} (e : vin 4 v1 = some i) : s_sheet S v1 (-1) v3 = (1, setS S (upds S.2.2.2.2 i (-1, 0, fun _ => 0))) := by unfold s_sheet; rw [e]; dsimp only; rw [if_neg (by decide), if_pos rfl]
theorem s_sheet4 {S : qW} {i : Nat} {v1 v2 v3 : Int32} (e : vin 4 v1 = some i) (h : (-1 ≤ v2.toInt ∧ v2.toInt ≤ 2)) (h1 : ¬ v2 = -1) (h2 : 40 < v3) : s_sheet S v1 v2 v3 = (-2, S) := by unfold s_sheet; rw [e]; dsimp only; rw [if_neg (not_not_intro h), if_neg h1, if_pos h2]
theorem s_sheet5 {S : qW} {i : Nat} {v1 v2 v3 : Int32} (e : vin 4 v1 = some i) (h : (-1 ≤ v2.toInt ∧ v2.toInt ≤ 2)) (h1 : ¬ v2 = -1) (h2 : ¬ 40 < v3) (h3 : v3 < 0) : s_sheet S v1 v2 v3 = (-14, S) := by unfold s_sheet; rw [e]; dsimp only; rw [if_neg (not_not_intro h), if_neg h1, if_neg h2, if_pos h3]
theorem s_sheet6 {S : qW} {i : Nat} {v1 v2 v3 : Int32} (e : vin 4 v1 = some i) (h : (-1 ≤ v2.toInt ∧ v2.toInt ≤ 2)) (h1 : ¬ v2 = -1) (h2 : ¬ 40 < v3) (h3 : ¬ v3 < 0) : s_sheet S v1 v2 v3 = (1, setS S (upds S.2.2.2.2 i (v2, vN v3, fun _ => 0))) := by unfold s_sheet; rw [e]; dsimp only; rw [if_neg (not_not_intro h), if_neg h1, if_neg h2, if_neg h3]
theorem sort_of {v2 : Int32} (h : (-1 ≤ v2.toInt ∧ v2.toInt ≤ 2)) (h1 : ¬ v2 = -1) : v2 = 0 ∨ v2 = 1 ∨ v2 = 2 := by
  have e1 : v2 = -1 ↔ v2.toInt = -1 := by rw [← Int32.toInt_inj]; rfl
  have e0 : v2 = 0 ↔ v2.toInt = 0 := by rw [← Int32.toInt_inj]; rfl
  have e2 : v2 = 1 ↔ v2.toInt = 1 := by rw [← Int32.toInt_inj]; rfl
  have e3 : v2 = 2 ↔ v2.toInt = 2 := by rw [← Int32.toInt_inj]; rfl
  rw [e1] at h1
  rw [e0, e2, e3]; omega
theorem size_of {v3 : Int32} (h2 : ¬ 40 < v3) (h3 : ¬ v3 < 0) : ∃ k, k ≤ 40 ∧ v3 = nI k := by
  obtain ⟨k, hk, rfl⟩ := nI_of h3
  refine ⟨k, ?_, rfl⟩
  by_cases q : k ≤ 40
  · exact q
  · exact absurd ((nlt_r (c := 40) hk (by decide)).mpr (show 40 < k by omega)) h2
theorem W_sheet {S : qW} (H : WI S) (v1 v2 v3 : Int32) : WI (s_sheet S v1 v2 v3).2 := by
  rcases vin_cases 4 (by decide) v1 with ⟨i, hi, -, e⟩ | ⟨e, -⟩
  · by_cases h : (-1 ≤ v2.toInt ∧ v2.toInt ≤ 2)
    · by_cases h1 : v2 = -1
      · subst h1; rw [s_sheet3 e]; exact W_upd H ⟨Nat.zero_le _, Or.inl ⟨rfl, rfl⟩⟩
      · by_cases h2 : 40 < v3
        · rw [s_sheet4 e h h1 h2]; exact H
        · by_cases h3 : v3 < 0
          · rw [s_sheet5 e h h1 h2 h3]; exact H
          · rw [s_sheet6 e h h1 h2 h3]
            obtain ⟨k, hk, rfl⟩ := size_of h2 h3
            exact W_upd H ⟨by rw [vN_nI (by omega)]; exact hk, Or.inr (sort_of h h1)⟩
    · rw [s_sheet2 e h]; exact H
  · rw [s_sheet1 e]; exact H
theorem become21 {o : Nat} {h0 : gH} : ∀ (m k fu : Nat) (h : gH), k + m = 40 → m < fu → (∀ j, j < k → h (o + 1) j = 0) → (∀ b, b ≠ o + 1 → h b = h0 b) → Sp (fE_become_21 o fu (nI k) h) (fun h1 => (∀ j, j < 40 → h1 (o + 1) j = 0) ∧ ∀ b, b ≠ o + 1 → h1 b = h0 b) := by
  intro m
  induction m with
  | zero =>
    intro k fu h hk hfu h1 h2
    obtain ⟨fu, rfl⟩ : ∃ f, fu = f + 1 := ⟨fu - 1, by omega⟩
    have : k = 40 := by omega
    subst this
    unfold fE_become_21
    exact Sp_neg (by decide) (Sp_some ⟨h1, h2⟩)
  | succ m ih =>
    intro k fu h hk hfu h1 h2
    obtain ⟨fu, rfl⟩ : ∃ f, fu = f + 1 := ⟨fu - 1, by omega⟩
    unfold fE_become_21
    refine Sp_pos (nltT (show k < 40 by omega) (by decide)) (Sp_gg (gin_t (by omega) (by omega)) (Sp_let ?_))
    rw [nadd_l k 1, clampn (by omega)]
    refine ih (k + 1) fu _ (by omega) (by omega) (fun j hj => ?_) (fun b hb => by rw [hu_ne hb]; exact h2 b hb)
    by_cases e : j = k
    · rw [e, hu_same]
    · rw [hu_k _ _ _ _ e]; exact h1 j (by omega)
theorem become16 {o : Nat} (s1 : Int32) (h : gH) : Sp (fE_become_16 o s1 h) (fun h1 => (∀ j, j < 40 → h1 (o + 1) j = 0) ∧ h1 o 2 = s1 ∧ h1 o 1 = h o 1 ∧ ∀ b, b ≠ o → b ≠ o + 1 → h1 b = h b) := by
  unfold fE_become_16
  refine Sp_let ?_
  have x0 := become21 (o := o) (h0 := hu h o 2 s1) 40 0 gfu (hu h o 2 s1) (by omega) (by unfold gfu; omega) (fun j hj => by omega) (fun _ _ => rfl)
  rw [nI_0] at x0
  refine Sp_mono x0 (fun h1 q => ⟨q.1, ?_, ?_, fun b b1 b2 => ?_⟩)
  · rw [q.2 o (by omega), hu_same]
  · rw [q.2 o (by omega), hu_k _ _ _ _ (by omega)]
  · rw [q.2 b b2, hu_ne b1]
theorem become_sp {o : Nat} (v1 v2 : Int32) (h : gH) : Sp (fE_become o v1 v2 h) (fun h1 => (∀ j, j < 40 → h1 (o + 1) j = 0) ∧ h1 o 2 = (if v1 = -1 then 0 else v2) ∧ h1 o 1 = v1 ∧ ∀ b, b ≠ o → b ≠ o + 1 → h1 b = h b) := by
  unfold fE_become
  refine Sp_let ?_
  by_cases e : v1 = -1
  · refine Sp_pos e (Sp_mono (become16 0 _) (fun h1 q => ⟨q.1, by rw [if_pos e]; exact q.2.1, by rw [q.2.2.1, hu_same], fun b b1 b2 => by rw [q.2.2.2 b b1 b2, hu_ne b1]⟩))
  · refine Sp_neg e (Sp_mono (become16 v2 _) (fun h1 q => ⟨q.1, by rw [if_neg e]; exact q.2.1, by rw [q.2.2.1, hu_same], fun b b1 b2 => by rw [q.2.2.2 b b1 b2, hu_ne b1]⟩))
theorem X_sheet {h : gH} {S : qW} (H : AX h S) (W : WI S) (v1 v2 v3 : Int32) : Sp (fX_sheet v1 v2 v3 h) (fun p => p.1 = (s_sheet S v1 v2 v3).1 ∧ AX p.2 (s_sheet S v1 v2 v3).2) := by
  unfold fX_sheet fX_sheet_34 fX_sheet_46
  refine Sp_eq (fX_isSheet_eq v1 h) ?_
  dsimp only
  have em1 : (-1 : Int32).toInt = -1 := by decide
  have e2' : (2 : Int32).toInt = 2 := by decide
  rcases vin_cases 4 (by decide) v1 with ⟨i, hi, e1, e⟩ | ⟨e, -⟩
  · subst e1
    rw [vis_nI hi (by decide)]
    refine Sp_neg (by decide) ?_
    by_cases h : (-1 ≤ v2.toInt ∧ v2.toInt ≤ 2)
    · refine Sp_neg (by rw [Int32.lt_iff_toInt_lt, em1]; omega) (Sp_neg (by rw [Int32.lt_iff_toInt_lt, e2']; omega) ?_)
      by_cases h1 : v2 = -1
      · subst h1
        rw [s_sheet3 e]
        refine Sp_pos rfl (Sp_pos rfl (Sp_gg (gin_t hi (by omega)) (Sp_bind (become_sp (-1) v3 _) (fun h1 _ q => Sp_some ⟨rfl, ?_⟩))))
        rw [gsh_nI hi] at q
        refine AX_sh H (fun b hb => q.2.2.2 b (by omega) (by omega)) (XSh_upd H.2.2.2.2.1 hi (fun b b1 b2 => q.2.2.2 b b1 (by omega)) ⟨q.2.2.1, ?_, fun j hj => absurd hj (Nat.not_lt_zero _)⟩)
        dsimp only
        rw [q.2.1]; rfl
      · refine Sp_neg h1 ?_
        by_cases h2 : 40 < v3
        · rw [s_sheet4 e h h1 h2]; exact Sp_pos h2 (Sp_some ⟨rfl, H⟩)
        · refine Sp_neg h2 (Sp_neg h1 ?_)
          by_cases h3 : v3 < 0
          · rw [s_sheet5 e h h1 h2 h3]; exact Sp_pos h3 (Sp_some ⟨rfl, H⟩)
          · rw [s_sheet6 e h h1 h2 h3]
            obtain ⟨k, hk, rfl⟩ := size_of h2 h3
            refine Sp_neg h3 (Sp_gg (gin_t hi (by omega)) (Sp_bind (become_sp v2 (nI k) _) (fun h1' _ q => Sp_some ⟨rfl, ?_⟩)))
            rw [gsh_nI hi] at q
            refine AX_sh H (fun b hb => q.2.2.2 b (by omega) (by omega)) (XSh_upd H.2.2.2.2.1 hi (fun b b1 b2 => q.2.2.2 b b1 (by omega)) ⟨q.2.2.1, ?_, fun j hj => ?_⟩)
            · dsimp only
              rw [q.2.1, if_neg h1, vN_nI (by omega)]
            · have hj2 : j < vN (nI k) := hj
              rw [vN_nI (by omega)] at hj2
              have := q.1 j (by omega)
              rw [show 56 + 2 * i + 1 = 57 + 2 * i by omega] at this
              exact this
    · rw [s_sheet2 e h]
      by_cases q1 : v2 < -1
      · exact Sp_pos q1 (Sp_some ⟨rfl, H⟩)
      · refine Sp_neg q1 (Sp_pos ?_ (Sp_some ⟨rfl, H⟩))
        rw [Int32.lt_iff_toInt_lt, em1] at q1
        rw [Int32.lt_iff_toInt_lt, e2']; omega
  · rw [vis_none e, s_sheet1 e]
    exact Sp_pos rfl (Sp_some ⟨rfl, H⟩)
theorem sheet77 {i : Nat} (hi : i < 4) {v2 : Int32} (hv : ¬ v2 < 0) {n : Nat} (hn : n ≤ 40) {h0 : gH} : ∀ (m k fu : Nat) (h : gH), k + m = n → m < fu → (∀ j, j < k → h 106 (40 * i + j) = 0) → (∀ j, j < 40 * i ∨ 40 * i + 40 ≤ j → h 106 j = h0 106 j) → (∀ b, b ≠ 106 → h b = h0 b) → Sp (fM_sheet_77 (nI i) v2 (nI n) fu (nI k) h) (fun p => p.1 = 1 ∧ (∀ j, j < n → p.2 106 (40 * i + j) = 0) ∧ (∀ j, j < 40 * i ∨ 40 * i + 40 ≤ j → p.2 106 j = h0 106 j) ∧ ∀ b, b ≠ 106 → p.2 b = h0 b) := by
  intro m
  induction m with
  | zero =>
    intro k fu h hk hfu h1 h2 h3
    obtain ⟨fu, rfl⟩ : ∃ f, fu = f + 1 := ⟨fu - 1, by omega⟩
    have : k = n := by omega
    subst this
    unfold fM_sheet_77
    exact Sp_neg (nI_nlt (Nat.le_refl _) (by omega)) (Sp_some ⟨rfl, h1, h2, h3⟩)
  | succ m ih =>
    intro k fu h hk hfu h1 h2 h3
    obtain ⟨fu, rfl⟩ : ∃ f, fu = f + 1 := ⟨fu - 1, by omega⟩
    unfold fM_sheet_77
    have ei : (40 : Int32) * nI i + nI k = nI (40 * i + k) := by rw [nmul_r, nI_add]
    refine Sp_pos ((nlt (by omega) (by omega)).mpr (by omega)) (Sp_neg hv ?_)
    rw [ei]
    refine Sp_gg (gin_t (by omega) (by omega)) (Sp_let ?_)
    rw [nadd_l k 1, clampn (by omega)]
    refine ih (k + 1) fu _ (by omega) (by omega) (fun j hj => ?_) (fun j hj => ?_) (fun b hb => by rw [hu_ne hb]; exact h3 b hb)
    · by_cases e : j = k
      · rw [e, hu_same]
      · rw [hu_k _ _ _ _ (by omega)]; exact h1 j (by omega)
    · rw [hu_k _ _ _ _ (by omega)]; exact h2 j hj
theorem M_sheet {h : gH} {S : qW} (H : BM h S) (W : WI S) (v1 v2 v3 : Int32) : Sp (fM_sheet v1 v2 v3 h) (fun p => p.1 = (s_sheet S v1 v2 v3).1 ∧ BM p.2 (s_sheet S v1 v2 v3).2) := by
  have zb : ∀ x, fM_sheet v1 v2 v3 h = some x → ZB x.2 := fun x e => fM_sheet_zb H.2.2.2.2 e
  suffices Sp (fM_sheet v1 v2 v3 h) (fun p => p.1 = (s_sheet S v1 v2 v3).1 ∧ (ZB p.2 → BM p.2 (s_sheet S v1 v2 v3).2)) from Sp_to this (fun x e q => ⟨q.1, q.2 (zb x e)⟩)
  have hs : ∀ j, j < 4 → (S.2.2.2.2 j).2.1 ≤ 40 := fun j hj => (W.2.2.2.2.2.2 j hj).1
  unfold fM_sheet fM_sheet_34 fM_sheet_45 fM_sheet_59 fM_isSheet
  have em1 : (-1 : Int64).toInt = -1 := by decide
  have e2' : (2 : Int64).toInt = 2 := by decide
  refine Sp_bind (R := fun p => p = (b2i (vis 4 v1), h)) (Sp_eq (fM_in_eq (n := 4) (by decide) v1 h) (Sp_gg (gbo_b _) (Sp_some rfl))) (fun p1 _ e => ?_)
  subst e
  dsimp only
  rcases vin_cases 4 (by decide) v1 with ⟨i, hi, e1, e⟩ | ⟨e, -⟩
  · subst e1
    rw [vis_nI hi (by decide)]
    refine Sp_neg (by decide) (Sp_eq (fM_in_gen v2 (-1) 2 h) ?_)
    rw [em1, e2']
    dsimp only
    by_cases hr : (-1 ≤ v2.toInt ∧ v2.toInt ≤ 2)
    · rw [decide_eq_true hr]
      refine Sp_neg (by decide) ?_
      by_cases h1 : v2 = -1
      · subst h1
        rw [s_sheet3 e]
        refine Sp_pos (by decide) (Sp_pos (by decide) (Sp_pos (by decide) (Sp_gg (gin_t hi (by omega)) (Sp_gg (by decide) (Sp_let (Sp_gg (gin_t hi (by omega)) (Sp_let (Sp_gg (gin_t hi (by omega)) (Sp_let ?_)))))))))
        rw [clampn (by omega)]
        obtain ⟨f, hf⟩ : ∃ f, gfu = f + 1 := ⟨gfu - 1, rfl⟩
        rw [hf]
        unfold fM_sheet_77
        have fin : BM (hu (hu (hu h 103 i 0) 104 i (-1)) 105 i v3) (setS S (upds S.2.2.2.2 i (-1, 0, fun _ => 0))) ∨ ¬ ZB (hu (hu (hu h 103 i 0) 104 i (-1)) 105 i v3) := by
          by_cases z : ZB (hu (hu (hu h 103 i 0) 104 i (-1)) 105 i v3)
          · left
            refine BM_sh H (fun b hb => by rw [hu_ne (by omega), hu_ne (by omega), hu_ne (by omega)]) (MSh_upd H.2.2.2.1 hi (fun j hj => ?_) (fun j hj => ?_) (fun j hj => ?_) (fun k hk => ?_) hs ⟨?_, fun q => absurd rfl q⟩) z
            · rw [hu_ne (by omega), hu_ne (by omega), hu_k _ _ _ _ hj]
            · rw [hu_ne (by omega), hu_k _ _ _ _ hj, hu_ne (by omega)]
            · rw [hu_k _ _ _ _ hj, hu_ne (by omega), hu_ne (by omega)]
            · rw [hu_ne (by omega), hu_ne (by omega), hu_ne (by omega)]
            · rw [hu_ne (by omega), hu_ne (by omega), hu_same]; rfl
          · right; exact z
        have fin2 : ZB (hu (hu (hu h 103 i 0) 104 i (-1)) 105 i v3) → BM (hu (hu (hu h 103 i 0) 104 i (-1)) 105 i v3) (setS S (upds S.2.2.2.2 i (-1, 0, fun _ => 0))) := fun z => by
          rcases fin with q | q
          · exact q
          · exact absurd z q
        exact Sp_if (fun _ => Sp_pos (by decide) (Sp_some ⟨rfl, fin2⟩)) (fun _ => Sp_some ⟨rfl, fin2⟩)
      · have so := sort_of hr h1
        have hn0 : ¬ v2 < 0 := by rcases so with rfl | rfl | rfl <;> decide
        refine Sp_neg hn0 ?_
        by_cases h2 : 40 < v3
        · rw [s_sheet4 e hr h1 h2]; exact Sp_pos h2 (Sp_some ⟨rfl, fun _ => H⟩)
        · refine Sp_neg h2 (Sp_neg hn0 ?_)
          by_cases h3 : v3 < 0
          · rw [s_sheet5 e hr h1 h2 h3]; exact Sp_pos h3 (Sp_some ⟨rfl, fun _ => H⟩)
          · rw [s_sheet6 e hr h1 h2 h3]
            obtain ⟨n, hn, rfl⟩ := size_of h2 h3
            refine Sp_neg h3 (Sp_neg hn0 (Sp_gg (gin_t hi (by omega)) (Sp_gg (by decide) (Sp_let (Sp_gg (gin_t hi (by omega)) (Sp_let (Sp_gg (gin_t hi (by omega)) (Sp_let ?_))))))))
            rw [clampn (by omega)]
            have x0 := sheet77 (v2 := v2) hi hn0 hn (h0 := hu (hu (hu h 103 i 1) 104 i v2) 105 i (nI n)) n 0 gfu _ (by omega) (by unfold gfu; omega) (fun j hj => by omega) (fun _ _ => rfl) (fun _ _ => rfl)
            rw [nI_0] at x0
            refine Sp_mono x0 (fun p q => ⟨q.1, fun z => ?_⟩)
            obtain ⟨q1, q2, q3, q4⟩ := q
            refine BM_sh H (fun b hb => by rw [q4 b (by omega), hu_ne (by omega), hu_ne (by omega), hu_ne (by omega)]) (MSh_upd H.2.2.2.1 hi (fun j hj => ?_) (fun j hj => ?_) (fun j hj => ?_) (fun k hk => ?_) hs ⟨?_, fun _ => ⟨?_, ?_, fun j hj => ?_⟩⟩) z
            · rw [q4 103 (by omega), hu_ne (by omega), hu_ne (by omega), hu_k _ _ _ _ hj]
            · rw [q4 104 (by omega), hu_ne (by omega), hu_k _ _ _ _ hj, hu_ne (by omega)]
            · rw [q4 105 (by omega), hu_k _ _ _ _ hj, hu_ne (by omega), hu_ne (by omega)]
            · rw [q3 k hk, hu_ne (by omega), hu_ne (by omega), hu_ne (by omega)]
            · rw [q4 103 (by omega), hu_ne (by omega), hu_ne (by omega), hu_same]
              dsimp only
              rw [decide_eq_false h1]; rfl
            · rw [q4 104 (by omega), hu_ne (by omega), hu_same]
            · rw [q4 105 (by omega), hu_same]
              dsimp only
              rw [vN_nI (by omega)]
            · have hj2 : j < vN (nI n) := hj
              rw [vN_nI (by omega)] at hj2
              exact q2 j hj2
    · rw [decide_eq_false hr, s_sheet2 e hr]
      exact Sp_pos rfl (Sp_some ⟨rfl, fun _ => H⟩)
  · rw [vis_none e, s_sheet1 e]
    exact Sp_pos rfl (Sp_some ⟨rfl, fun _ => H⟩)
