/-! level, undo -/
theorem Eact_Et (R : qR) (r : Nat) : Eact (Et R) r = decide (r < R.1) := by
  show (qact R.1 0 0 r && true) = _
  rw [Bool.and_true]
  unfold qact
  rw [Bool.eq_iff_iff]
  simp only [Bool.or_eq_true, decide_eq_true_eq]
  omega
theorem Q_lt {S : qW} (W : WI S) {r : Nat} (hr : r < 24) (h : S.2.1.1.2.1 r = true) : r < S.1.1 := by
  have := (KI_PI W.2.1).2.2 r hr h
  rw [Eact_Et] at this
  exact of_decide_eq_true this
def updn (f : Nat → Nat) (k v : Nat) : Nat → Nat := fun i => if i = k then v else f i
def s_level (S : qW) : Int32 × qW := if S.2.1.1.2.2.1 = true then (-3, S) else if ¬ qcnt S.2.1.1.2.1 24 = 0 then (-3, S) else if S.2.1.2.2.1.1 = 8 then (-4, S) else
  (nI (S.2.1.2.2.1.1 + 1), setK S (S.2.1.1, S.2.1.2.1, (S.2.1.2.2.1.1 + 1, updn S.2.1.2.2.1.2.1 S.2.1.2.2.1.1 S.2.1.1.2.2.2.length, updn S.2.1.2.2.1.2.2.1 S.2.1.2.2.1.1 S.2.1.2.1.1, updn S.2.1.2.2.1.2.2.2 S.2.1.2.2.1.1 S.1.1), S.2.1.2.2.2))
theorem s_level1 {S : qW} (h : S.2.1.1.2.2.1 = true) : s_level S = (-3, S) := by unfold s_level; rw [if_pos h]
theorem s_level2 {S : qW} (h : S.2.1.1.2.2.1 = false) (q : ¬ qcnt S.2.1.1.2.1 24 = 0) : s_level S = (-3, S) := by unfold s_level; rw [if_neg (by rw [h]; decide), if_pos q]
theorem s_level3 {S : qW} (h : S.2.1.1.2.2.1 = false) (q : qcnt S.2.1.1.2.1 24 = 0) (l : S.2.1.2.2.1.1 = 8) : s_level S = (-4, S) := by unfold s_level; rw [if_neg (by rw [h]; decide), if_neg (by omega), if_pos l]
theorem s_level4 {S : qW} (h : S.2.1.1.2.2.1 = false) (q : qcnt S.2.1.1.2.1 24 = 0) (l : ¬ S.2.1.2.2.1.1 = 8) : s_level S = (nI (S.2.1.2.2.1.1 + 1), setK S (S.2.1.1, S.2.1.2.1, (S.2.1.2.2.1.1 + 1, updn S.2.1.2.2.1.2.1 S.2.1.2.2.1.1 S.2.1.1.2.2.2.length, updn S.2.1.2.2.1.2.2.1 S.2.1.2.2.1.1 S.2.1.2.1.1, updn S.2.1.2.2.1.2.2.2 S.2.1.2.2.1.1 S.1.1), S.2.1.2.2.2)) := by unfold s_level; rw [if_neg (by rw [h]; decide), if_neg (by omega), if_neg l]
theorem NEt_all {D : Nat → Nat → Bool} {t : qT} (hT : TW D t) (hne : ∀ x, x < 8 → qany (D x) = true) : NEt t t.length := by
  intro x hx
  obtain ⟨v, hv, h1⟩ := (qany_iff _).mp (hne x hx)
  refine ⟨v, hv, fun z => ?_⟩
  rw [List.take_length] at z
  have := (hT.2.2 x hx v hv).mpr z
  rw [h1] at this; cases this
theorem W_level {S : qW} (H : WI S) : WI (s_level S).2 := by
  cases hf : S.2.1.1.2.2.1 with
  | true => rw [s_level1 hf]; exact H
  | false =>
    by_cases q : qcnt S.2.1.1.2.1 24 = 0
    · by_cases l : S.2.1.2.2.1.1 = 8
      · rw [s_level3 hf q l]; exact H
      · rw [s_level4 hf q l]
        obtain ⟨h1, ⟨k1, k2, k3, k4, k5⟩, h3⟩ := H
        have hlt : S.2.1.2.2.1.1 < 8 := by omega
        refine ⟨h1, ⟨k1, k2, hlt, fun i hi => ?_, fun i j hij hj => ?_⟩, h3⟩
        · unfold updn
          by_cases e : i = S.2.1.2.2.1.1
          · subst e
            simp only [setK, if_true]
            exact ⟨Nat.le_refl _, Nat.le_refl _, Nat.le_refl _, NEt_all k2 ((k1 S.1.2.1 S.1.2.2.1 S.1.2.2.2).1 hf)⟩
          · simp only [setK, if_neg e]
            exact k4 i (by have : i < S.2.1.2.2.1.1 + 1 := hi
                           omega)
        · have hj2 : j < S.2.1.2.2.1.1 + 1 := hj
          unfold updn
          simp only [setK]
          by_cases e : j = S.2.1.2.2.1.1
          · rw [if_pos e, if_pos e]
            by_cases e2 : i = S.2.1.2.2.1.1
            · rw [if_pos e2, if_pos e2]; exact ⟨Nat.le_refl _, Nat.le_refl _⟩
            · rw [if_neg e2, if_neg e2]
              have := k4 i (by omega)
              exact ⟨this.1, this.2.1⟩
          · rw [if_neg e, if_neg e, if_neg (by omega), if_neg (by omega)]
            exact k5 i j hij (by omega)
    · rw [s_level2 hf q]; exact H
theorem X_level {h : gH} {S : qW} (H : AX h S) (W : WI S) : Sp (fX_level h) (fun p => p.1 = (s_level S).1 ∧ AX p.2 (s_level S).2) := by
  have C := H.2.1
  refine cX_AX H ?_ (fun x e => fX_level_fr e) (by decide) (by decide)
  unfold fX_level
  have h9 := C.1.2.2.2.1
  have h7 := C.1.2.2.1
  have hl6 := C.2.2.2.1
  cases hf : S.2.1.1.2.2.1 with
  | true =>
    rw [hf] at h9
    exact Sp_neg (by rw [h9]; decide) (Sp_some (cXs (s_level1 hf)))
  | false =>
    rw [hf] at h9
    refine Sp_pos h9 ?_
    have hz : mkn 24 S.2.1.1.2.1 = 0 ↔ qcnt S.2.1.1.2.1 24 = 0 := (mkn_zero (by omega) _).trans (qcnt_0 _ _).symm
    by_cases q : qcnt S.2.1.1.2.1 24 = 0
    · refine Sp_pos (by rw [h7]; exact hz.mpr q) ?_
      have l8 := W.2.1.2.2.1
      by_cases l : S.2.1.2.2.1.1 = 8
      · exact Sp_neg (by rw [hl6, l]; decide) (Sp_some (cXs (s_level3 hf q l)))
      · have hl : S.2.1.2.2.1.1 < 8 := by omega
        refine Sp_pos (by rw [hl6]; exact nltT (show S.2.1.2.2.1.1 < 8 from hl) (by decide)) ?_
        rw [s_level4 hf q l, C.1.2.2.2.2.1.1, H.1.1.2.2.1]
        unfold fP_open
        refine Sp_bind (R := fun p => p = (nI (S.2.1.2.2.1.1 + 1), hu (hu (hu (hu h 25 S.2.1.2.2.1.1 (nI S.2.1.1.2.2.2.length)) 26 S.2.1.2.2.1.1 (nI S.2.1.2.1.1)) 27 S.2.1.2.2.1.1 (nI S.1.1)) 22 6 (nI (S.2.1.2.2.1.1 + 1)))) ?_ (fun p1 _ e => Sp_some ?_)
        · rw [hl6]
          refine Sp_gg (gin_t hl (by omega)) (Sp_let ?_)
          rw [clampn (by omega), hu_o _ _ _ _ _ (by omega), hl6]
          refine Sp_gg (gin_t hl (by omega)) (Sp_let ?_)
          rw [clampn (by omega), hu_o _ _ _ _ _ (by omega), hu_o _ _ _ _ _ (by omega), hu_o _ _ _ _ _ (by omega), hl6, C.2.2.1.2.1]
          refine Sp_gg (gin_t hl (by omega)) (Sp_let (Sp_let (Sp_some ?_)))
          rw [clampn (by omega), hu_same, hu_o _ _ _ _ _ (by omega), hu_o _ _ _ _ _ (by omega), hu_o _ _ _ _ _ (by omega), hl6, nadd_l]
          rfl
        · rw [e]
          have fr : ∀ b, b < 22 → (hu (hu (hu (hu h 25 S.2.1.2.2.1.1 (nI S.2.1.1.2.2.2.length)) 26 S.2.1.2.2.1.1 (nI S.2.1.2.1.1)) 27 S.2.1.2.2.1.1 (nI S.1.1)) 22 6 (nI (S.2.1.2.2.1.1 + 1))) b = h b := fun b hb => by rw [hu_ne (by omega), hu_ne (by omega), hu_ne (by omega), hu_ne (by omega)]
          refine ⟨rfl, Or.inr ⟨_, rfl, ⟨HP_fr C.1 (fun k => by dsimp only; rw [fr 17 (by omega)]) (fun b b1 b2 => fr b (by omega)), ?_, ⟨C.2.2.1.1, ?_, fun i hi => ?_⟩, ?_, fun i hi => ?_⟩, ?_⟩⟩
          · dsimp only; rw [fr 17 (by omega)]; exact C.2.1
          · dsimp only; rw [hu_k _ _ _ _ (by omega), hu_o _ _ _ _ _ (by omega), hu_o _ _ _ _ _ (by omega), hu_o _ _ _ _ _ (by omega)]; exact C.2.2.1.2.1
          · have := C.2.2.1.2.2 i hi
            dsimp only at this ⊢
            rw [hu_o _ _ _ _ _ (by omega), hu_o _ _ _ _ _ (by omega), hu_o _ _ _ _ _ (by omega), hu_o _ _ _ _ _ (by omega), hu_o _ _ _ _ _ (by omega), hu_o _ _ _ _ _ (by omega), hu_o _ _ _ _ _ (by omega), hu_o _ _ _ _ _ (by omega)]
            exact this
          · dsimp only; rw [hu_same]
          · dsimp only
            have hi2 : i < S.2.1.2.2.1.1 + 1 := hi
            have e25 : (hu (hu (hu (hu h 25 S.2.1.2.2.1.1 (nI S.2.1.1.2.2.2.length)) 26 S.2.1.2.2.1.1 (nI S.2.1.2.1.1)) 27 S.2.1.2.2.1.1 (nI S.1.1)) 22 6 (nI (S.2.1.2.2.1.1 + 1))) (22 + 3) = hu h 25 S.2.1.2.2.1.1 (nI S.2.1.1.2.2.2.length) 25 := by rw [hu_ne (by omega), hu_ne (by omega), hu_ne (by omega)]
            have e26 : (hu (hu (hu (hu h 25 S.2.1.2.2.1.1 (nI S.2.1.1.2.2.2.length)) 26 S.2.1.2.2.1.1 (nI S.2.1.2.1.1)) 27 S.2.1.2.2.1.1 (nI S.1.1)) 22 6 (nI (S.2.1.2.2.1.1 + 1))) (22 + 4) = hu (hu h 25 S.2.1.2.2.1.1 (nI S.2.1.1.2.2.2.length)) 26 S.2.1.2.2.1.1 (nI S.2.1.2.1.1) 26 := by rw [hu_ne (by omega), hu_ne (by omega)]
            have e27 : (hu (hu (hu (hu h 25 S.2.1.2.2.1.1 (nI S.2.1.1.2.2.2.length)) 26 S.2.1.2.2.1.1 (nI S.2.1.2.1.1)) 27 S.2.1.2.2.1.1 (nI S.1.1)) 22 6 (nI (S.2.1.2.2.1.1 + 1))) (22 + 5) = hu (hu (hu h 25 S.2.1.2.2.1.1 (nI S.2.1.1.2.2.2.length)) 26 S.2.1.2.2.1.1 (nI S.2.1.2.1.1)) 27 S.2.1.2.2.1.1 (nI S.1.1) 27 := by rw [hu_ne (by omega)]
            rw [e25, e26, e27]
            unfold updn
            by_cases e : i = S.2.1.2.2.1.1
            · rw [if_pos e, if_pos e, if_pos e, e, hu_same, hu_same, hu_same]; exact ⟨rfl, rfl, rfl⟩
            · rw [if_neg e, if_neg e, if_neg e, hu_k _ _ _ _ e, hu_k _ _ _ _ e, hu_k _ _ _ _ e, hu_ne (by omega), hu_ne (by omega), hu_ne (by omega)]
              exact C.2.2.2.2 i (by omega)
          · dsimp only; rw [fr 17 (by omega)]; exact H.2.2.2.2.2.1.1
    · exact Sp_neg (by rw [h7]; exact fun z => q (hz.mp z)) (Sp_some (cXs (s_level2 hf q)))
