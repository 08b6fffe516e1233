def undoK (S : qW) (l : Nat) : qK := ((qtb S.2.1.1.1 S.2.1.1.2.2.2 (S.2.1.2.2.1.2.1 l), (fun r => decide (S.2.1.2.2.1.2.2.2 l ≤ r ∧ r < S.1.1)), false, S.2.1.1.2.2.2.take (S.2.1.2.2.1.2.1 l)), (S.2.1.2.2.1.2.2.1 l, S.2.1.2.1.2), (l, S.2.1.2.2.1.2), S.2.1.2.2.2)
def s_undo (S : qW) : Int32 × qW := if S.2.1.2.2.1.1 = 0 then (-3, S) else
  (nI (S.2.1.1.2.2.2.length - S.2.1.2.2.1.2.1 (S.2.1.2.2.1.1 - 1)), setK S (undoK S (S.2.1.2.2.1.1 - 1)))
theorem s_undo2 {S : qW} (h : ¬ S.2.1.2.2.1.1 = 0) : s_undo S = (nI (S.2.1.1.2.2.2.length - S.2.1.2.2.1.2.1 (S.2.1.2.2.1.1 - 1)), setK S (undoK S (S.2.1.2.2.1.1 - 1))) := if_neg h
theorem undo_KI {S : qW} (H : WI S) {l : Nat} (hl : l < S.2.1.2.2.1.1) : KI S.1.1 (undoK S l) := by
  obtain ⟨h1, ⟨k1, k2, k3, k4, k5⟩, h3, h4⟩ := H
  have k4l := k4 l hl
  have hT := TW.take k2 (S.2.1.2.2.1.2.1 l)
  refine ⟨fun vs T kd => ⟨fun _ x hx => ?_, fun z => (Bool.false_ne_true z).elim, fun r hr q => ?_⟩, hT, Nat.le_trans (Nat.le_of_lt hl) k3, fun i hi => ?_, fun i j hij hj => k5 i j hij (Nat.lt_trans hj hl)⟩
  · obtain ⟨v, hv, q⟩ := k4l.2.2.2 x hx
    refine (qany_iff _).mpr ⟨v, hv, ?_⟩
    have := hT.2.2 x hx v hv
    show qtb S.2.1.1.1 S.2.1.1.2.2.2 (S.2.1.2.2.1.2.1 l) x v = true
    cases e : qtb S.2.1.1.1 S.2.1.1.2.2.2 (S.2.1.2.2.1.2.1 l) x v with
    | true => rfl
    | false => exact absurd (this.mp e) q
  · rw [Eact_Et]
    have := of_decide_eq_true q
    exact decide_eq_true this.2
  · have hi2 : i < l := hi
    obtain ⟨a1, a2, a3, a4⟩ := k4 i (by omega)
    obtain ⟨b1, b2⟩ := k5 i l (by omega) hl
    refine ⟨?_, b2, a3, ?_⟩
    · show _ ≤ (S.2.1.1.2.2.2.take _).length
      rw [List.length_take, Nat.min_eq_left k4l.1]; exact b1
    · intro x hx
      obtain ⟨v, hv, q⟩ := a4 x hx
      refine ⟨v, hv, ?_⟩
      show ¬ 10 * x + v ∈ ((S.2.1.1.2.2.2.take (S.2.1.2.2.1.2.1 l)).take (S.2.1.2.2.1.2.1 i)).map Prod.fst
      rw [List.take_take, Nat.min_eq_left b1]; exact q
theorem W_undo {S : qW} (H : WI S) : WI (s_undo S).2 := by
  by_cases h0 : S.2.1.2.2.1.1 = 0
  · unfold s_undo; rw [if_pos h0]; exact H
  · rw [s_undo2 h0]
    exact ⟨H.1, undo_KI H (by omega), Nat.le_trans (H.2.1.2.2.2.1 (S.2.1.2.2.1.1 - 1) (by omega)).2.1 H.2.2.1, H.2.2.2⟩
theorem X_undo {h : gH} {S : qW} (H : AX h S) (W : WI S) : Sp (fX_undo h) (fun p => p.1 = (s_undo S).1 ∧ AX p.2 (s_undo S).2) := by
  have C := H.2.1
  refine cX_AX H ?_ (fun x e => fX_undo_fr e) (by decide) (by decide)
  unfold fX_undo
  have hl6 := C.2.2.2.1
  have l8 := W.2.1.2.2.1
  by_cases l0 : S.2.1.2.2.1.1 = 0
  · refine Sp_neg (by rw [hl6, l0]; decide) (Sp_some (cXs ?_))
    unfold s_undo; rw [if_pos l0]
  · refine Sp_pos (by rw [hl6]; exact (nlt_r (by omega) (by decide)).mpr (show 0 < _ by omega)) ?_
    rw [s_undo2 l0]
    generalize hlq : S.2.1.2.2.1.1 - 1 = l at *
    have hl : l < 8 := by omega
    have hln : S.2.1.2.2.1.1 = l + 1 := by omega
    have cl := C.2.2.2.2 l (by omega)
    have kl := W.2.1.2.2.2.1 l (by omega)
    have hd12 := W.2.2.1
    have e1 : fP_close 22 h = some (nI l, hu (hu h 22 6 (nI l)) 22 5 (nI (S.2.1.2.2.1.2.2.1 l))) := by
      have a1 : hu h 22 6 (nI l) 22 6 = nI l := hu_same _ _ _ _
      have a2 : hu h 22 6 (nI l) (22 + 4) = h (22 + 4) := hu_ne (by omega)
      have a3 : hu (hu h 22 6 (nI l)) 22 5 (nI (S.2.1.2.2.1.2.2.1 l)) 22 6 = nI l := by rw [hu_k _ _ _ _ (by omega), a1]
      unfold fP_close glet
      dsimp only
      rw [hl6, hln, nI_pred, a1, gg_t (gin_t hl (by omega)), clampn (by omega), a2, cl.2.1, a3]
    refine Sp_eq e1 ?_
    dsimp only
    refine Sp_gg (gin_t hl (by omega)) ?_
    rw [clampn (by omega), hu_ne (by omega), hu_ne (by omega), cl.1]
    have hX : HX (hu (hu h 22 6 (nI l)) 22 5 (nI (S.2.1.2.2.1.2.2.1 l))) 17 S.2.1.1.1 S.2.1.1.2.1 S.2.1.1.2.2.1 S.2.1.1.2.2.2 (Eact (Et S.1)) := HP_fr C.1 (fun k => by rw [hu_ne (by omega), hu_ne (by omega)]) (fun b b1 b2 => by rw [hu_ne (by omega), hu_ne (by omega)])
    refine Sp_bind (Sp_and (takeBack_sp gH17 hX kl.1) (fun x e => fH_takeBack_fr gH17 e)) (fun h4 _ q => ?_)
    obtain ⟨⟨q1, q2, q3, q4, q5, q6, q7⟩, fr⟩ := q
    have fr2 := gfr_out fr 17 18 (by decide) (by decide)
    have h18 : h4 1 8 = nI S.1.1 := by rw [fr2 1 (by omega), hu_ne (by omega), hu_ne (by omega)]; exact H.1.1.2.2.1
    refine Sp_eq (f := fun p6 => gg (gin (nI l) 8) <| glet (hu p6.2 17 7 (p6.1 &&& (-((1 : Int32) <<< ((p6.2 27 l) &&& 31))))) fun h9 => some ((((hu (hu h 22 6 (nI l)) 22 5 (nI (S.2.1.2.2.1.2.2.1 l))) 17 5) - (h9 17 5)), h9)) (x := (mkn 24 (fun i => decide (i < S.1.1)), h4)) ?_ ?_
    · unfold fR_all; rw [h18, all_mask _ (by have := W.1; omega)]
    · dsimp only
      refine Sp_gg (gin_t hl (by omega)) (Sp_let (Sp_some ?_))
      have e27 : h4 27 l = nI (S.2.1.2.2.1.2.2.2 l) := by rw [fr2 27 (by omega), hu_ne (by omega), hu_ne (by omega)]; exact cl.2.2
      have e17 : hu (hu h 22 6 (nI l)) 22 5 (nI (S.2.1.2.2.1.2.2.1 l)) 17 5 = h 17 5 := by rw [hu_ne (by omega), hu_ne (by omega)]
      rw [e27, e17, undo_mask _ (by have := W.1; omega) _ (by have := kl.2.2.1; have := W.1; omega), hu_k _ _ _ _ (by omega)]
      refine ⟨?_, Or.inr ⟨_, rfl, ⟨⟨fun x hx => ?_, ?_, ?_, ?_, ⟨?_, fun i a hi => ?_⟩, ?_, q7⟩, ?_, ⟨?_, ?_, fun i hi => ?_⟩, ?_, fun i hi => ?_⟩, ?_⟩⟩
      · dsimp only
        rw [C.1.2.2.2.2.1.1, q5.1, List.length_take, Nat.min_eq_left kl.1, nsub kl.1]
      · dsimp only; rw [hu_ne (by omega)]; exact q1 x hx
      · dsimp only; rw [hu_ne (by omega)]; exact q2
      · dsimp only; rw [hu_same]; rfl
      · dsimp only; rw [hu_k _ _ _ _ (by omega)]; exact q4
      · dsimp only; rw [hu_k _ _ _ _ (by omega)]; exact q5.1
      · dsimp only; rw [hu_ne (by omega), hu_ne (by omega)]; exact q5.2 i a hi
      · dsimp only; rw [hu_k _ _ _ _ (by omega)]; exact q6
      · dsimp only; rw [hu_k _ _ _ _ (by omega), gfr_fld fr 17 8 (by decide) (by decide), hu_ne (by omega), hu_ne (by omega)]; exact C.2.1
      · exact Nat.le_trans kl.2.1 hd12
      · dsimp only; rw [hu_ne (by omega), fr2 22 (by omega), hu_same]; rfl
      · dsimp only; rw [hu_ne (by omega), hu_ne (by omega), fr2 _ (by omega), fr2 _ (by omega), hu_ne (by omega), hu_ne (by omega), hu_ne (by omega), hu_ne (by omega)]
        exact C.2.2.1.2.2 i (Nat.lt_of_lt_of_le hi kl.2.1)
      · dsimp only; rw [hu_ne (by omega), fr2 22 (by omega), hu_k _ _ _ _ (by omega), hu_same]; rfl
      · dsimp only; rw [hu_ne (by omega), hu_ne (by omega), hu_ne (by omega), fr2 _ (by omega), fr2 _ (by omega), fr2 _ (by omega), hu_ne (by omega), hu_ne (by omega), hu_ne (by omega), hu_ne (by omega), hu_ne (by omega), hu_ne (by omega)]
        exact C.2.2.2.2 i (by have : i < l := hi
                              omega)
      · dsimp only; rw [hu_k _ _ _ _ (by omega), gfr_fld fr 17 10 (by decide) (by decide), hu_ne (by omega), hu_ne (by omega)]; exact H.2.2.2.2.2.1.1
