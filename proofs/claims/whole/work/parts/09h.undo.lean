def undoK (S : qW) (l : Nat) : qK := ((qtb S.2.1.1.1 S.2.1.1.2.2.2 (S.2.1.2.2.1.2.1 l), (fun r => decide (S.2.1.2.2.1.2.2.2 l ≤ r ∧ r < S.1.1)), false, S.2.1.1.2.2.2.take (S.2.1.2.2.1.2.1 l)), (S.2.1.2.2.1.2.2.1 l, S.2.1.2.1.2), (l, S.2.1.2.2.1.2), S.2.1.2.2.2)
def s_undo (S : qW) : Int32 × qW := if S.2.1.2.2.1.1 = 0 then (-3, S) else
  (nI (S.2.1.1.2.2.2.length - S.2.1.2.2.1.2.1 (S.2.1.2.2.1.1 - 1)), setK S (undoK S (S.2.1.2.2.1.1 - 1)))
theorem s_undo2 {S : qW} (h : ¬ S.2.1.2.2.1.1 = 0) : s_undo S = (nI (S.2.1.1.2.2.2.length - S.2.1.2.2.1.2.1 (S.2.1.2.2.1.1 - 1)), setK S (undoK S (S.2.1.2.2.1.1 - 1))) := if_neg h
theorem undo_KI {S : qW} (H : WI S) {l : Nat} (hl : l < S.2.1.2.2.1.1) : KI S.1.1 (undoK S l) := by
  obtain ⟨h1, ⟨k1, k2, k3, k4, k5⟩, h3, h4⟩ := H
  have k4l := k4 l hl
  have hT := TW.take k2 (S.2.1.2.2.1.2.1 l)
  refine ⟨fun vs T kd => ⟨fun _ x hx => ?_, fun z => (Bool.false_ne_true z).elim, fun r hr q => ?_⟩, hT, Nat.le_trans (Nat.le_of_lt hl) k3, fun i hi => ?_, fun i j hij hj => k5 i j hij (Nat.lt_trans hj hl)⟩
  · obtain ⟨v, hv, q⟩ := k4l.2.2.2 x hx
    refine (qany_iff _).mpr ⟨v, hv, ?_⟩
    have := hT.2.2 x hx v hv
    show qtb S.2.1.1.1 S.2.1.1.2.2.2 (S.2.1.2.2.1.2.1 l) x v = true
    cases e : qtb S.2.1.1.1 S.2.1.1.2.2.2 (S.2.1.2.2.1.2.1 l) x v with
    | true => rfl
    | false => exact absurd (this.mp e) q
  · rw [Eact_Et]
    have := of_decide_eq_true q
    exact decide_eq_true this.2
  · have hi2 : i < l := hi
    obtain ⟨a1, a2, a3, a4⟩ := k4 i (by omega)
    obtain ⟨b1, b2⟩ := k5 i l (by omega) hl
    refine ⟨?_, b2, a3, ?_⟩
    · show _ ≤ (S.2.1.1.2.2.2.take _).length
      rw [List.length_take, Nat.min_eq_left k4l.1]; exact b1
    · intro x hx
      obtain ⟨v, hv, q⟩ := a4 x hx
      refine ⟨v, hv, ?_⟩
      show ¬ 10 * x + v ∈ ((S.2.1.1.2.2.2.take (S.2.1.2.2.1.2.1 l)).take (S.2.1.2.2.1.2.1 i)).map Prod.fst
      rw [List.take_take, Nat.min_eq_left b1]; exact q
theorem W_undo {S : qW} (H : WI S) : WI (s_undo S).2 := by
  by_cases h0 : S.2.1.2.2.1.1 = 0
  · unfold s_undo; rw [if_pos h0]; exact H
  · rw [s_undo2 h0]
    exact ⟨H.1, undo_KI H (by omega), Nat.le_trans (H.2.1.2.2.2.1 (S.2.1.2.2.1.1 - 1) (by omega)).2.1 H.2.2.1, H.2.2.2⟩
theorem X_undo {h : gH} {S : qW} (H : AX h S) (W : WI S) : Sp (fX_undo h) (fun p => p.1 = (s_undo S).1 ∧ AX p.2 (s_undo S).2) := by
  have C := H.2.1
  refine cX_AX H ?_ (fun x e => fX_undo_fr e) (by decide) (by decide)
  unfold fX_undo
  have hl6 := C.2.2.2.1
  have l8 := W.2.1.2.2.1
  by_cases l0 : S.2.1.2.2.1.1 = 0
  · refine Sp_neg (by rw [hl6, l0]; decide) (Sp_some (cXs ?_))
    unfold s_undo; rw [if_pos l0]
  · refine Sp_pos (by rw [hl6]; exact (nlt_r (by omega) (by decide)).mpr (show 0 < _ by omega)) ?_
    rw [s_undo2 l0]
    generalize hlq : S.2.1.2.2.1.1 - 1 = l at *
    have hl : l < 8 := by omega
    have hln : S.2.1.2.2.1.1 = l + 1 := by omega
    have cl := C.2.2.2.2 l (by omega)
    have kl := W.2.1.2.2.2.1 l (by omega)
    have hd12 := W.2.2.1
    have e1 : fP_close 22 h = some (nI l, hu (hu h 22 6 (nI l)) 22 5 (nI (S.2.1.2.2.1.2.2.1 l))) := by
      have a1 : hu h 22 6 (nI l) 22 6 = nI l := hu_same _ _ _ _
      have a2 : hu h 22 6 (nI l) (22 + 4) = h (22 + 4) := hu_ne (by omega)
      have a3 : hu (hu h 22 6 (nI l)) 22 5 (nI (S.2.1.2.2.1.2.2.1 l)) 22 6 = nI l := by rw [hu_k _ _ _ _ (by omega), a1]
      unfold fP_close glet
      dsimp only
      rw [hl6, hln, nI_pred, a1, gg_t (gin_t hl (by omega)), clampn (by omega), a2, cl.2.1, a3]
    refine Sp_eq e1 ?_
    dsimp only
    refine Sp_gg (gin_t hl (by omega)) ?_
    rw [clampn (by omega), hu_ne (by omega), hu_ne (by omega), cl.1]
    have hX : HX (hu (hu h 22 6 (nI l)) 22 5 (nI (S.2.1.2.2.1.2.2.1 l))) 17 S.2.1.1.1 S.2.1.1.2.1 S.2.1.1.2.2.1 S.2.1.1.2.2.2 (Eact (Et S.1)) := HP_fr C.1 (fun k => by rw [hu_ne (by omega), hu_ne (by omega)]) (fun b b1 b2 => by rw [hu_ne (by omega), hu_ne (by omega)])
    refine Sp_bind (Sp_and (takeBack_sp gH17 hX kl.1) (fun x e => fH_takeBack_fr gH17 e)) (fun h4 _ q => ?_)
    obtain ⟨⟨q1, q2, q3, q4, q5, q6, q7⟩, fr⟩ := q
    have fr2 := gfr_out fr 17 18 (by decide) (by decide)
    have h18 : h4 1 8 = nI S.1.1 := by rw [fr2 1 (by omega), hu_ne (by omega), hu_ne (by omega)]; exact H.1.1.2.2.1
    refine Sp_eq (f := fun p6 => gg (gin (nI l) 8) <| glet (hu p6.2 17 7 (p6.1 &&& (-((1 : Int32) <<< ((p6.2 27 l) &&& 31))))) fun h9 => some ((((hu (hu h 22 6 (nI l)) 22 5 (nI (S.2.1.2.2.1.2.2.1 l))) 17 5) - (h9 17 5)), h9)) (x := (mkn 24 (fun i => decide (i < S.1.1)), h4)) ?_ ?_
    · unfold fR_all; rw [h18, all_mask _ (by have := W.1; omega)]
    · dsimp only
      refine Sp_gg (gin_t hl (by omega)) (Sp_let (Sp_some ?_))
      have e27 : h4 27 l = nI (S.2.1.2.2.1.2.2.2 l) := by rw [fr2 27 (by omega), hu_ne (by omega), hu_ne (by omega)]; exact cl.2.2
      have e17 : hu (hu h 22 6 (nI l)) 22 5 (nI (S.2.1.2.2.1.2.2.1 l)) 17 5 = h 17 5 := by rw [hu_ne (by omega), hu_ne (by omega)]
      rw [e27, e17, undo_mask _ (by have := W.1; omega) _ (by have := kl.2.2.1; have := W.1; omega), hu_k _ _ _ _ (by omega)]
      refine ⟨?_, Or.inr ⟨_, rfl, ⟨⟨fun x hx => ?_, ?_, ?_, ?_, ⟨?_, fun i a hi => ?_⟩, ?_, q7⟩, ?_, ⟨?_, ?_, fun i hi => ?_⟩, ?_, fun i hi => ?_⟩, ?_⟩⟩
      · dsimp only
        rw [C.1.2.2.2.2.1.1, q5.1, List.length_take, Nat.min_eq_left kl.1, nsub kl.1]
      · dsimp only; rw [hu_ne (by omega)]; exact q1 x hx
      · dsimp only; rw [hu_ne (by omega)]; exact q2
      · dsimp only; rw [hu_same]; rfl
      · dsimp only; rw [hu_k _ _ _ _ (by omega)]; exact q4
      · dsimp only; rw [hu_k _ _ _ _ (by omega)]; exact q5.1
      · dsimp only; rw [hu_ne (by omega), hu_ne (by omega)]; exact q5.2 i a hi
      · dsimp only; rw [hu_k _ _ _ _ (by omega)]; exact q6
      · dsimp only; rw [hu_k _ _ _ _ (by omega), gfr_fld fr 17 8 (by decide) (by decide), hu_ne (by omega), hu_ne (by omega)]; exact C.2.1
      · exact Nat.le_trans kl.2.1 hd12
      · dsimp only; rw [hu_ne (by omega), fr2 22 (by omega), hu_same]; rfl
      · dsimp only; rw [hu_ne (by omega), hu_ne (by omega), fr2 _ (by omega), fr2 _ (by omega), hu_ne (by omega), hu_ne (by omega), hu_ne (by omega), hu_ne (by omega)]
        exact C.2.2.1.2.2 i (Nat.lt_of_lt_of_le hi kl.2.1)
      · dsimp only; rw [hu_ne (by omega), fr2 22 (by omega), hu_k _ _ _ _ (by omega), hu_same]; rfl
      · dsimp only; rw [hu_ne (by omega), hu_ne (by omega), hu_ne (by omega), fr2 _ (by omega), fr2 _ (by omega), fr2 _ (by omega), hu_ne (by omega), hu_ne (by omega), hu_ne (by omega), hu_ne (by omega), hu_ne (by omega), hu_ne (by omega)]
        exact C.2.2.2.2 i (by have : i < l := hi
                              omega)
      · dsimp only; rw [hu_k _ _ _ _ (by omega), gfr_fld fr 17 10 (by decide) (by decide), hu_ne (by omega), hu_ne (by omega)]; exact H.2.2.2.2.2.1.1
theorem M_undo {h : gH} {S : qW} (H : BM h S) (W : WI S) : Sp (fM_undo h) (fun p => p.1 = (s_undo S).1 ∧ BM p.2 (s_undo S).2) := by
  have C := H.1
  refine cM_BM H ?_ (fun x e => fM_undo_fr e) (fun x e => fM_undo_zb H.2.2.2.2 e) (by decide) (by decide)
  unfold fM_undo
  have hl6 := C.2.2.2.1
  have l8 := W.2.1.2.2.1
  have h15 : h 65 15 = nI S.2.1.1.2.2.2.length := C.1.2.2.2.1
  have h8n : h 65 8 = nI S.1.1 := C.1.1.2.2.2.1
  have hT : PT S.2.1.1 := W.2.1.2.1
  have hlen := hT.len
  by_cases l0 : S.2.1.2.2.1.1 = 0
  · refine Sp_pos (by rw [hl6, l0]; rfl) (Sp_some (cMs ?_))
    unfold s_undo; rw [if_pos l0]
  · refine Sp_neg (by rw [hl6]; exact fun z => l0 ((neq_l (by omega) (by decide)).mp z)) (Sp_let ?_)
    rw [s_undo2 l0]
    generalize hlq : S.2.1.2.2.1.1 - 1 = l at *
    have hl : l < 8 := by omega
    have hln : S.2.1.2.2.1.1 = l + 1 := by omega
    have cl := C.2.2.2.2 l (by omega)
    have kl := W.2.1.2.2.2.1 l (by omega)
    have hd12 := W.2.2.1
    rw [hl6, hln, nI_pred, hu_same]
    refine Sp_gg (gin_t hl (by omega)) ?_
    rw [clampn (by omega), hu_k _ _ _ _ (by omega), hu_ne (by omega), h15, cl.1, nsub kl.1]
    refine mtb_loop hT kl.1 hl _ (S.2.1.1.2.2.2.length - S.2.1.2.2.1.2.1 l) S.2.1.1.2.2.2.length gfu _ (by omega) (by unfold gfu; omega) (Nat.le_refl _) (fun x hx => ?_) ?_ (hu_same _ _ _ _) ?_ (fun i a hi => ?_) (fun fu' h' a1 a2 a3 a4 => ?_)
    · rw [hu_ne (by omega), qtb_all]; exact C.1.2.1.1 x hx
    · rw [hu_k _ _ _ _ (by omega)]; exact h15
    · rw [hu_ne (by omega)]; exact cl.1
    · rw [hu_ne (by omega)]; exact (C.1.2.2.2.2 i a hi).1
    · unfold fM_undo_35
      have e19 : h' 65 19 = nI l := by rw [a4 19 (by omega), hu_same]
      have e76 : h' 76 l = nI (S.2.1.2.2.1.2.1 l) := by rw [a3 76 (by omega) (by omega), hu_ne (by omega)]; exact cl.1
      have e77 : h' 77 l = nI (S.2.1.2.2.1.2.2.1 l) := by rw [a3 77 (by omega) (by omega), hu_ne (by omega)]; exact cl.2.1
      have e78 : h' 78 l = nI (S.2.1.2.2.1.2.2.2 l) := by rw [a3 78 (by omega) (by omega), hu_ne (by omega)]; exact cl.2.2
      rw [e19]
      refine Sp_gg (gin_t hl (by omega)) ?_
      rw [clampn (by omega)]
      refine Sp_neg (by rw [e76, a2]; exact nI_nlt (Nat.le_refl _) (by omega)) (Sp_gg (gin_t hl (by omega)) (Sp_let (Sp_let ?_)))
      rw [e77]
      refine Sp_mono (undo118 (lv := l) (lc := S.2.1.2.2.1.2.2.2 l) W.1 hl (Nat.le_trans kl.2.2.1 W.1) _ S.1.1 0 gfu _ (by omega) (by have := W.1; unfold gfu; omega) ?_ ?_ ?_ (fun r hr => by omega)) (fun p q => ?_)
      · rw [hu_k _ _ _ _ (by omega), hu_k _ _ _ _ (by omega), a4 8 (by omega), hu_k _ _ _ _ (by omega)]; exact h8n
      · rw [hu_k _ _ _ _ (by omega), hu_k _ _ _ _ (by omega)]; exact e19
      · rw [hu_ne (by omega), hu_ne (by omega)]; exact e78
      · obtain ⟨q1, q2, q3⟩ := q
        have g1 : ∀ b, b ≠ 71 → b ≠ 65 → b ≠ 66 → p.2 b = h b := fun b b1 b2 b3 => by rw [q3 b b1, hu_ne b2, hu_ne b2, a3 b b2 b3, hu_ne b2]
        have g2 : ∀ k, k ≠ 2 → k ≠ 12 → k ≠ 15 → k ≠ 19 → p.2 65 k = h 65 k := fun k k1 k2 k3 k4 => by rw [q3 65 (by omega), hu_k _ _ _ _ k1, hu_k _ _ _ _ k2, a4 k k3, hu_k _ _ _ _ k4]
        refine ⟨q1, Or.inr ⟨_, rfl, ⟨⟨⟨C.1.1.1, ?_⟩, ⟨fun x hx => ?_, fun r hr hv => ?_, ?_⟩, ?_, ⟨?_, fun i a hi => ?_⟩⟩, ?_, ⟨?_, ?_, fun i hi => ?_⟩, ?_, fun i hi => ?_⟩⟩⟩
        · exact ME_fr C.1.1.2 (g2 8 (by omega) (by omega) (by omega) (by omega)) (g2 9 (by omega) (by omega) (by omega) (by omega)) (g1 67 (by omega) (by omega) (by omega)) (g1 68 (by omega) (by omega) (by omega)) (g1 69 (by omega) (by omega) (by omega)) (g1 70 (by omega) (by omega) (by omega))
        · rw [q3 66 (by omega), hu_ne (by omega), hu_ne (by omega)]; exact a1 x hx
        · rw [Eact_Et] at hv
          have hr2 := of_decide_eq_true hv
          rw [q2 r hr2]
          show _ = b2i (decide (S.2.1.2.2.1.2.2.2 l ≤ r ∧ r < S.1.1))
          congr 1
          rw [decide_eq_decide]; omega
        · rw [q3 65 (by omega), hu_same]; rfl
        · exact (g2 36 (by omega) (by omega) (by omega) (by omega)).trans C.1.2.2.1
        · rw [q3 65 (by omega), hu_k _ _ _ _ (by omega), hu_k _ _ _ _ (by omega), a2]
          show _ = nI (S.2.1.1.2.2.2.take _).length
          rw [List.length_take, Nat.min_eq_left kl.1]
        · rw [g1 74 (by omega) (by omega) (by omega), g1 75 (by omega) (by omega) (by omega)]
          refine C.1.2.2.2.2 i a ?_
          have hi2 : (S.2.1.1.2.2.2.take (S.2.1.2.2.1.2.1 l))[i]? = some a := hi
          rw [List.getElem?_take] at hi2
          split at hi2
          · exact hi2
          · cases hi2
        · exact (g2 20 (by omega) (by omega) (by omega) (by omega)).trans C.2.1
        · exact Nat.le_trans kl.2.1 hd12
        · rw [q3 65 (by omega), hu_k _ _ _ _ (by omega), hu_same]; rfl
        · rw [g1 72 (by omega) (by omega) (by omega), g1 73 (by omega) (by omega) (by omega)]
          exact C.2.2.1.2.2 i (Nat.lt_of_lt_of_le hi kl.2.1)
        · rw [q3 65 (by omega), hu_k _ _ _ _ (by omega), hu_k _ _ _ _ (by omega)]; exact e19
        · rw [g1 76 (by omega) (by omega) (by omega), g1 77 (by omega) (by omega) (by omega), g1 78 (by omega) (by omega) (by omega)]
          exact C.2.2.2.2 i (by have : i < l := hi
                                omega)
