/-! feed, count, taken -/
def setT (S : qW) (t : qTp) : qW := (S.1, S.2.1, S.2.2.1, t, S.2.2.2.2)
def s_feed (S : qW) (v : Int32) : Int32 × qW := if vis 256 v = false then (-2, S) else if S.2.2.2.1.1 = 90 then (-4, S) else (nI (S.2.2.2.1.1 + 1), setT S (S.2.2.2.1.1 + 1, updn S.2.2.2.1.2 S.2.2.2.1.1 v.toInt.toNat))
theorem s_feed1 {S : qW} {v : Int32} (h : vis 256 v = false) : s_feed S v = (-2, S) := if_pos h
theorem s_feed2 {S : qW} {v : Int32} (h : vis 256 v = true) (q : S.2.2.2.1.1 = 90) : s_feed S v = (-4, S) := by unfold s_feed; rw [if_neg (by rw [h]; decide), if_pos q]
theorem s_feed3 {S : qW} {k : Nat} (h : vis 256 (nI k) = true) (hk : k < 256) (q : ¬ S.2.2.2.1.1 = 90) : s_feed S (nI k) = (nI (S.2.2.2.1.1 + 1), setT S (S.2.2.2.1.1 + 1, updn S.2.2.2.1.2 S.2.2.2.1.1 k)) := by
  unfold s_feed; rw [if_neg (by rw [h]; decide), if_neg q, nI_toInt (by omega)]; rfl
theorem W_feed {S : qW} (H : WI S) (v : Int32) : WI (s_feed S v).2 := by
  obtain ⟨h1, h2, h3, h4, h5, h6, h7⟩ := H
  cases hv : vis 256 v with
  | false => rw [s_feed1 hv]; exact ⟨h1, h2, h3, h4, h5, h6, h7⟩
  | true =>
    obtain ⟨k, hk, e⟩ := vis_some (by decide) hv
    subst e
    by_cases q : S.2.2.2.1.1 = 90
    · rw [s_feed2 hv q]; exact ⟨h1, h2, h3, h4, h5, h6, h7⟩
    · rw [s_feed3 hv hk q]
      refine ⟨h1, h2, h3, h4, by show S.2.2.2.1.1 + 1 ≤ 90; omega, fun i hi => ?_, h7⟩
      have hi2 : i < S.2.2.2.1.1 + 1 := hi
      show updn S.2.2.2.1.2 S.2.2.2.1.1 k i < 256
      unfold updn
      split
      · exact hk
      · exact h6 i (by omega)
theorem X_feed {h : gH} {S : qW} (H : AX h S) (W : WI S) (v : Int32) : Sp (fX_feed v h) (fun p => p.1 = (s_feed S v).1 ∧ AX p.2 (s_feed S v).2) := by
  unfold fX_feed
  have h90 := W.2.2.2.2.1
  have hn := H.2.2.2.1.1
  cases hv : vis 256 v with
  | false =>
    rw [s_feed1 hv]
    rcases vis_f (n := 255) (by decide) hv with q | (q : (255 : Int32) < v)
    · exact Sp_pos q (Sp_some ⟨rfl, H⟩)
    · by_cases q2 : v < 0
      · exact Sp_pos q2 (Sp_some ⟨rfl, H⟩)
      · exact Sp_neg q2 (Sp_pos q (Sp_some ⟨rfl, H⟩))
  | true =>
    obtain ⟨k, hk, e⟩ := vis_some (by decide) hv
    subst e
    refine Sp_neg (nI_pos (by omega)) (Sp_neg (fun z => by have := (nlt (a := 255) (by omega) (by omega)).mp z; omega) ?_)
    unfold fT_accept
    by_cases q : S.2.2.2.1.1 = 90
    · rw [s_feed2 hv q]
      refine Sp_bind (R := fun p => p = (0, h)) (Sp_neg (by rw [hn, q]; decide) (Sp_some rfl)) (fun p _ e => ?_)
      rw [e]
      exact Sp_pos rfl (Sp_some ⟨rfl, H⟩)
    · rw [s_feed3 hv hk q]
      refine Sp_bind (R := fun p => p = (1, hu (hu h 11 S.2.2.2.1.1 (nI k)) 10 6 (nI (S.2.2.2.1.1 + 1)))) ?_ (fun p _ e => ?_)
      · refine Sp_pos (by rw [hn]; exact nltT (show S.2.2.2.1.1 < 90 by omega) (by decide)) ?_
        rw [hn]
        refine Sp_gg (gin_t (by omega) (by omega)) (Sp_let (Sp_let (Sp_some ?_)))
        rw [clampn (by omega), hu_ne (by omega), hn, nadd_l]
      · rw [e]
        dsimp only
        refine Sp_neg (by decide) (Sp_some ⟨by rw [hu_same], ?_⟩)
        dsimp only
        have fr : ∀ b, b ≠ 10 → b ≠ 11 → hu (hu h 11 S.2.2.2.1.1 (nI k)) 10 6 (nI (S.2.2.2.1.1 + 1)) b = h b := fun b b1 b2 => by rw [hu_ne b1, hu_ne b2]
        refine ⟨XRk_fr H.1 (fun b b1 b2 => fr b (by omega) (by omega)), XC_fr H.2.1 (fun b b1 b2 => fr b (by omega) (by omega)) (fun b b1 b2 => fr b (by omega) (by omega)), XKp_fr H.2.2.1 (fr 0 (by omega) (by omega)) (fun b b1 b2 => fr b (by omega) (by omega)), ⟨hu_same _ _ _ _, fun i hi => ?_⟩, XSh_fr H.2.2.2.2.1 (fun b b1 b2 => fr b (by omega) (by omega)), ?_, ?_⟩
        · have hi2 : i < S.2.2.2.1.1 + 1 := hi
          show hu (hu h 11 S.2.2.2.1.1 (nI k)) 10 6 (nI (S.2.2.2.1.1 + 1)) 11 i = nI (updn S.2.2.2.1.2 S.2.2.2.1.1 k i)
          rw [hu_ne (by omega)]
          unfold updn
          by_cases e : i = S.2.2.2.1.1
          · rw [if_pos e, e, hu_same]
          · rw [if_neg e, hu_k _ _ _ _ e]; exact H.2.2.2.1.2 i (by omega)
        · have := H.2.2.2.2.2.1; unfold XZ at this ⊢; rw [fr 17 (by omega) (by omega), fr 45 (by omega) (by omega)]; exact this
        · have := H.2.2.2.2.2.2; unfold XTh at this ⊢; rw [fr 28 (by omega) (by omega), fr 29 (by omega) (by omega), fr 33 (by omega) (by omega), fr 34 (by omega) (by omega)]; exact this
theorem howMany_eq {h : gH} {r : Nat} (hr : r < 24) {vs : Nat → Bool} (h3 : h 3 r = mkn 8 vs) : fR_howMany (nI r) h = some (nI (vls vs).length, h) := by
  unfold fR_howMany
  rw [gg_t (gin_t hr (by omega)), clampn (by omega), h3, bitCount_eq, bc_mkn (by omega), vls_len]
  rfl
