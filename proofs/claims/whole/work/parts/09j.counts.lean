/-! feed, count, taken -/
def setT (S : qW) (t : qTp) : qW := (S.1, S.2.1, S.2.2.1, t, S.2.2.2.2)
def s_feed (S : qW) (v : Int32) : Int32 × qW := if vis 256 v = false then (-2, S) else if S.2.2.2.1.1 = 90 then (-4, S) else (nI (S.2.2.2.1.1 + 1), setT S (S.2.2.2.1.1 + 1, updn S.2.2.2.1.2 S.2.2.2.1.1 v.toInt.toNat))
theorem s_feed1 {S : qW} {v : Int32} (h : vis 256 v = false) : s_feed S v = (-2, S) := if_pos h
theorem s_feed2 {S : qW} {v : Int32} (h : vis 256 v = true) (q : S.2.2.2.1.1 = 90) : s_feed S v = (-4, S) := by unfold s_feed; rw [if_neg (by rw [h]; decide), if_pos q]
theorem s_feed3 {S : qW} {k : Nat} (h : vis 256 (nI k) = true) (hk : k < 256) (q : ¬ S.2.2.2.1.1 = 90) : s_feed S (nI k) = (nI (S.2.2.2.1.1 + 1), setT S (S.2.2.2.1.1 + 1, updn S.2.2.2.1.2 S.2.2.2.1.1 k)) := by
  unfold s_feed; rw [if_neg (by rw [h]; decide), if_neg q, nI_toInt (by omega)]; rfl
theorem W_feed {S : qW} (H : WI S) (v : Int32) : WI (s_feed S v).2 := by
  obtain ⟨h1, h2, h3, h4, h5, h6, h7⟩ := H
  cases hv : vis 256 v with
  | false => rw [s_feed1 hv]; exact ⟨h1, h2, h3, h4, h5, h6, h7⟩
  | true =>
    obtain ⟨k, hk, e⟩ := vis_some (by decide) hv
    subst e
    by_cases q : S.2.2.2.1.1 = 90
    · rw [s_feed2 hv q]; exact ⟨h1, h2, h3, h4, h5, h6, h7⟩
    · rw [s_feed3 hv hk q]
      refine ⟨h1, h2, h3, h4, by show S.2.2.2.1.1 + 1 ≤ 90; omega, fun i hi => ?_, h7⟩
      have hi2 : i < S.2.2.2.1.1 + 1 := hi
      show updn S.2.2.2.1.2 S.2.2.2.1.1 k i < 256
      unfold updn
      split
      · exact hk
      · exact h6 i (by omega)
theorem X_feed {h : gH} {S : qW} (H : AX h S) (W : WI S) (v : Int32) : Sp (fX_feed v h) (fun p => p.1 = (s_feed S v).1 ∧ AX p.2 (s_feed S v).2) := by
  unfold fX_feed
  have h90 := W.2.2.2.2.1
  have hn := H.2.2.2.1.1
  cases hv : vis 256 v with
  | false =>
    rw [s_feed1 hv]
    rcases vis_f (n := 255) (by decide) hv with q | (q : (255 : Int32) < v)
    · exact Sp_pos q (Sp_some ⟨rfl, H⟩)
    · by_cases q2 : v < 0
      · exact Sp_pos q2 (Sp_some ⟨rfl, H⟩)
      · exact Sp_neg q2 (Sp_pos q (Sp_some ⟨rfl, H⟩))
  | true =>
    obtain ⟨k, hk, e⟩ := vis_some (by decide) hv
    subst e
    refine Sp_neg (nI_pos (by omega)) (Sp_neg (fun z => by have := (nlt (a := 255) (by omega) (by omega)).mp z; omega) ?_)
    unfold fT_accept
    by_cases q : S.2.2.2.1.1 = 90
    · rw [s_feed2 hv q]
      refine Sp_bind (R := fun p => p = (0, h)) (Sp_neg (by rw [hn, q]; decide) (Sp_some rfl)) (fun p _ e => ?_)
      rw [e]
      exact Sp_pos rfl (Sp_some ⟨rfl, H⟩)
    · rw [s_feed3 hv hk q]
      refine Sp_bind (R := fun p => p = (1, hu (hu h 11 S.2.2.2.1.1 (nI k)) 10 6 (nI (S.2.2.2.1.1 + 1)))) ?_ (fun p _ e => ?_)
      · refine Sp_pos (by rw [hn]; exact nltT (show S.2.2.2.1.1 < 90 by omega) (by decide)) ?_
        rw [hn]
        refine Sp_gg (gin_t (by omega) (by omega)) (Sp_let (Sp_let (Sp_some ?_)))
        rw [clampn (by omega), hu_ne (by omega), hn, nadd_l]
      · rw [e]
        dsimp only
        refine Sp_neg (by decide) (Sp_some ⟨by rw [hu_same], ?_⟩)
        dsimp only
        have fr : ∀ b, b ≠ 10 → b ≠ 11 → hu (hu h 11 S.2.2.2.1.1 (nI k)) 10 6 (nI (S.2.2.2.1.1 + 1)) b = h b := fun b b1 b2 => by rw [hu_ne b1, hu_ne b2]
        refine ⟨XRk_fr H.1 (fun b b1 b2 => fr b (by omega) (by omega)), XC_fr H.2.1 (fun b b1 b2 => fr b (by omega) (by omega)) (fun b b1 b2 => fr b (by omega) (by omega)), XKp_fr H.2.2.1 (fr 0 (by omega) (by omega)) (fun b b1 b2 => fr b (by omega) (by omega)), ⟨hu_same _ _ _ _, fun i hi => ?_⟩, XSh_fr H.2.2.2.2.1 (fun b b1 b2 => fr b (by omega) (by omega)), ?_, ?_⟩
        · have hi2 : i < S.2.2.2.1.1 + 1 := hi
          show hu (hu h 11 S.2.2.2.1.1 (nI k)) 10 6 (nI (S.2.2.2.1.1 + 1)) 11 i = nI (updn S.2.2.2.1.2 S.2.2.2.1.1 k i)
          rw [hu_ne (by omega)]
          unfold updn
          by_cases e : i = S.2.2.2.1.1
          · rw [if_pos e, e, hu_same]
          · rw [if_neg e, hu_k _ _ _ _ e]; exact H.2.2.2.1.2 i (by omega)
        · have := H.2.2.2.2.2.1; unfold XZ at this ⊢; rw [fr 17 (by omega) (by omega), fr 45 (by omega) (by omega)]; exact this
        · have := H.2.2.2.2.2.2; unfold XTh at this ⊢; rw [fr 28 (by omega) (by omega), fr 29 (by omega) (by omega), fr 33 (by omega) (by omega), fr 34 (by omega) (by omega)]; exact this
theorem M_feed {h : gH} {S : qW} (H : BM h S) (W : WI S) (v : Int32) : Sp (fM_feed v h) (fun p => p.1 = (s_feed S v).1 ∧ BM p.2 (s_feed S v).2) := by
  have zb : ∀ x, fM_feed v h = some x → ZB x.2 := fun x e => fM_feed_zb H.2.2.2.2 e
  suffices Sp (fM_feed v h) (fun p => p.1 = (s_feed S v).1 ∧ (ZB p.2 → BM p.2 (s_feed S v).2)) from Sp_to this (fun x e q => ⟨q.1, q.2 (zb x e)⟩)
  unfold fM_feed
  have h90 := W.2.2.2.2.1
  have hn := H.2.2.1.1
  refine Sp_eq (fM_in_eq (n := 256) (by decide) v h) ?_
  cases hv : vis 256 v with
  | false => rw [s_feed1 hv]; exact Sp_pos rfl (Sp_some ⟨rfl, fun _ => H⟩)
  | true =>
    obtain ⟨k, hk, e⟩ := vis_some (by decide) hv
    subst e
    refine Sp_neg (by dsimp only; decide) ?_
    dsimp only
    by_cases q : S.2.2.2.1.1 = 90
    · rw [s_feed2 hv q]
      exact Sp_pos (by rw [hn, q]; rfl) (Sp_some ⟨rfl, fun _ => H⟩)
    · rw [s_feed3 hv hk q]
      refine Sp_neg (by rw [hn]; exact fun z => q ((neq_l (by omega) (by decide)).mp z)) ?_
      rw [hn]
      refine Sp_gg (gin_t (by omega) (by omega)) (Sp_let (Sp_let (Sp_some ?_)))
      rw [clampn (by omega), hu_same, hu_ne (by omega), hn, nadd_l]
      refine ⟨rfl, fun z => ?_⟩
      dsimp only at z ⊢
      have fr : ∀ b, b ≠ 65 → b ≠ 79 → hu (hu h 79 S.2.2.2.1.1 (nI k)) 65 22 (nI (S.2.2.2.1.1 + 1)) b = h b := fun b b1 b2 => by rw [hu_ne b1, hu_ne b2]
      have fl : ∀ j, j ≠ 22 → hu (hu h 79 S.2.2.2.1.1 (nI k)) 65 22 (nI (S.2.2.2.1.1 + 1)) 65 j = h 65 j := fun j j1 => by rw [hu_k _ _ _ _ j1, hu_ne (by omega)]
      refine ⟨MC_fr H.1 (fun j hj => fl j (by omega)) (fun b b1 b2 => fr b (by omega) (by omega)), MKp_fr H.2.1 (fun j j1 j2 => fl j (by omega)) (fun b b1 b2 => fr b (by omega) (by omega)), ⟨hu_same _ _ _ _, fun i hi => ?_⟩, MSh_fr H.2.2.2.1 (fun b b1 b2 => fr b (by omega) (by omega)), z⟩
      have hi2 : i < S.2.2.2.1.1 + 1 := hi
      show hu (hu h 79 S.2.2.2.1.1 (nI k)) 65 22 (nI (S.2.2.2.1.1 + 1)) 79 i = nI (updn S.2.2.2.1.2 S.2.2.2.1.1 k i)
      rw [hu_ne (by omega)]
      unfold updn
      by_cases e : i = S.2.2.2.1.1
      · rw [if_pos e, e, hu_same]
      · rw [if_neg e, hu_k _ _ _ _ e]; exact H.2.2.1.2 i (by omega)
/-! how many variables -/
theorem ite_b {α : Type} {p q : Prop} {ip : Decidable p} [Decidable q] {a b : α} (e : p ↔ q) : @ite α p ip a b = ite q a b := by
  by_cases h : q
  · rw [if_pos h, if_pos (e.mpr h)]
  · rw [if_neg h, if_neg (fun z => h (e.mp z))]
theorem howMany_eq {h : gH} {r : Nat} (hr : r < 24) {vs : Nat → Bool} (h3 : h 3 r = mkn 8 vs) : fR_howMany (nI r) h = some (nI (vls vs).length, h) := by
  unfold fR_howMany
  rw [gg_t (gin_t hr (by omega)), clampn (by omega), h3, bitCount_eq, bc_mkn (by omega), vls_len]
  rfl
theorem mbits_eq {h : gH} {r : Nat} {vs : Nat → Bool} (h3 : h 68 r = mkn 8 vs) : fM_bitsOf (h 68 r) h = some (nI (vls vs).length, h) := by
  rw [h3, bitsOf_mkn (by omega), vls_len]
theorem kd_small {v2 : Int32} {k : Nat} (hk : k < 3) : (nI k = v2) ↔ v2 = nI k := eq_comm
def s_taken (S : qW) (v1 v2 : Int32) : Int32 := if vis 3 v2 = false then -2 else match vin S.1.1 v1 with
  | none => -11
  | some r => if nI (S.1.2.2.2 r) = v2 then nI (vls (S.1.2.1 r)).length else if nI (S.1.2.2.2 r) = 1 then (if v2 = 0 then nI (vls (S.1.2.1 r)).length else -13) else -13
theorem X_taken {h : gH} {S : qW} (H : AX h S) (W : WI S) (v1 v2 : Int32) : fX_taken v1 v2 h = some (s_taken S v1 v2, h) := by
  have h16 := W.1
  unfold fX_taken s_taken
  cases hv : vis 3 v2 with
  | false =>
    rw [if_pos (show false = false from rfl)]
    rcases vis_f (n := 2) (by decide) hv with q | (q : (2 : Int32) < v2)
    · rw [if_pos q]
    · by_cases q2 : v2 < 0
      · rw [if_pos q2]
      · rw [if_neg q2, if_pos q]
  | true =>
    obtain ⟨k, hk, e2⟩ := vis_some (by decide) hv
    have n1 : ¬ v2 < 0 := by rw [e2]; exact nI_pos (by omega)
    have n2 : ¬ (2 : Int32) < v2 := by rw [e2]; exact fun z => by have := (nlt (a := 2) (by omega) (by omega)).mp z; omega
    rw [if_neg n1, if_neg n2, if_neg (show ¬ true = false by decide), fX_isRule_eq (show S.1.1 < 2 ^ 31 by omega) v1 H.1.1.2.2.1]
    rcases vin_cases S.1.1 (by omega) v1 with ⟨r, hr, e1, e⟩ | ⟨e, -⟩
    · subst e1
      have hr2 := (H.1.1.2.2.2.1 r hr).1
      have hk2 := (H.1.2 r hr).1
      rw [e, vis_nI hr (by omega), Option.bind_some]
      dsimp only
      rw [if_neg (show ¬ b2i true = 0 by decide), gg_t (gin_t (by omega) (by omega)), clampn (by omega), ite_b (show h 2 r = v2 ↔ nI (S.1.2.2.2 r) = v2 by rw [hk2]), ite_b (show h 2 r = 1 ↔ nI (S.1.2.2.2 r) = 1 by rw [hk2])]
      unfold fX_taken_50
      rw [howMany_eq (by omega) hr2, Option.bind_some]
      dsimp only
      show (if _ then _ else _) = some ((if _ then _ else _), h)
      repeat' split
      all_goals rfl
    · rw [e, vis_none e]; rfl
theorem M_taken {h : gH} {S : qW} (H : BM h S) (W : WI S) (v1 v2 : Int32) : fM_taken v1 v2 h = some (s_taken S v1 v2, h) := by
  have h16 := W.1
  have h8 : h 65 8 = nI S.1.1 := H.1.1.1.2.2.2.1
  unfold fM_taken s_taken
  rw [fM_in_eq (n := 3) (by decide), Option.bind_some]
  dsimp only
  cases hv : vis 3 v2 with
  | false => rfl
  | true =>
    rw [if_neg (show ¬ b2i true = 0 by decide), if_neg (show ¬ true = false by decide), h8, fM_in_eq (n := S.1.1) (hi_pred (by omega)), Option.bind_some]
    dsimp only
    rcases vin_cases S.1.1 (by omega) v1 with ⟨r, hr, e1, e⟩ | ⟨e, -⟩
    · subst e1
      have hm := H.1.1.1.2.2.2.2.2.1 r hr
      rw [e, vis_nI hr (by omega), if_neg (show ¬ b2i true = 0 by decide), gg_t (gin_t (by omega) (by omega)), gg_t (gin_t (by omega) (by omega)), clampn (by omega), ite_b (show h 67 r = v2 ↔ nI (S.1.2.2.2 r) = v2 by rw [hm.2.1]), ite_b (show h 67 r = 1 ↔ nI (S.1.2.2.2 r) = 1 by rw [hm.2.1])]
      unfold fM_taken_58
      rw [gg_t (gin_t (by omega) (by omega)), clampn (by omega), mbits_eq hm.1, Option.bind_some]
      dsimp only
      repeat' split
      all_goals rfl
    · rw [e, vis_none e]; rfl
