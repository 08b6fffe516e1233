/-! put, item -/
theorem E_missing {h : gH} {o : Nat} {v : Int32} (e : h o 1 = v) : fE_isMissing o h = some (b2i (decide (v = -1)), h) := by
  unfold fE_isMissing
  rw [e]
  by_cases q : v = -1
  · rw [if_pos q, decide_eq_true q]; rfl
  · rw [if_neg q, decide_eq_false q]; rfl
theorem E_has {h : gH} {o n : Nat} (hn : n < 2 ^ 31) (e : h o 2 = nI n) (v : Int32) : fE_has o v h = some (b2i (vis n v), h) := by
  unfold fE_has
  rw [e]; exact isN_eq hn v h
def cutv (s v : Int32) : Int32 := if s = 1 then v.toInt16.toInt32 else if s = 2 then v.toInt8.toInt32 else v
theorem E_cut {h : gH} {o : Nat} {s : Int32} (e : h o 1 = s) (v : Int32) : fE_cut o v h = some (cutv s v, h) := by
  unfold fE_cut cutv
  rw [e]
  by_cases q : s = 1
  · rw [if_pos q, if_pos q]
  · rw [if_neg q, if_neg q]
    by_cases q2 : s = 2
    · rw [if_pos q2, if_pos q2]
    · rw [if_neg q2, if_neg q2]
def updi (f : Nat → Int32) (k : Nat) (v : Int32) : Nat → Int32 := fun i => if i = k then v else f i
def s_put (S : qW) (v1 v2 v3 : Int32) : Int32 × qW := match vin 4 v1 with
  | none => (-2, S)
  | some i => if (S.2.2.2.2 i).1 = -1 then (-11, S) else match vin (S.2.2.2.2 i).2.1 v2 with
    | none => (-12, S)
    | some k => (1, setS S (upds S.2.2.2.2 i ((S.2.2.2.2 i).1, (S.2.2.2.2 i).2.1, updi (S.2.2.2.2 i).2.2 k (cutv (S.2.2.2.2 i).1 v3))))
theorem s_put1 {S : qW} {v1 v2 v3 : Int32} (e : vin 4 v1 = none) : s_put S v1 v2 v3 = (-2, S) := by unfold s_put; rw [e]
theorem s_put2 {S : qW} {i : Nat} {v1 v2 v3 : Int32} (e : vin 4 v1 = some i) (h : (S.2.2.2.2 i).1 = -1) : s_put S v1 v2 v3 = (-11, S) := by unfold s_put; rw [e]; dsimp only; rw [if_pos h]
theorem s_put3 {S : qW} {i : Nat} {v1 v2 v3 : Int32} (e : vin 4 v1 = some i) (h : ¬ (S.2.2.2.2 i).1 = -1) (e2 : vin (S.2.2.2.2 i).2.1 v2 = none) : s_put S v1 v2 v3 = (-12, S) := by unfold s_put; rw [e]; dsimp only; rw [if_neg h, e2]
theorem s_put4 {S : qW} {i k : Nat} {v1 v2 v3 : Int32} (e : vin 4 v1 = some i) (h : ¬ (S.2.2.2.2 i).1 = -1) (e2 : vin (S.2.2.2.2 i).2.1 v2 = some k) : s_put S v1 v2 v3 = (1, setS S (upds S.2.2.2.2 i ((S.2.2.2.2 i).1, (S.2.2.2.2 i).2.1, updi (S.2.2.2.2 i).2.2 k (cutv (S.2.2.2.2 i).1 v3)))) := by unfold s_put; rw [e]; dsimp only; rw [if_neg h, e2]
theorem W_put {S : qW} (H : WI S) (v1 v2 v3 : Int32) : WI (s_put S v1 v2 v3).2 := by
  rcases vin_cases 4 (by decide) v1 with ⟨i, hi, -, e⟩ | ⟨e, -⟩
  · have hs := H.2.2.2.2.2.2 i hi
    by_cases h : (S.2.2.2.2 i).1 = -1
    · rw [s_put2 e h]; exact H
    · rcases vin_cases (S.2.2.2.2 i).2.1 (by omega) v2 with ⟨k, hk, -, e2⟩ | ⟨e2, -⟩
      · rw [s_put4 e h e2]; exact W_upd H hs
      · rw [s_put3 e h e2]; exact H
  · rw [s_put1 e]; exact H
theorem b2i_ne (b : Bool) (h : b = true) : ¬ b2i b = 0 := by rw [h]; decide
theorem X_put {h : gH} {S : qW} (H : AX h S) (W : WI S) (v1 v2 v3 : Int32) : Sp (fX_put v1 v2 v3 h) (fun p => p.1 = (s_put S v1 v2 v3).1 ∧ AX p.2 (s_put S v1 v2 v3).2) := by
  unfold fX_put
  refine Sp_eq (fX_isSheet_eq v1 h) ?_
  dsimp only
  rcases vin_cases 4 (by decide) v1 with ⟨i, hi, e1, e⟩ | ⟨e, -⟩
  · subst e1
    have hs := W.2.2.2.2.2.2 i hi
    obtain ⟨z1, z2, z3⟩ := H.2.2.2.2.1 i hi
    rw [vis_nI hi (by decide), gsh_nI hi]
    refine Sp_neg (by decide) (Sp_gg (gin_t hi (by omega)) (Sp_eq (E_missing z1) ?_))
    dsimp only
    by_cases q : (S.2.2.2.2 i).1 = -1
    · rw [s_put2 e q]
      exact Sp_neg (b2i_ne _ (decide_eq_true q)) (Sp_some ⟨rfl, H⟩)
    · refine Sp_pos (by rw [decide_eq_false q]; rfl) (Sp_eq (E_has (by omega) z2 v2) ?_)
      dsimp only
      rcases vin_cases (S.2.2.2.2 i).2.1 (by omega) v2 with ⟨k, hk, e2, e3⟩ | ⟨e3, -⟩
      · rw [s_put4 e q e3]
        subst e2
        refine Sp_neg (b2i_ne _ (vis_nI hk (by omega))) (Sp_eq (E_cut z1 v3) (Sp_gg (gin_t (by omega) (by omega)) (Sp_let (Sp_some ⟨rfl, ?_⟩))))
        dsimp only
        rw [clampn (by omega)]
        refine AX_sh H (fun b hb => hu_ne (by omega)) (XSh_upd H.2.2.2.2.1 hi (fun b b1 b2 => hu_ne (by omega)) ⟨?_, ?_, fun j hj => ?_⟩)
        · rw [hu_ne (by omega)]; exact z1
        · rw [hu_ne (by omega)]; exact z2
        · rw [show 57 + 2 * i = 56 + 2 * i + 1 by omega]
          dsimp only
          unfold updi
          by_cases ej : j = k
          · rw [if_pos ej, ej, hu_same]
          · rw [if_neg ej, hu_k _ _ _ _ ej, show 56 + 2 * i + 1 = 57 + 2 * i by omega]; exact z3 j hj
      · rw [s_put3 e q e3, vis_none e3]
        exact Sp_pos rfl (Sp_some ⟨rfl, H⟩)
  · rw [vis_none e, s_put1 e]
    exact Sp_pos rfl (Sp_some ⟨rfl, H⟩)
theorem mSheet_eq (v1 : Int32) (h : gH) : fM_isSheet v1 h = some (b2i (vis 4 v1), h) := by
  unfold fM_isSheet
  rw [fM_in_eq (n := 4) (by decide), Option.bind_some]
  exact gg_t (gbo_b _)
theorem put106 {h : gH} {S : qW} (H : BM h S) (W : WI S) {i k : Nat} (hi : i < 4) (hk : k < (S.2.2.2.2 i).2.1) (q : ¬ (S.2.2.2.2 i).1 = -1) (w : Int32) (zb : ZB (hu h 106 (40 * i + k) w)) : BM (hu h 106 (40 * i + k) w) (setS S (upds S.2.2.2.2 i ((S.2.2.2.2 i).1, (S.2.2.2.2 i).2.1, updi (S.2.2.2.2 i).2.2 k w))) := by
  have hs : ∀ j, j < 4 → (S.2.2.2.2 j).2.1 ≤ 40 := fun j hj => (W.2.2.2.2.2.2 j hj).1
  have hsi := hs i hi
  obtain ⟨z1, z2⟩ := H.2.2.2.1 i hi
  obtain ⟨z3, z4, z5⟩ := z2 q
  refine BM_sh H (fun b hb => hu_ne (by omega)) (MSh_upd H.2.2.2.1 hi (fun j hj => by rw [hu_ne (by omega)]) (fun j hj => by rw [hu_ne (by omega)]) (fun j hj => by rw [hu_ne (by omega)]) (fun j hj => hu_k _ _ _ _ (by omega)) hs ⟨?_, fun _ => ⟨?_, ?_, fun j hj => ?_⟩⟩) zb
  · rw [hu_ne (by omega)]; exact z1
  · rw [hu_ne (by omega)]; exact z3
  · rw [hu_ne (by omega)]; exact z4
  · dsimp only
    unfold updi
    by_cases ej : j = k
    · rw [if_pos ej, ej, hu_same]
    · rw [if_neg ej, hu_k _ _ _ _ (by omega)]; exact z5 j hj
theorem M_put {h : gH} {S : qW} (H : BM h S) (W : WI S) (v1 v2 v3 : Int32) : Sp (fM_put v1 v2 v3 h) (fun p => p.1 = (s_put S v1 v2 v3).1 ∧ BM p.2 (s_put S v1 v2 v3).2) := by
  have zb : ∀ x, fM_put v1 v2 v3 h = some x → ZB x.2 := fun x e => fM_put_zb H.2.2.2.2 e
  suffices Sp (fM_put v1 v2 v3 h) (fun p => p.1 = (s_put S v1 v2 v3).1 ∧ (ZB p.2 → BM p.2 (s_put S v1 v2 v3).2)) from Sp_to this (fun x e q => ⟨q.1, q.2 (zb x e)⟩)
  unfold fM_put
  refine Sp_eq (mSheet_eq v1 h) ?_
  dsimp only
  rcases vin_cases 4 (by decide) v1 with ⟨i, hi, e1, e⟩ | ⟨e, -⟩
  · subst e1
    have hs := W.2.2.2.2.2.2 i hi
    obtain ⟨z1, z2⟩ := H.2.2.2.1 i hi
    rw [vis_nI hi (by decide)]
    refine Sp_neg (by decide) (Sp_gg (gin_t hi (by omega)) ?_)
    rw [clampn (by omega)]
    by_cases q : (S.2.2.2.2 i).1 = -1
    · rw [s_put2 e q]
      exact Sp_pos (by rw [z1, decide_eq_true q]; rfl) (Sp_some ⟨rfl, fun _ => H⟩)
    · obtain ⟨z3, z4, z5⟩ := z2 q
      refine Sp_neg (by rw [z1, decide_eq_false q]; decide) (Sp_gg (gin_t hi (by omega)) ?_)
      rw [z4]
      refine Sp_eq (fM_in_eq (n := (S.2.2.2.2 i).2.1) (hi_pred (by omega)) v2 h) ?_
      dsimp only
      rcases vin_cases (S.2.2.2.2 i).2.1 (by omega) v2 with ⟨k, hk, e2, e3⟩ | ⟨e3, -⟩
      · rw [s_put4 e q e3]
        subst e2
        have ei : (40 : Int32) * nI i + nI k = nI (40 * i + k) := by rw [nmul_r, nI_add]
        refine Sp_neg (b2i_ne _ (vis_nI hk (by omega))) (Sp_gg (gin_t hi (by omega)) ?_)
        rw [ei, clampn (by omega)]
        have so : (S.2.2.2.2 i).1 = 0 ∨ (S.2.2.2.2 i).1 = 1 ∨ (S.2.2.2.2 i).1 = 2 := by
          rcases hs.2 with a | a
          · exact absurd a.1 q
          · exact a
        have fin : ∀ w, w = cutv (S.2.2.2.2 i).1 v3 → Sp (gg (gin (nI (40 * i + k)) 160) (glet (hu h 106 (40 * i + k) w) fun h16 => some ((1 : Int32), h16))) (fun p => p.1 = 1 ∧ (ZB p.2 → BM p.2 (setS S (upds S.2.2.2.2 i ((S.2.2.2.2 i).1, (S.2.2.2.2 i).2.1, updi (S.2.2.2.2 i).2.2 k (cutv (S.2.2.2.2 i).1 v3)))))) := by
          intro w hw
          refine Sp_gg (gin_t (by omega) (by omega)) (Sp_let (Sp_some ⟨rfl, fun z => ?_⟩))
          rw [← hw]
          exact put106 H W hi hk q w z
        rcases so with so | so | so
        · exact Sp_pos (by rw [z3, so]) (fin v3 (by rw [so]; rfl))
        · refine Sp_neg (by rw [z3, so]; decide) (Sp_gg (gin_t hi (by omega)) (Sp_pos (by rw [z3, so]) (fin _ (by rw [so]; rfl))))
        · refine Sp_neg (by rw [z3, so]; decide) (Sp_gg (gin_t hi (by omega)) (Sp_neg (by rw [z3, so]; decide) (fin _ (by rw [so]; rfl))))
      · rw [s_put3 e q e3, vis_none e3]
        exact Sp_pos rfl (Sp_some ⟨rfl, fun _ => H⟩)
  · rw [vis_none e, s_put1 e]
    exact Sp_pos rfl (Sp_some ⟨rfl, fun _ => H⟩)
def s_item (S : qW) (v1 v2 : Int32) : Int32 := match vin 4 v1 with
  | none => -99999
  | some i => match vin (S.2.2.2.2 i).2.1 v2 with
    | none => -99999
    | some k => (S.2.2.2.2 i).2.2 k
theorem X_item {h : gH} {S : qW} (H : AX h S) (W : WI S) (v1 v2 : Int32) : fX_item v1 v2 h = some (s_item S v1 v2, h) := by
  unfold fX_item s_item
  rw [fX_isSheet_eq, Option.bind_some]
  dsimp only
  rcases vin_cases 4 (by decide) v1 with ⟨i, hi, e1, e⟩ | ⟨e, -⟩
  · subst e1
    have hs := W.2.2.2.2.2.2 i hi
    obtain ⟨z1, z2, z3⟩ := H.2.2.2.2.1 i hi
    rw [e, vis_nI hi (by decide), if_neg (show ¬ b2i true = 0 by decide), gg_t (gin_t hi (by omega)), gsh_nI hi, E_has (by omega) z2, Option.bind_some]
    dsimp only
    rcases vin_cases (S.2.2.2.2 i).2.1 (by omega) v2 with ⟨k, hk, e2, e3⟩ | ⟨e3, -⟩
    · subst e2
      rw [vis_nI hk (by omega), if_neg (show ¬ b2i true = 0 by decide), gg_t (gin_t hi (by omega)), gg_t (gin_t (by omega) (by omega)), clampn (by omega), e3, show 56 + 2 * i + 1 = 57 + 2 * i by omega, z3 k hk]
    · rw [vis_none e3, if_pos (show b2i false = 0 from rfl), e3]
  · rw [e, vis_none e, if_pos (show b2i false = 0 from rfl)]
theorem M_item {h : gH} {S : qW} (H : BM h S) (W : WI S) (v1 v2 : Int32) : fM_item v1 v2 h = some (s_item S v1 v2, h) := by
  unfold fM_item s_item
  rw [mSheet_eq, Option.bind_some]
  dsimp only
  rcases vin_cases 4 (by decide) v1 with ⟨i, hi, e1, e⟩ | ⟨e, -⟩
  · subst e1
    have hs := W.2.2.2.2.2.2 i hi
    obtain ⟨z1, z2⟩ := H.2.2.2.1 i hi
    rw [e, vis_nI hi (by decide), if_neg (show ¬ b2i true = 0 by decide), gg_t (gin_t hi (by omega)), clampn (by omega)]
    by_cases q : (S.2.2.2.2 i).1 = -1
    · have s0 : (S.2.2.2.2 i).2.1 = 0 := by
        rcases hs.2 with a | a | a | a
        · exact a.2
        · rw [q] at a; cases a
        · rw [q] at a; cases a
        · rw [q] at a; cases a
      rw [if_pos (show h 103 i = 0 by rw [z1, decide_eq_true q]; rfl)]
      dsimp only
      rw [s0]
      rcases vin_cases 0 (by omega) v2 with ⟨k, hk, _⟩ | ⟨e3, -⟩
      · omega
      · rw [e3]
    · obtain ⟨z3, z4, z5⟩ := z2 q
      rw [if_neg (show ¬ h 103 i = 0 by rw [z1, decide_eq_false q]; decide), gg_t (gin_t hi (by omega)), z4, fM_in_eq (n := (S.2.2.2.2 i).2.1) (hi_pred (by omega)), Option.bind_some]
      dsimp only
      rcases vin_cases (S.2.2.2.2 i).2.1 (by omega) v2 with ⟨k, hk, e2, e3⟩ | ⟨e3, -⟩
      · subst e2
        have ei : (40 : Int32) * nI i + nI k = nI (40 * i + k) := by rw [nmul_r, nI_add]
        rw [vis_nI hk (by omega), if_neg (show ¬ b2i true = 0 by decide), ei, gg_t (gin_t (by omega) (by omega)), clampn (by omega), e3, z5 k hk]
      · rw [vis_none e3, if_pos (show b2i false = 0 from rfl), e3]
  · rw [e, vis_none e, if_pos (show b2i false = 0 from rfl)]
