theorem MS_congr {E : qE} {h : gH} {Q : Nat → Bool} {th : Bool} {t0 : qT} {st st2 : qS} (H : MS E h Q th t0 st) (hD : ∀ x, x < 8 → ∀ v, v < 10 → st2.1 x v = st.1 x v) (hf : st2.2.1 = st.2.1) (ht : st2.2.2.1 = st.2.2.1) (hc : ∀ x, x < 8 → st2.2.2.2 x = st.2.2.2 x) : MS E h Q th t0 st2 := by
  obtain ⟨h1, h2, h3, h4⟩ := H
  refine ⟨?_, by rw [ht]; exact h2, h3, by rw [h4]; exact mkn_congr (fun x hx => (hc x hx).symm)⟩
  rw [hf]; exact MX_congr h1 hD (fun _ _ _ => rfl) rfl
theorem ME_fr {h h1 : gH} {E : qE} {kd : Nat → Nat} (H : ME h E kd) (a8 : h1 65 8 = h 65 8) (a9 : h1 65 9 = h 65 9) (b67 : h1 67 = h 67) (b68 : h1 68 = h 68) (b69 : h1 69 = h 69) (b70 : h1 70 = h 70) : ME h1 E kd := by
  obtain ⟨g1, g2, g3, g4, g5, g6⟩ := H
  refine ⟨g1, g2, by rw [a8]; exact g3, by rw [a9]; exact g4, fun r hr => ?_, fun j hj => ?_⟩
  · have := g5 r hr
    unfold TB at this ⊢
    rw [b67, b68, b69]; exact this
  · have := g6 j hj
    rw [b67, b68, b70]; exact this
theorem ME_keeps {h : gH} {v1 v2 v3 : Int32} {x : gH} {E : qE} {kd : Nat → Nat} (H : ME h E kd) (e : fM_keeps v1 v2 v3 h = some x) : ME x E kd := by
  have fr := fM_keeps_fr e
  exact ME_fr H (fr 65 8 (by decide) (by decide)) (fr 65 9 (by decide) (by decide)) (funext fun k => fr 67 k (by decide) (by simp)) (funext fun k => fr 68 k (by decide) (by simp)) (funext fun k => fr 69 k (by decide) (by simp)) (funext fun k => fr 70 k (by decide) (by simp))
/-- what the model holds behind a run -/
def MQo (E : qE) (r : Nat) (Q : Nat → Bool) (th : Bool) (t0 : qT) (st : qS) (h' : gH) : Prop := MX (Eact E) h' st.1 (qafter Q st.2.1 (wk st.2.2.2 (fun x i => Ev E i x)) (Eact E) r) st.2.1 ∧ MT h' (if th then t0 else st.2.2.1) ∧ h' 65 36 = b2i th
theorem prunes231b {h : gH} {E : qE} {kd : Nat → Nat} (hA : Eall E) (hM : ME h E kd) {Q : Nat → Bool} {th : Bool} {t0 : qT} {st : qS} {r : Nat} (hr : r < 24) (H : MS E h Q th t0 st) : Sp (fM_prunes_231 (nI r) h) (MQo E r Q th t0 st) := by
  refine Sp_mono (prunes231 hM hA hr H) ?_
  rintro h' ⟨a1, a2⟩
  exact ⟨a1, MT_of H.2.1 (by rw [a2 65 (by omega)]) (a2 74 (by omega)) (a2 75 (by omega)), by rw [a2 65 (by omega)]; exact H.2.2.1⟩
/-- one variable of a rule of the texts -/
theorem keepTab {x j r : Nat} {E : qE} {kd : Nat → Nat} {h : gH} {Q : Nat → Bool} {th : Bool} {t0 : qT} {st : qS} {D : Nat → Nat → Bool} (hM : ME h E kd) (hr : r < En E) (hj : (vls (Ev E r))[j]? = some x) (hj3 : j < 3) (H : MS E h Q th t0 st) (hf : st.2.1 = false) (hp : pinv 0 st) :
    fM_variable (h 68 r) (nI j) h = some (nI x, h) ∧ Sp (fM_keeps (nI x) (mkn 10 (sAj j (dvr (Ev E r) D 0) (dvr (Ev E r) D 1) (dvr (Ev E r) D 2) (ET E r))) (nI r) h) (fun h' => ME h' E kd ∧ MS E h' Q th t0 (pstep (Kp E r D) (nI r) st x) ∧ pinv 0 (pstep (Kp E r D) (nI r) st x)) := by
  have hx := ((mem_vls _ x).mp (List.mem_of_getElem? hj)).1
  have g := hM.2.2.2.2.1 r hr
  have hn16 := hM.1
  refine ⟨by rw [g.1, variable_eq (by omega), hj]; rfl, ?_⟩
  refine Sp_mono (Sp_and (keepsS hx (K := Kp E r D) _ (nI r) H hf (hp.2.2.2 hf x hx) hp.1 (fun v hv => ?_)) (fun _ e => ME_keeps hM e)) ?_
  · rw [bt_mkn (by omega), decide_eq_true hv, Bool.true_and, ← kp_eq g.2.2.2.1 hj]
    unfold Kp
    rw [if_pos (by omega)]
  · rintro h' ⟨a, b⟩
    exact ⟨b, a, pinv_step hx hp⟩
theorem prunesTab {r : Nat} {E : qE} {kd : Nat → Nat} {h : gH} {Q : Nat → Bool} {th : Bool} {t0 t : qT} {D : Nat → Nat → Bool} (hA : Eall E) (hM : ME h E kd) (hr : r < En E) (H : MX (Eact E) h D Q false) (hth : h 65 36 = b2i th) (ht : MT h (if th then t0 else t)) (hne : ∀ x, x < 8 → qany (D x) = true) (hT : TW D t) :
    Sp (fM_prunes (nI r) h) (MQo E r Q th t0 ((vls (Ev E r)).foldl (pstep (Kp E r D) (nI r)) (D, false, t, fun _ => false))) := by
  have hn16 := hM.1
  have g := hM.2.2.2.2.1 r hr
  unfold fM_prunes
  refine Sp_let (Sp_gg (gin_t (by omega) (by omega)) ?_)
  rw [clampn (by omega), hu_o _ _ _ _ _ (by omega), g.2.1]
  refine Sp_neg (fun z => by have := (neq_l (by omega) (by decide)).mp z; have := g.2.2.1; omega) ?_
  have hM1 : ME (hu h 65 35 0) E kd := ME_fr hM (by rw [hu_k _ _ _ _ (by omega)]) (by rw [hu_k _ _ _ _ (by omega)]) (hu_ne (by omega)) (hu_ne (by omega)) (hu_ne (by omega)) (hu_ne (by omega))
  have g1 := hM1.2.2.2.2.1 r hr
  have hD1 : ∀ x, x < 8 → hu h 65 35 0 66 x = mkn 10 (D x) := fun x hx => by rw [hu_o _ _ _ _ _ (by omega)]; exact H.1 x hx
  refine Sp_bind (through_sp (show r < 16 by omega) g1.1 hD1 g1.2.2.2.2.2) ?_
  rintro h4 - ⟨w, p0, p1, p2, -⟩
  have hM4 : ME h4 E kd := ME_fr hM1 (w.2 8 (by omega)) (w.2 9 (by omega)) (w.1 67 (by omega) (by omega)) (w.1 68 (by omega) (by omega)) (w.1 69 (by omega) (by omega)) (w.1 70 (by omega) (by omega))
  have g4 := hM4.2.2.2.2.1 r hr
  have hS : MS E h4 Q th t0 (D, false, t, fun _ => false) := by
    refine ⟨⟨fun x hx => ?_, fun i hi hv => ?_, ?_⟩, MT_of ht ?_ ?_ ?_, ?_, ?_⟩
    · rw [w.1 66 (by omega) (by omega)]; exact hD1 x hx
    · rw [w.1 71 (by omega) (by omega), hu_o _ _ _ _ _ (by omega)]; exact H.2.1 i hi hv
    · rw [w.2 2 (by omega), hu_k _ _ _ _ (by omega)]; exact H.2.2
    · rw [w.2 15 (by omega), hu_k _ _ _ _ (by omega)]
    · rw [w.1 74 (by omega) (by omega), hu_ne (by omega)]
    · rw [w.1 75 (by omega) (by omega), hu_ne (by omega)]
    · rw [w.2 36 (by omega), hu_k _ _ _ _ (by omega)]; exact hth
    · rw [w.2 35 (by omega), hu_same]; exact mkn_0 8 (by omega)
  have hp : pinv 0 (D, false, t, fun _ => false) := ⟨hT, Nat.zero_le _, Or.inl (fun _ => rfl), fun _ => hne⟩
  refine Sp_gg (gin_t (by omega) (by omega)) ?_
  rw [g4.1]
  refine Sp_eq (bitsOf_mkn (by omega) _ _) ?_
  dsimp only
  rw [show (0 : Int32).toNatClampNeg = 0 from rfl, show (1 : Int32).toNatClampNeg = 1 from rfl, show (2 : Int32).toNatClampNeg = 2 from rfl, p0, p1, p2, ← vls_len]
  -- the third, the second, the first
  have t3 : ∀ (hh : gH) (st : qS), 2 < (vls (Ev E r)).length → ME hh E kd → MS E hh Q th t0 st → pinv 0 st → Sp (fM_prunes_201 (nI r) (mkn 10 (sA2 (dvr (Ev E r) D 0) (dvr (Ev E r) D 1) (dvr (Ev E r) D 2) (ET E r))) (nI (vls (Ev E r)).length) hh) (MQo E r Q th t0 (((vls (Ev E r)).drop 2).foldl (pstep (Kp E r D) (nI r)) st)) := by
    intro hh st h2 hMh hSh hph
    have hlen := g.2.2.2.1
    unfold fM_prunes_201
    refine Sp_pos ((nlt_r (by omega) (by decide)).mpr h2) ?_
    rw [hSh.1.2.2]
    obtain ⟨c, hc⟩ : ∃ c, (vls (Ev E r))[2]? = some c := ⟨_, List.getElem?_eq_getElem h2⟩
    have hdr : (vls (Ev E r)).drop 2 = [c] := by
      rw [List.drop_eq_getElem_cons h2, List.drop_eq_nil_of_le (by omega)]
      rw [List.getElem?_eq_getElem h2] at hc
      rw [Option.some.inj hc]
    rw [hdr]
    cases hf : st.2.1 with
    | true =>
      refine Sp_neg (by decide) ?_
      rw [pstep_stop _ _ _ hf]
      exact prunes231b hA hMh (by omega) hSh
    | false =>
      refine Sp_pos rfl (Sp_gg (gin_t (by omega) (by omega)) ?_)
      rw [clampn (by omega)]
      obtain ⟨q1, q2⟩ := keepTab (D := D) hMh hr hc (by omega) hSh hf hph
      refine Sp_eq q1 (Sp_bind q2 ?_)
      rintro h5 - ⟨b1, b2, -⟩
      exact prunes231b hA b1 (by omega) b2
  have t2 : ∀ (hh : gH) (st : qS), ME hh E kd → MS E hh Q th t0 st → pinv 0 st → Sp (fM_prunes_172 (nI r) (mkn 10 (sA1 (dvr (Ev E r) D 0) (dvr (Ev E r) D 1) (dvr (Ev E r) D 2) (ET E r))) (mkn 10 (sA2 (dvr (Ev E r) D 0) (dvr (Ev E r) D 1) (dvr (Ev E r) D 2) (ET E r))) (nI (vls (Ev E r)).length) hh) (MQo E r Q th t0 (((vls (Ev E r)).drop 1).foldl (pstep (Kp E r D) (nI r)) st)) := by
    intro hh st hMh hSh hph
    have hlen := g.2.2.2.1
    -- behind the second
    have nx : ∀ (h5 : gH) (st5 : qS), 1 < (vls (Ev E r)).length → ME h5 E kd → MS E h5 Q th t0 st5 → pinv 0 st5 → Sp (fM_prunes_201 (nI r) (mkn 10 (sA2 (dvr (Ev E r) D 0) (dvr (Ev E r) D 1) (dvr (Ev E r) D 2) (ET E r))) (nI (vls (Ev E r)).length) h5) (MQo E r Q th t0 (((vls (Ev E r)).drop 2).foldl (pstep (Kp E r D) (nI r)) st5)) := by
      intro h5 st5 _ b1 b2 b3
      by_cases h2 : 2 < (vls (Ev E r)).length
      · exact t3 h5 st5 h2 b1 b2 b3
      · unfold fM_prunes_201
        refine Sp_neg (fun z => h2 ((nlt_r (by omega) (by decide)).mp z)) ?_
        rw [List.drop_eq_nil_of_le (by omega)]
        exact prunes231b hA b1 (by omega) b2
    unfold fM_prunes_172
    by_cases h1 : 1 < (vls (Ev E r)).length
    · refine Sp_pos ((nlt_r (by omega) (by decide)).mpr h1) ?_
      rw [hSh.1.2.2]
      obtain ⟨b, hb⟩ : ∃ b, (vls (Ev E r))[1]? = some b := ⟨_, List.getElem?_eq_getElem h1⟩
      have hdr : (vls (Ev E r)).drop 1 = b :: (vls (Ev E r)).drop 2 := by
        rw [List.drop_eq_getElem_cons h1]
        rw [List.getElem?_eq_getElem h1] at hb
        rw [Option.some.inj hb]
      rw [hdr, List.foldl_cons]
      cases hf : st.2.1 with
      | true =>
        refine Sp_neg (by decide) ?_
        have e : pstep (Kp E r D) (nI r) st b = st := by unfold pstep; rw [if_pos hf]
        rw [e]
        exact nx hh st h1 hMh hSh hph
      | false =>
        refine Sp_pos rfl (Sp_gg (gin_t (by omega) (by omega)) ?_)
        rw [clampn (by omega)]
        obtain ⟨q1, q2⟩ := keepTab (D := D) hMh hr hb (by omega) hSh hf hph
        refine Sp_eq q1 (Sp_bind q2 ?_)
        rintro h5 - ⟨b1, b2, b3⟩
        exact nx h5 _ h1 b1 b2 b3
    · refine Sp_neg (fun z => h1 ((nlt_r (by omega) (by decide)).mp z)) ?_
      rw [List.drop_eq_nil_of_le (by omega)]
      unfold fM_prunes_201
      refine Sp_neg (fun z => by have := (nlt_r (by omega) (by decide)).mp z; omega) ?_
      exact prunes231b hA hMh (by omega) hSh
  have hlen := g.2.2.2.1
  by_cases h0 : 0 < (vls (Ev E r)).length
  · refine Sp_pos ((nlt_r (by omega) (by decide)).mpr h0) (Sp_gg (gin_t (by omega) (by omega)) ?_)
    obtain ⟨a, ha⟩ : ∃ a, (vls (Ev E r))[0]? = some a := ⟨_, List.getElem?_eq_getElem h0⟩
    have hdr : vls (Ev E r) = a :: (vls (Ev E r)).drop 1 := by
      have := List.drop_eq_getElem_cons h0
      rw [List.drop_zero] at this
      rw [List.getElem?_eq_getElem h0] at ha
      rw [← Option.some.inj ha]; exact this
    obtain ⟨q1, q2⟩ := keepTab (D := D) hM4 hr ha (by omega) hS rfl hp
    refine Sp_eq q1 (Sp_bind q2 ?_)
    rintro h5 - ⟨b1, b2, b3⟩
    have := t2 h5 _ b1 b2 b3
    rw [← List.foldl_cons, ← hdr] at this
    exact this
  · refine Sp_neg (fun z => h0 ((nlt_r (by omega) (by decide)).mp z)) ?_
    have hnil : vls (Ev E r) = [] := List.length_eq_zero_iff.mp (by omega)
    have := t2 h4 _ hM4 hS hp
    have e : (vls (Ev E r)).drop 1 = vls (Ev E r) := by rw [hnil]; rfl
    rw [e] at this
    exact this
