theorem pairOf_eq {h : gH} {j x p : Nat} (hj : j < 8) (hx : x < 8) (hp : h 70 (8 * j + x) = nI p) : fM_pairOf (nI (16 + j)) (nI x) h = some (nI p, h) := by
  unfold fM_pairOf gg
  rw [nsub_l (show 16 ≤ 16 + j by omega), nmul_r, nI_add, show 8 * (16 + j - 16) + x = 8 * j + x by omega, if_pos (gin_t (by omega) (by omega)), clampn (by omega), hp]
theorem alone_loop {h : gH} {j x : Nat} (hj : j < 8) (hx : x < 8) {vs : Nat → Bool} {pv : Nat → Nat} {D : Nat → Nat → Bool} (hs : h 68 (16 + j) = mkn 8 vs) (hp : ∀ y, y < 8 → vs y = true → h 70 (8 * j + y) = nI (pv y) ∧ pv y < 10) (hD : ∀ y, y < 8 → h 66 y = mkn 10 (D y)) : ∀ (m k fu : Nat), k + m = 8 → m < fu →
    fM_isAlone_2 (nI (16 + j)) (nI x) fu (nI k) h = some (b2i ((List.range' k m).all (fun y => decide (y = x) || !vs y || setd D pv y)), h) := by
  intro m
  induction m with
  | zero =>
    intro k fu hk hfu
    obtain ⟨fu, rfl⟩ : ∃ f, fu = f + 1 := ⟨fu - 1, by omega⟩
    have hk : k = 8 := by omega
    subst hk
    unfold fM_isAlone_2
    rw [if_neg (by decide)]; rfl
  | succ m ih =>
    intro k fu hk hfu
    obtain ⟨fu, rfl⟩ : ∃ f, fu = f + 1 := ⟨fu - 1, by omega⟩
    have hk8 : k < 8 := by omega
    have step := ih (k + 1) fu (by omega) (by omega)
    unfold fM_isAlone_2
    rw [if_pos (nltT hk8 (by decide)), List.range'_succ, List.all_cons]
    by_cases e : k = x
    · subst e
      rw [if_pos rfl, nadd_l, step]; simp
    · rw [if_neg (fun z => e ((nI_eq (by omega) (by omega)).mp z))]
      unfold gg
      rw [if_pos (gin_t (by omega) (by omega)), clampn (by omega), hs, mkn_test (by omega) hk8]
      cases hv : vs k with
      | false =>
        rw [if_neg (by simp), nadd_l, step]; simp [hv]
      | true =>
        rw [if_pos (by simp), if_pos (gin_t hk8 (by omega)), pairOf_eq hj hk8 (hp k hk8 hv).1]
        show (if h 66 (nI k).toNatClampNeg = (1 : Int32) <<< (nI (pv k) &&& 31) then fM_isAlone_2 (nI (16 + j)) (nI x) fu (nI k + 1) h else some ((0 : Int32), h)) = _
        rw [clampn (by omega), hD k hk8, mkn_one (n := 10) (by omega) (hp k hk8 hv).2]
        by_cases q : mkn 10 (D k) = mkn 10 (fun i => decide (i = pv k))
        · rw [if_pos q, nadd_l, step]
          have := (setd_iff D pv k).mp q.symm
          simp [this]
        · rw [if_neg q]
          have : setd D pv k = false := by
            cases hs : setd D pv k with
            | false => rfl
            | true => exact absurd ((setd_iff D pv k).mpr hs).symm q
          simp [this, e, b2i]
theorem isAlone_eq {h : gH} {j x : Nat} (hj : j < 8) (hx : x < 8) {vs : Nat → Bool} {pv : Nat → Nat} {D : Nat → Nat → Bool} (hs : h 68 (16 + j) = mkn 8 vs) (hp : ∀ y, y < 8 → vs y = true → h 70 (8 * j + y) = nI (pv y) ∧ pv y < 10) (hD : ∀ y, y < 8 → h 66 y = mkn 10 (D y)) : fM_isAlone (nI (16 + j)) (nI x) h = some (b2i (aln vs pv D x), h) := by
  unfold fM_isAlone
  have := alone_loop hj hx hs hp hD 8 0 gfu (by omega) (by unfold gfu; omega)
  unfold aln
  rw [List.range_eq_range']; exact this
theorem ng66 {j : Nat} {E : qE} (hA : Eall E) {kd : Nat → Nat} {Q : Nat → Bool} {th : Bool} {t0 : qT} {D0 : Nat → Nat → Bool} (hj : j < El E) (hl8 : El E ≤ 8) : ∀ (m k fu : Nat) (h : gH) (st : qS), k + m = 8 → m < fu → ME h E kd → MS E h Q th t0 st → pinv 0 st → (∀ u, k ≤ u → u < 8 → ∀ v, v < 10 → st.1 u v = D0 u v) →
    Sp (fM_prunes_66 (nI (16 + j)) (mkn 8 (fun x => Ev E (16 + j) x && aln (Ev E (16 + j)) (Ep E (16 + j)) D0 x)) fu (nI k) h) (MQo E (16 + j) Q th t0 ((rmv (Ev E (16 + j)) k m).foldl (pstep (kpN (Ev E (16 + j)) (Ep E (16 + j)) D0) (nI (16 + j))) st)) := by
  intro m
  induction m with
  | zero =>
    intro k fu h st hk hfu hM hS hp hD
    obtain ⟨fu, rfl⟩ : ∃ f, fu = f + 1 := ⟨fu - 1, by omega⟩
    have hk : k = 8 := by omega
    subst hk
    unfold fM_prunes_66
    refine Sp_neg (by decide) ?_
    exact prunes231b hA hM (by omega) hS
  | succ m ih =>
    intro k fu h st hk hfu hM hS hp hD
    obtain ⟨fu, rfl⟩ : ∃ f, fu = f + 1 := ⟨fu - 1, by omega⟩
    have hk8 : k < 8 := by omega
    unfold fM_prunes_66
    refine Sp_pos (nltT hk8 (by decide)) ?_
    rw [hS.1.2.2]
    cases hf : st.2.1 with
    | true =>
      refine Sp_neg (by decide) ?_
      rw [pstep_stop _ _ _ hf]
      exact prunes231b hA hM (by omega) hS
    | false =>
      refine Sp_pos rfl ?_
      rw [mkn_test (by omega) hk8, rmv_succ]
      have hDk : ∀ st2 : qS, st2.1 = qnar st.1 k (kpN (Ev E (16 + j)) (Ep E (16 + j)) D0 k) → ∀ u, k + 1 ≤ u → u < 8 → ∀ v, v < 10 → st2.1 u v = D0 u v := fun st2 e u h1 h2 v hv => by
        rw [e]; unfold qnar; rw [if_neg (by omega)]; exact hD u (by omega) h2 v hv
      have e0 : pstep (kpN (Ev E (16 + j)) (Ep E (16 + j)) D0) (nI (16 + j)) st k = (qnar st.1 k (kpN (Ev E (16 + j)) (Ep E (16 + j)) D0 k), !qany (qnar st.1 k (kpN (Ev E (16 + j)) (Ep E (16 + j)) D0 k) k), st.2.2.1 ++ qent k (nI (16 + j)) (fun v => st.1 k v && !kpN (Ev E (16 + j)) (Ep E (16 + j)) D0 k v) 10 0, fun y => st.2.2.2 y || (decide (y = k) && qany (fun v => st.1 k v && !kpN (Ev E (16 + j)) (Ep E (16 + j)) D0 k v))) := by
        unfold pstep; rw [hf, if_neg (by simp)]
      cases hv : Ev E (16 + j) k with
      | false =>
        refine Sp_neg (by simp) ?_
        rw [nadd_l, if_neg (by simp)]
        exact ih (k + 1) fu h st (by omega) (by omega) hM hS hp (fun u h1 h2 => hD u (by omega) h2)
      | true =>
        rw [if_pos rfl, List.foldl_cons]
        cases ha : aln (Ev E (16 + j)) (Ep E (16 + j)) D0 k with
        | false =>
          refine Sp_neg (by simp) ?_
          rw [nadd_l]
          have hkp : ∀ v, v < 10 → kpN (Ev E (16 + j)) (Ep E (16 + j)) D0 k v = st.1 k v := fun v hv => by
            unfold kpN; rw [ha, hD k (Nat.le_refl _) hk8 v hv]; simp
          have hno : qany (fun v => st.1 k v && !kpN (Ev E (16 + j)) (Ep E (16 + j)) D0 k v) = false := (qany_f _).mpr (fun v hv => by rw [hkp v hv]; cases st.1 k v <;> rfl)
          have hsame : ∀ x, x < 8 → ∀ v, v < 10 → qnar st.1 k (kpN (Ev E (16 + j)) (Ep E (16 + j)) D0 k) x v = st.1 x v := fun x _ v hv9 => by
            unfold qnar
            by_cases e : x = k
            · subst e; rw [if_pos rfl, hkp v hv9]; cases st.1 x v <;> rfl
            · rw [if_neg e]
          have hany : qany (qnar st.1 k (kpN (Ev E (16 + j)) (Ep E (16 + j)) D0 k) k) = true := by rw [qany_congr (fun v hv => hsame k hk8 v hv)]; exact hp.2.2.2 hf k hk8
          refine ih (k + 1) fu h _ (by omega) (by omega) hM (MS_congr hS ?_ ?_ ?_ ?_) (pinv_step hk8 hp) (hDk _ (by rw [e0]))
          · rw [e0]; exact hsame
          · rw [e0]; dsimp only; rw [hany, hf]; rfl
          · rw [e0]; dsimp only; rw [qent_none hno, List.append_nil]
          · intro x _; rw [e0]; dsimp only; rw [hno]; simp
        | true =>
          refine Sp_pos (by simp) ?_
          have g := (hM.2.2.2.2.2 j hj).2.2.2 k hk8 hv
          refine Sp_eq (pairOf_eq (by omega) hk8 g.1) ?_
          dsimp only
          refine Sp_bind (Sp_and (keepsS hk8 (K := kpN (Ev E (16 + j)) (Ep E (16 + j)) D0) _ (nI (16 + j)) hS hf (hp.2.2.2 hf k hk8) hp.1 (fun v hv => ?_)) (fun _ e => ME_keeps hM e)) ?_
          · rw [bt_not _ (by omega), bt_shl1 (by omega)]
            unfold kpN
            rw [ha, hD k (Nat.le_refl _) hk8 v hv]
            cases D0 k v <;> simp
          · rintro h5 - ⟨b1, b2⟩
            rw [nadd_l]
            exact ih (k + 1) fu h5 _ (by omega) (by omega) b2 b1 (pinv_step hk8 hp) (hDk _ (by rw [e0]))
theorem ng19 {j : Nat} {E : qE} {kd : Nat → Nat} {h : gH} {D : Nat → Nat → Bool} {C : gH → Prop} (hj : j < El E) (hl8 : El E ≤ 8) (hM : ME h E kd) (hD : ∀ y, y < 8 → h 66 y = mkn 10 (D y)) (hend : ∀ fu, 0 < fu → Sp (fM_prunes_66 (nI (16 + j)) (mkn 8 (fun x => Ev E (16 + j) x && aln (Ev E (16 + j)) (Ep E (16 + j)) D x)) gfu 0 h) C) : ∀ (m k fu : Nat), k + m = 8 → m < fu →
    Sp (fM_prunes_19 (nI (16 + j)) fu (mkn 8 (fun x => decide (x < k) && (Ev E (16 + j) x && aln (Ev E (16 + j)) (Ep E (16 + j)) D x))) (nI k) h) C := by
  intro m
  induction m with
  | zero =>
    intro k fu hk hfu
    obtain ⟨fu, rfl⟩ : ∃ f, fu = f + 1 := ⟨fu - 1, by omega⟩
    have hk : k = 8 := by omega
    subst hk
    unfold fM_prunes_19
    refine Sp_neg (by decide) ?_
    rw [mkn_congr (g := fun x => Ev E (16 + j) x && aln (Ev E (16 + j)) (Ep E (16 + j)) D x) (fun i hi => by rw [decide_eq_true hi]; simp)]
    exact hend 1 (by omega)
  | succ m ih =>
    intro k fu hk hfu
    obtain ⟨fu, rfl⟩ : ∃ f, fu = f + 1 := ⟨fu - 1, by omega⟩
    have hk8 : k < 8 := by omega
    have g := hM.2.2.2.2.2 j hj
    have step := ih (k + 1) fu (by omega) (by omega)
    have dk : ∀ (b : Bool), b = (Ev E (16 + j) k && aln (Ev E (16 + j)) (Ep E (16 + j)) D k) → Sp (fM_prunes_54 (fM_prunes_19 (nI (16 + j)) fu) (nI (16 + j)) (nI k) (mkn 8 (fun x => decide (x < k) && (Ev E (16 + j) x && aln (Ev E (16 + j)) (Ep E (16 + j)) D x))) (b2i b) h) C := fun b hb => by
      unfold fM_prunes_54
      rw [nadd_l]
      have : (mkn 8 (fun x => decide (x < k) && (Ev E (16 + j) x && aln (Ev E (16 + j)) (Ep E (16 + j)) D x)) ||| (b2i b <<< (nI k &&& 31))) = mkn 8 (fun x => decide (x < k + 1) && (Ev E (16 + j) x && aln (Ev E (16 + j)) (Ep E (16 + j)) D x)) := by
        refine mkn_ext (by omega) (fun i hi => ?_)
        have hsh : bt (b2i b <<< (nI k &&& 31)) i = (b && decide (i = k)) := by
          cases b
          · have : (b2i false <<< (nI k &&& 31)) = 0 := by
              show (0 : Int32) <<< _ = 0
              exact Int32.zero_shiftLeft
            rw [this, bt_0]; rfl
          · show bt (1 <<< (nI k &&& 31)) i = _
            rw [bt_shl1 (by omega)]; rfl
        rw [bt_or, bt_mkn (by omega), hsh]
        by_cases e : i = k
        · subst e; rw [hb]; simp [hk8]
        · have : decide (i < k + 1) = decide (i < k) := by apply decide_eq_decide.mpr; omega
          rw [this]; simp [e]
      rw [this]; exact step
    unfold fM_prunes_19
    refine Sp_pos (nltT hk8 (by decide)) (Sp_gg (gin_t (by omega) (by omega)) ?_)
    rw [clampn (by omega), g.1, mkn_test (by omega) hk8]
    cases hv : Ev E (16 + j) k with
    | false =>
      refine Sp_neg (by simp) ?_
      unfold fM_prunes_53
      exact dk false (by rw [hv]; rfl)
    | true =>
      refine Sp_pos (by simp) (Sp_eq (isAlone_eq (by omega) hk8 g.1 g.2.2.2 hD) ?_)
      dsimp only
      cases ha : aln (Ev E (16 + j)) (Ep E (16 + j)) D k with
      | false =>
        refine Sp_pos rfl ?_
        unfold fM_prunes_53
        exact dk false (by rw [hv, ha]; rfl)
      | true =>
        refine Sp_neg (by decide) ?_
        exact dk true (by rw [hv, ha]; rfl)
theorem prunesNg {j : Nat} {E : qE} {kd : Nat → Nat} {h : gH} {Q : Nat → Bool} {th : Bool} {t0 t : qT} {D : Nat → Nat → Bool} (hA : Eall E) (hM : ME h E kd) (hj : j < El E) (H : MX (Eact E) h D Q false) (hth : h 65 36 = b2i th) (ht : MT h (if th then t0 else t)) (hne : ∀ x, x < 8 → qany (D x) = true) (hT : TW D t) :
    Sp (fM_prunes (nI (16 + j)) h) (MQo E (16 + j) Q th t0 ((vls (Ev E (16 + j))).foldl (pstep (Kp E (16 + j) D) (nI (16 + j))) (D, false, t, fun _ => false))) := by
  have hl8 := hM.2.1
  unfold fM_prunes
  refine Sp_let (Sp_gg (gin_t (by omega) (by omega)) ?_)
  have hM1 : ME (hu h 65 35 0) E kd := ME_fr hM (by rw [hu_k _ _ _ _ (by omega)]) (by rw [hu_k _ _ _ _ (by omega)]) (hu_ne (by omega)) (hu_ne (by omega)) (hu_ne (by omega)) (hu_ne (by omega))
  have g := hM1.2.2.2.2.2 j hj
  rw [clampn (by omega), g.2.1]
  refine Sp_pos rfl ?_
  have hD1 : ∀ x, x < 8 → hu h 65 35 0 66 x = mkn 10 (D x) := fun x hx => by rw [hu_o _ _ _ _ _ (by omega)]; exact H.1 x hx
  have hS : MS E (hu h 65 35 0) Q th t0 (D, false, t, fun _ => false) := by
    refine ⟨⟨hD1, fun i hi hv => ?_, ?_⟩, MT_of ht ?_ ?_ ?_, ?_, ?_⟩
    · rw [hu_o _ _ _ _ _ (by omega)]; exact H.2.1 i hi hv
    · rw [hu_k _ _ _ _ (by omega)]; exact H.2.2
    · rw [hu_k _ _ _ _ (by omega)]
    · rw [hu_ne (by omega)]
    · rw [hu_ne (by omega)]
    · rw [hu_k _ _ _ _ (by omega)]; exact hth
    · rw [hu_same]; exact mkn_0 8 (by omega)
  have hp : pinv 0 (D, false, t, fun _ => false) := ⟨hT, Nat.zero_le _, Or.inl (fun _ => rfl), fun _ => hne⟩
  have hKp : Kp E (16 + j) D = kpN (Ev E (16 + j)) (Ep E (16 + j)) D := by unfold Kp; rw [if_neg (by omega)]
  rw [hKp, vls_rmv]
  have key := ng19 (C := MQo E (16 + j) Q th t0 ((rmv (Ev E (16 + j)) 0 8).foldl (pstep (kpN (Ev E (16 + j)) (Ep E (16 + j)) D) (nI (16 + j))) (D, false, t, fun _ => false))) hj hl8 hM1 hD1 (fun _ _ => ng66 hA hj hl8 8 0 gfu _ _ (by omega) (by unfold gfu; omega) hM1 hS hp (fun _ _ _ _ _ => rfl)) 8 0 gfu (by omega) (by unfold gfu; omega)
  have z : mkn 8 (fun x => decide (x < 0) && (Ev E (16 + j) x && aln (Ev E (16 + j)) (Ep E (16 + j)) D x)) = 0 := by
    rw [mkn_0 8 (by omega)]; exact mkn_congr (fun i _ => by simp)
  rw [z] at key
  exact key
/-- the model's rule runs -/
theorem prunes_sp {r : Nat} {E : qE} {kd : Nat → Nat} {h : gH} {th : Bool} {t0 : qT} {P : qP} (hA : Eall E) (hM : ME h E kd) (ha : Eact E r = true) (H : MX (Eact E) h P.1 (fun i => P.2.1 i && !decide (i = r)) false) (hth : h 65 36 = b2i th) (ht : MT h (if th then t0 else P.2.2.2)) (hne : ∀ x, x < 8 → qany (P.1 x) = true) (hT : PT P) :
    Sp (fM_prunes (nI r) h) (fun h' => MX (Eact E) h' (qone E r P).1 (qone E r P).2.1 (qone E r P).2.2.1 ∧ MT h' (if th then t0 else (qone E r P).2.2.2) ∧ h' 65 36 = b2i th) := by
  have hl := Eact_lt hM.1 hM.2.1 ha
  rcases hl.2 with q | q
  · exact prunesTab hA hM q H hth ht hne hT
  · have e : 16 + (r - 16) = r := by omega
    have := prunesNg (j := r - 16) (t := P.2.2.2) (t0 := t0) hA hM (by omega) (D := P.1) (Q := fun i => P.2.1 i && !decide (i = r)) H hth ht hne hT
    rw [e] at this
    exact this
