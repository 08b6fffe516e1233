/-! the reference's next token -/
/-- where it stands in the text -/
def R24 (h : gH) (p : Nat) : Prop := h 65 24 = nI p
theorem names95 {T : qTp} (B : TpB T) {v1 : Int32} {q : Nat} {Q : gH → Prop} : ∀ (m p fu : Nat) (h : gH), p + m = T.1 → m < fu → R24 h p → h 65 26 = nI q → MTp h T → (∀ h1, nfr 24 24 h h1 → R24 h1 (rn (fun i => tsm (T.2 i)) m p) → Sp (if (h1 65 24) = ((h1 65 26) + (1 : Int32)) then if (104 : Int32) < v1 then fM_next_156 h1 else fM_next_169 (v1 - (97 : Int32)) h1 else fM_next_156 h1) Q) → Sp (fM_next_95 v1 fu h) Q := by
  have hn := B.1
  intro m
  induction m with
  | zero =>
    intro p fu h hp hfu h24 h26 HT hQ
    obtain ⟨fu, rfl⟩ : ∃ f, fu = f + 1 := ⟨fu - 1, by omega⟩
    have e := hQ h (nfr_rf _ _ _) h24
    unfold fM_next_95
    rw [show h 65 24 = nI p from h24]
    refine Sp_eq (byteAt_eq HT B (by omega)) ?_
    rw [if_neg (show ¬ p < T.1 by omega)]
    refine Sp_eq (in97m h) ?_
    exact Sp_pos rfl e
  | succ m ih =>
    intro p fu h hp hfu h24 h26 HT hQ
    obtain ⟨fu, rfl⟩ : ∃ f, fu = f + 1 := ⟨fu - 1, by omega⟩
    have hb := B.2 p (by omega)
    unfold fM_next_95
    rw [show h 65 24 = nI p from h24]
    refine Sp_eq (byteAt_eq HT B (by omega)) ?_
    rw [if_pos (show p < T.1 by omega)]
    refine Sp_eq (in97 (by omega) h) ?_
    rw [rn_s] at hQ
    by_cases c : tsm (T.2 p) = true
    · rw [if_pos c] at hQ
      refine Sp_neg (b2i_ne _ c) ?_
      dsimp only
      rw [show h 65 24 = nI p from h24, nadd_l p 1]
      have f1 : nfr 24 24 h (hu h 65 24 (nI (p + 1))) := nfr_hu h _ (by omega)
      refine ih (p + 1) fu _ (by omega) (by omega) (hu_same _ _ _ _) (by rw [hu_k _ _ _ _ (by decide)]; exact h26) (MTp_nfr HT f1 (by omega)) (fun h1 f2 e2 => hQ h1 (nfr_tr f1 f2) e2)
    · rw [if_neg c] at hQ
      exact Sp_pos (by rw [Bool.eq_false_iff.mpr c]; rfl) (hQ h (nfr_rf _ _ _) h24)
theorem qnum_s (T : qTp) : ∀ (m p a : Nat), qnum T (m + 1) p a = 10 * qnum T m p a + (T.2 (p + m) - 48) := by
  intro m
  induction m with
  | zero => intro p a; rfl
  | succ m ih =>
    intro p a
    show qnum T (m + 1) (p + 1) (10 * a + (T.2 p - 48)) = _
    rw [ih, show p + 1 + m = p + (m + 1) by omega]
    rfl
theorem digits213 {T : qTp} (B : TpB T) {q : Nat} {Q : gH → Prop} : ∀ (m j fu : Nat) (h : gH), q + j + m = T.1 → m < fu → R24 h (q + j) → h 65 27 = nI (qnum T (min j 4) q 0) → MTp h T → (∀ h1, nfr 24 27 h h1 → h1 65 26 = h 65 26 → R24 h1 (rn (fun i => tdg (T.2 i)) m (q + j)) → (h1 65 25 = if 4 < rn (fun i => tdg (T.2 i)) m (q + j) - q then 4 else 2) → h1 65 27 = nI (qnum T (min (rn (fun i => tdg (T.2 i)) m (q + j) - q) 4) q 0) → Q h1) → Sp (fM_next_213 fu (nI j) h) Q := by
  have hn := B.1
  intro m
  induction m with
  | zero =>
    intro j fu h hp hfu h24 h27 HT hQ
    obtain ⟨fu, rfl⟩ : ∃ f, fu = f + 1 := ⟨fu - 1, by omega⟩
    unfold fM_next_213
    rw [show h 65 24 = nI (q + j) from h24]
    refine Sp_eq (byteAt_eq HT B (by omega)) ?_
    rw [if_neg (show ¬ q + j < T.1 by omega)]
    refine Sp_eq (in48m h) (Sp_pos rfl ?_)
    have hQ := fun v f => hQ (hu h 65 25 v) (nfr_hu h v (by omega)) (hu_k _ _ _ _ (by decide)) ((hu_k _ _ _ _ (by decide)).trans h24) ((hu_same _ _ _ _).trans f)
    rw [show rn (fun i => tdg (T.2 i)) 0 (q + j) - q = j from Nat.add_sub_cancel_left q j] at hQ
    by_cases c : 4 < j
    · refine Sp_pos ((nlt_r (c := 4) (by omega) (by decide)).mpr c) (Sp_some (hQ 4 (by rw [if_pos c]) ?_))
      rw [hu_k _ _ _ _ (by decide)]; exact h27
    · refine Sp_neg (fun z => c ((nlt_r (c := 4) (by omega) (by decide)).mp z)) (Sp_some (hQ 2 (by rw [if_neg c]) ?_))
      rw [hu_k _ _ _ _ (by decide)]; exact h27
  | succ m ih =>
    intro j fu h hp hfu h24 h27 HT hQ
    obtain ⟨fu, rfl⟩ : ∃ f, fu = f + 1 := ⟨fu - 1, by omega⟩
    have hb := B.2 (q + j) (by omega)
    unfold fM_next_213
    rw [show h 65 24 = nI (q + j) from h24]
    refine Sp_eq (byteAt_eq HT B (by omega)) ?_
    rw [if_pos (show q + j < T.1 by omega)]
    refine Sp_eq (in48 (by omega) h) ?_
    rw [rn_s] at hQ
    by_cases c : tdg (T.2 (q + j)) = true
    · rw [if_pos c] at hQ
      have c48 : 48 ≤ T.2 (q + j) := by unfold tdg at c; have := of_decide_eq_true c; omega
      refine Sp_neg (b2i_ne _ c) ?_
      have st : ∀ w : Int32, w = nI (qnum T (min (j + 1) 4) q 0) → Sp (fM_next_266 (fM_next_213 fu) (nI j) w h) Q := by
        intro w hw
        unfold fM_next_266
        refine Sp_let ?_
        rw [nadd_l j 1, hu_k _ _ _ _ (by decide), show h 65 24 = nI (q + j) from h24, nadd_l _ 1]
        have f1 : nfr 24 27 h (hu (hu h 65 27 w) 65 24 (nI (q + j + 1))) := nfr_tr (nfr_hu h _ (by omega)) (nfr_hu _ _ (by omega))
        refine ih (j + 1) fu _ (by omega) (by omega) (hu_same _ _ _ _) ?_ (MTp_nfr HT f1 (by omega)) (fun h1 f2 e26 e24 e25 e27 => hQ h1 (nfr_tr f1 f2) ?_ e24 e25 e27)
        · rw [hu_k _ _ _ _ (by decide), hu_same]; exact hw
        · rw [e26, hu_k _ _ _ _ (by decide), hu_k _ _ _ _ (by decide)]
      by_cases c4 : j < 4
      · refine Sp_pos (nltT (show j < 4 by omega) (by decide)) ?_
        dsimp only
        rw [show h 65 24 = nI (q + j) from h24]
        refine Sp_eq (byteAt_eq HT B (by omega)) ?_
        rw [if_pos (show q + j < T.1 by omega)]
        refine st _ ?_
        dsimp only
        rw [h27, Nat.min_eq_left (by omega), Nat.min_eq_left (by omega), qnum_s, show (10 : Int32) * nI (qnum T j q 0) = nI (10 * qnum T j q 0) from nmul 10 _, nI_add, show nI (10 * qnum T j q 0 + T.2 (q + j)) - (48 : Int32) = nI (10 * qnum T j q 0 + T.2 (q + j) - 48) from nsub (a := 10 * qnum T j q 0 + T.2 (q + j)) (b := 48) (by omega)]
        exact congrArg nI (by omega)
      · refine Sp_neg (fun z => c4 ((nlt_l (c := 4) (by omega) (by decide)).mp z)) (st _ ?_)
        dsimp only
        rw [h27, Nat.min_eq_right (by omega), Nat.min_eq_right (by omega)]
    · rw [if_neg c] at hQ
      refine Sp_pos (by rw [Bool.eq_false_iff.mpr c]; rfl) ?_
      have hQ := fun v f => hQ (hu h 65 25 v) (nfr_hu h v (by omega)) (hu_k _ _ _ _ (by decide)) ((hu_k _ _ _ _ (by decide)).trans h24) ((hu_same _ _ _ _).trans f)
      rw [show q + j - q = j from Nat.add_sub_cancel_left q j] at hQ
      by_cases c : 4 < j
      · refine Sp_pos ((nlt_r (c := 4) (by omega) (by decide)).mpr c) (Sp_some (hQ 4 (by rw [if_pos c]) ?_))
        rw [hu_k _ _ _ _ (by decide)]; exact h27
      · refine Sp_neg (fun z => c ((nlt_r (c := 4) (by omega) (by decide)).mp z)) (Sp_some (hQ 2 (by rw [if_neg c]) ?_))
        rw [hu_k _ _ _ _ (by decide)]; exact h27
/-- whether the letters from q on spell distinct -/
theorem dist_eq {T : qTp} (B : TpB T) {h : gH} (HT : MTp h T) {q e : Nat} (h24 : R24 h e) (h26 : h 65 26 = nI q) (he : e ≤ T.1) (hq : q ≤ T.1) : fM_isDistinct h = some (b2i (decide (e = q + 8) && qis T q), h) := by
  have hn := B.1
  unfold fM_isDistinct
  rw [show h 65 24 = nI e from h24, h26, show nI q + (8 : Int32) = nI (q + 8) from nI_add q 8]
  by_cases c : e = q + 8
  · have w : ∀ k, k < 8 → fM_byteAt (nI (q + k)) h = some (nI (T.2 (q + k)), h) := fun k hk => by rw [byteAt_eq HT B (by omega), if_pos (by omega)]
    have v : ∀ k c : Nat, k < 8 → c < 256 → (nI (T.2 (q + k)) = nI c ↔ T.2 (q + k) = c) := fun k c hk hc => by
      have := B.2 (q + k) (by omega)
      exact nI_eq (by omega) (by omega)
    rw [if_pos (by rw [c]), decide_eq_true c]
    have w0 : fM_byteAt (nI q) h = some (nI (T.2 q), h) := w 0 (by omega)
    have v0 : nI (T.2 q) = (100 : Int32) ↔ T.2 q = 100 := v 0 100 (by omega) (by omega)
    have v1 : nI (T.2 (q + 1)) = (105 : Int32) ↔ T.2 (q + 1) = 105 := v 1 105 (by omega) (by omega)
    have v2 : nI (T.2 (q + 2)) = (115 : Int32) ↔ T.2 (q + 2) = 115 := v 2 115 (by omega) (by omega)
    have v3 : nI (T.2 (q + 3)) = (116 : Int32) ↔ T.2 (q + 3) = 116 := v 3 116 (by omega) (by omega)
    have v4 : nI (T.2 (q + 4)) = (105 : Int32) ↔ T.2 (q + 4) = 105 := v 4 105 (by omega) (by omega)
    have v5 : nI (T.2 (q + 5)) = (110 : Int32) ↔ T.2 (q + 5) = 110 := v 5 110 (by omega) (by omega)
    have v6 : nI (T.2 (q + 6)) = (99 : Int32) ↔ T.2 (q + 6) = 99 := v 6 99 (by omega) (by omega)
    have v7 : nI (T.2 (q + 7)) = (116 : Int32) ↔ T.2 (q + 7) = 116 := v 7 116 (by omega) (by omega)
    rw [w0, Option.bind_some]
    dsimp only
    unfold qis
    by_cases d0 : T.2 q = 100
    · rw [if_pos (v0.mpr d0), h26, show nI q + (1 : Int32) = nI (q + 1) from nI_add q 1, w 1 (by omega), Option.bind_some, decide_eq_true d0]
      dsimp only
      by_cases d1 : T.2 (q + 1) = 105
      · rw [if_pos (v1.mpr d1), h26, show nI q + (2 : Int32) = nI (q + 2) from nI_add q 2, w 2 (by omega), Option.bind_some, decide_eq_true d1]
        dsimp only
        by_cases d2 : T.2 (q + 2) = 115
        · rw [if_pos (v2.mpr d2), h26, show nI q + (3 : Int32) = nI (q + 3) from nI_add q 3, w 3 (by omega), Option.bind_some, decide_eq_true d2]
          dsimp only
          by_cases d3 : T.2 (q + 3) = 116
          · rw [if_pos (v3.mpr d3), h26, show nI q + (4 : Int32) = nI (q + 4) from nI_add q 4, w 4 (by omega), Option.bind_some, decide_eq_true d3]
            dsimp only
            by_cases d4 : T.2 (q + 4) = 105
            · rw [if_pos (v4.mpr d4), h26, show nI q + (5 : Int32) = nI (q + 5) from nI_add q 5, w 5 (by omega), Option.bind_some, decide_eq_true d4]
              dsimp only
              by_cases d5 : T.2 (q + 5) = 110
              · rw [if_pos (v5.mpr d5), h26, show nI q + (6 : Int32) = nI (q + 6) from nI_add q 6, w 6 (by omega), Option.bind_some, decide_eq_true d5]
                dsimp only
                by_cases d6 : T.2 (q + 6) = 99
                · rw [if_pos (v6.mpr d6), h26, show nI q + (7 : Int32) = nI (q + 7) from nI_add q 7, w 7 (by omega), Option.bind_some, decide_eq_true d6]
                  dsimp only
                  by_cases d7 : T.2 (q + 7) = 116
                  · rw [if_pos (v7.mpr d7), decide_eq_true d7]; rfl
                  · rw [if_neg (fun z => d7 (v7.mp z)), decide_eq_false d7]; rfl
                · rw [if_neg (fun z => d6 (v6.mp z)), decide_eq_false d6]; rfl
              · rw [if_neg (fun z => d5 (v5.mp z)), decide_eq_false d5]; rfl
            · rw [if_neg (fun z => d4 (v4.mp z)), decide_eq_false d4]; rfl
          · rw [if_neg (fun z => d3 (v3.mp z)), decide_eq_false d3]; rfl
        · rw [if_neg (fun z => d2 (v2.mp z)), decide_eq_false d2]; rfl
      · rw [if_neg (fun z => d1 (v1.mp z)), decide_eq_false d1]; rfl
    · rw [if_neg (fun z => d0 (v0.mp z)), decide_eq_false d0]; rfl
  · rw [if_neg (fun z => c ((nI_eq (by omega) (by omega)).mp z)), decide_eq_false c]; rfl
theorem n104 {k : Nat} (hk : k < 2 ^ 31) : ((104 : Int32) < nI k) ↔ 104 < k := nlt_r hk (by decide)
theorem next0 {T : qTp} (B : TpB T) {Q : gH → Prop} : ∀ (m p fu : Nat) (h : gH), p + m = T.1 → m < fu → R24 h p → MTp h T → (∀ h1, nfr 24 27 h h1 → RT h1 T (rn (fun i => tws (T.2 i)) m p) → Q h1) → Sp (fM_next_0 fu h) Q := by
  have hn := B.1
  intro m
  induction m with
  | zero =>
    intro p fu h hp hfu h24 HT hQ
    obtain ⟨fu, rfl⟩ : ∃ f, fu = f + 1 := ⟨fu - 1, by omega⟩
    have hp : p = T.1 := by omega
    subst hp
    unfold fM_next_0
    rw [show h 65 24 = nI T.1 from h24]
    refine Sp_eq (byteAt_eq HT B (by omega)) (Sp_neg (by rw [if_neg (Nat.lt_irrefl _)]; exact (by decide : ¬ (-1 : Int32) = 32)) ?_)
    dsimp only
    rw [show h 65 24 = nI T.1 from h24]
    refine Sp_eq (byteAt_eq HT B (by omega)) (Sp_neg (by rw [if_neg (Nat.lt_irrefl _)]; exact (by decide : ¬ (-1 : Int32) = 10)) (Sp_let ?_))
    dsimp only
    rw [hu_k _ _ _ _ (by decide), show h 65 24 = nI T.1 from h24]
    have f1 : nfr 24 27 h (hu h 65 26 (nI T.1)) := nfr_hu h _ (by omega)
    refine Sp_eq (byteAt_eq (MTp_nfr HT f1 (by omega)) B (by omega)) (Sp_let (Sp_pos (by rw [if_neg (Nat.lt_irrefl _)]; exact (by decide : (-1 : Int32) < 0)) (Sp_let (Sp_some ?_))))
    dsimp only
    refine hQ _ (nfr_tr f1 (nfr_tr (nfr_hu _ _ (by omega)) (nfr_tr (nfr_hu _ _ (by omega)) (nfr_hu _ _ (by omega))))) ⟨Nat.le_refl _, ?_, ?_, T.1, Nat.le_refl _, ?_, fun _ => ?_⟩
    · rw [hu_same, hu_k _ _ _ _ (by decide), hu_k _ _ _ _ (by decide), hu_k _ _ _ _ (by decide)]; exact HT.1
    · show RK _ (qkd T T.1) _
      rw [qkd_n (Nat.lt_irrefl _)]
      exact ⟨fun _ => by rw [hu_k _ _ _ _ (by decide), hu_same], fun z => absurd z (by decide), fun z => absurd z (by decide), fun z => absurd z (by decide), fun z => absurd z (by decide), fun z => absurd z (by decide)⟩
    · rw [hu_k _ _ _ _ (by decide), hu_k _ _ _ _ (by decide), hu_k _ _ _ _ (by decide), hu_k _ _ _ _ (by decide)]; exact h24
    · rw [qskip_n]; unfold qnt; rw [if_neg (show ¬ rn _ 0 T.1 < T.1 from Nat.lt_irrefl _)]
  | succ m ih =>
    intro p fu h hp hfu h24 HT hQ
    obtain ⟨fu, rfl⟩ : ∃ f, fu = f + 1 := ⟨fu - 1, by omega⟩
    have hpn : p < T.1 := by omega
    have hb := B.2 p hpn
    have t32 : nI (T.2 p) = (32 : Int32) ↔ T.2 p = 32 := neq_l (c := 32) (by omega) (by decide)
    have t10 : nI (T.2 p) = (10 : Int32) ↔ T.2 p = 10 := neq_l (c := 10) (by omega) (by decide)
    unfold fM_next_0
    rw [show h 65 24 = nI p from h24]
    refine Sp_eq (byteAt_eq HT B (by omega)) ?_
    rw [if_pos hpn]
    rw [rn_s] at hQ
    have go : tws (T.2 p) = true → Sp (fM_next_26 (fM_next_0 fu) h) Q := by
      intro c
      rw [if_pos c] at hQ
      unfold fM_next_26
      rw [show h 65 24 = nI p from h24, nadd_l p 1]
      have f1 : nfr 24 27 h (hu h 65 24 (nI (p + 1))) := nfr_hu h _ (by omega)
      exact ih (p + 1) fu _ (by omega) (by omega) (hu_same _ _ _ _) (MTp_nfr HT f1 (by omega)) (fun h1 f2 r => hQ h1 (nfr_tr f1 f2) r)
    by_cases c1 : T.2 p = 32
    · exact Sp_pos (t32.mpr c1) (go (by rw [c1]; decide))
    refine Sp_neg (fun z => c1 (t32.mp z)) ?_
    dsimp only
    rw [show h 65 24 = nI p from h24]
    refine Sp_eq (byteAt_eq HT B (by omega)) ?_
    rw [if_pos hpn]
    by_cases c2 : T.2 p = 10
    · exact Sp_pos (t10.mpr c2) (go (by rw [c2]; decide))
    refine Sp_neg (fun z => c2 (t10.mp z)) (Sp_let ?_)
    have cw : ¬ tws (T.2 p) = true := by unfold tws; simp; exact ⟨c1, c2⟩
    rw [if_neg cw] at hQ
    dsimp only
    rw [hu_k _ _ _ _ (by decide), show h 65 24 = nI p from h24]
    have f1 : nfr 24 27 h (hu h 65 26 (nI p)) := nfr_hu h _ (by omega)
    have HT1 := MTp_nfr HT f1 (by omega)
    refine Sp_eq (byteAt_eq HT1 B (by omega)) ?_
    rw [if_pos hpn]
    refine Sp_let (Sp_neg (nI_pos (by omega)) ?_)
    dsimp only
    have f2 : nfr 24 27 h (hu (hu h 65 26 (nI p)) 65 25 4) := nfr_tr f1 (nfr_hu _ _ (by omega))
    generalize hh : hu (hu h 65 26 (nI p)) 65 25 4 = h2 at f2
    have HT2 := MTp_nfr HT f2 (by omega)
    have e24 : h2 65 24 = nI p := by rw [← hh, hu_k _ _ _ _ (by decide), hu_k _ _ _ _ (by decide)]; exact h24
    have e26 : h2 65 26 = nI p := by rw [← hh, hu_k _ _ _ _ (by decide), hu_same]
    have e25 : h2 65 25 = 4 := by rw [← hh, hu_same]
    have qe := qend_gt hpn
    have qx : qnt T p = qskip T (qend T p) := by unfold qnt; rw [if_pos hpn]
    refine Sp_eq (in97 (by omega) h2) ?_
    dsimp only
    by_cases cs : tsm (T.2 p) = true
    · have cd : ¬ tdg (T.2 p) = true := by
        unfold tsm at cs; unfold tdg
        have := of_decide_eq_true cs
        rw [decide_eq_true_eq]; omega
      have ee : qend T p = rn (fun i => tsm (T.2 i)) (T.1 - (p + 1)) (p + 1) := by unfold qend; rw [if_neg cd, if_pos cs]
      have ee' : qend T p = rn (fun i => tsm (T.2 i)) (m + 1) p := by rw [ee, rn_s, if_pos cs, show T.1 - (p + 1) = m by omega]
      refine Sp_neg (b2i_ne _ cs) (names95 B (q := p) (m + 1) p gfu h2 hp (by unfold gfu; omega) e24 e26 HT2 (fun h3 f3 r3 => ?_))
      rw [← ee'] at r3
      have f23 : nfr 24 27 h h3 := nfr_tr f2 (nfr_w f3 (by omega))
      have HT3 := MTp_nfr HT f23 (by omega)
      have d26 : h3 65 26 = nI p := by rw [f3.2 26 (by omega)]; exact e26
      have fin : ∀ v : Int32, (v = -1 → qkd T p = 4) → (¬ v = -1 → v = 8 ∧ qkd T p = 3 ∨ ∃ x, v = nI x ∧ x < 8 ∧ x = qvl T p ∧ qkd T p = 2) → Sp (fM_next_169 v h3) Q := by
        intro v hm hv
        unfold fM_next_169
        refine Sp_let ?_
        rw [hu_same]
        by_cases cm : v = -1
        · refine Sp_pos cm (Sp_some (hQ _ (nfr_tr f23 (nfr_tr (nfr_hu _ _ (by omega)) (nfr_hu _ _ (by omega)))) ⟨by omega, ?_, ?_, qend T p, qe.2, ?_, fun z => absurd (hm cm) z⟩))
          · rw [hu_k _ _ _ _ (by decide), hu_k _ _ _ _ (by decide)]; exact d26
          · rw [hm cm]
            exact ⟨fun z => absurd z (by decide), fun z => absurd z (by decide), fun z => absurd z (by decide), fun z => absurd z (by decide), fun _ => hu_same _ _ _ _, fun z => absurd z (by decide)⟩
          · rw [hu_k _ _ _ _ (by decide), hu_k _ _ _ _ (by decide)]; exact r3
        · refine Sp_neg cm (Sp_some (hQ _ (nfr_tr f23 (nfr_tr (nfr_hu _ _ (by omega)) (nfr_hu _ _ (by omega)))) ⟨by omega, ?_, ?_, qend T p, qe.2, ?_, fun _ => qx.symm⟩))
          · rw [hu_k _ _ _ _ (by decide), hu_k _ _ _ _ (by decide)]; exact d26
          · rcases hv cm with ⟨a, b⟩ | ⟨x, a, b, c, d⟩
            · rw [b]
              exact ⟨fun z => absurd z (by decide), fun z => absurd z (by decide), fun z => absurd z (by decide), fun _ => ⟨hu_same _ _ _ _, by rw [hu_k _ _ _ _ (by decide), hu_same]; exact a⟩, fun z => absurd z (by decide), fun z => absurd z (by decide)⟩
            · rw [d, ← c]
              exact ⟨fun z => absurd z (by decide), fun z => absurd z (by decide), fun _ => ⟨hu_same _ _ _ _, by rw [hu_k _ _ _ _ (by decide), hu_same]; exact a, b⟩, fun z => absurd z (by decide), fun z => absurd z (by decide), fun z => absurd z (by decide)⟩
          · rw [hu_k _ _ _ _ (by decide), hu_k _ _ _ _ (by decide)]; exact r3
      have s97 : 97 ≤ T.2 p ∧ T.2 p ≤ 122 := by unfold tsm at cs; exact of_decide_eq_true cs
      have vv : qvl T p = T.2 p - 97 := by unfold qvl; rw [if_neg cd]
      have dd : Sp (fM_next_156 h3) Q ∨ qend T p = p + 1 ∧ T.2 p < 105 := by
        by_cases k1 : qend T p = p + 1 ∧ T.2 p < 105
        · exact Or.inr k1
        left
        unfold fM_next_156
        refine Sp_eq (dist_eq B HT3 r3 d26 qe.2 (by omega)) ?_
        dsimp only
        have kd : qkd T p = if qend T p - p = 8 ∧ qis T p = true then 3 else 4 := by
          unfold qkd
          rw [if_pos hpn, if_neg cd, if_pos cs]
          by_cases k2 : qend T p - p = 1
          · rw [if_pos k2, if_neg (fun z => k1 ⟨by omega, z⟩), if_neg (by omega)]
          · rw [if_neg k2]
        by_cases k3 : qend T p - p = 8 ∧ qis T p = true
        · rw [if_pos k3] at kd
          rw [decide_eq_true (show qend T p = p + 8 by omega), k3.2]
          refine Sp_neg (by decide) (fin 8 (fun z => absurd z (by decide)) (fun _ => Or.inl ⟨rfl, kd⟩))
        · rw [if_neg k3] at kd
          refine Sp_pos ?_ (fin (-1) (fun _ => kd) (fun z => absurd rfl z))
          cases hi : qis T p
          · rw [Bool.and_false]; rfl
          · rw [decide_eq_false (fun z => k3 ⟨by omega, hi⟩)]; rfl
      rw [show h3 65 24 = nI (qend T p) from r3, d26, nad1 p]
      rcases dd with dd | dd
      · by_cases k1 : qend T p = p + 1
        · refine Sp_pos (by rw [k1]) ?_
          by_cases k2 : T.2 p < 105
          · refine Sp_neg (fun z => absurd ((n104 (by omega)).mp z) (by omega)) ?_
            rw [show nI (T.2 p) - (97 : Int32) = nI (T.2 p - 97) from nsub (a := T.2 p) (b := 97) (by omega)]
            refine fin _ (fun z => absurd z (neq_m1 (by omega))) (fun _ => Or.inr ⟨T.2 p - 97, rfl, by omega, vv.symm, ?_⟩)
            unfold qkd
            rw [if_pos hpn, if_neg cd, if_pos cs, if_pos (show qend T p - p = 1 by omega), if_pos k2]
          · exact Sp_pos ((n104 (by omega)).mpr (by omega)) dd
        · exact Sp_neg (fun z => k1 ((nI_eq (by omega) (by omega)).mp z)) dd
      · refine Sp_pos (by rw [dd.1]) (Sp_neg (fun z => absurd ((n104 (by omega)).mp z) (by omega)) ?_)
        rw [show nI (T.2 p) - (97 : Int32) = nI (T.2 p - 97) from nsub (a := T.2 p) (b := 97) (by omega)]
        refine fin _ (fun z => absurd z (neq_m1 (by omega))) (fun _ => Or.inr ⟨T.2 p - 97, rfl, by omega, vv.symm, ?_⟩)
        unfold qkd
        rw [if_pos hpn, if_neg cd, if_pos cs, if_pos (show qend T p - p = 1 by omega), if_pos dd.2]
    · refine Sp_pos (by rw [Bool.eq_false_iff.mpr cs]; rfl) (Sp_eq (in48 (by omega) h2) ?_)
      dsimp only
      by_cases cd : tdg (T.2 p) = true
      · have ee : qend T p = rn (fun i => tdg (T.2 i)) (T.1 - (p + 1)) (p + 1) := by unfold qend; rw [if_pos cd]
        have ee' : qend T p = rn (fun i => tdg (T.2 i)) (m + 1) p := by rw [ee, rn_s, if_pos cd, show T.1 - (p + 1) = m by omega]
        refine Sp_neg (b2i_ne _ cd) ?_
        have f3 : nfr 24 27 h (hu h2 65 27 0) := nfr_tr f2 (nfr_hu _ _ (by omega))
        have x0 := digits213 B (q := p) (Q := Q) (m + 1) 0 gfu (hu h2 65 27 0) (by omega) (by unfold gfu; omega) ((hu_k _ _ _ _ (by decide)).trans e24) (hu_same _ _ _ _) (MTp_nfr HT f3 (by omega)) (fun h4 f4 g26 g24 g25 g27 => ?_)
        · rw [nI_0] at x0; exact x0
        · rw [show p + 0 = p from rfl, ← ee'] at g24 g25 g27
          refine hQ h4 (nfr_tr f3 f4) ⟨by omega, ?_, ?_, qend T p, qe.2, g24, fun _ => qx.symm⟩
          · rw [g26, hu_k _ _ _ _ (by decide)]; exact e26
          · have kd : qkd T p = if 4 < qend T p - p then 4 else 1 := by unfold qkd; rw [if_pos hpn, if_pos cd]
            have kv : qvl T p = qnum T (qend T p - p) p 0 := by unfold qvl; rw [if_pos cd]
            by_cases c4 : 4 < qend T p - p
            · rw [if_pos c4] at kd g25
              rw [kd]
              exact ⟨fun z => absurd z (by decide), fun z => absurd z (by decide), fun z => absurd z (by decide), fun z => absurd z (by decide), fun _ => g25, fun z => absurd z (by decide)⟩
            · rw [if_neg c4] at kd g25
              rw [Nat.min_eq_left (by omega)] at g27
              rw [kd, kv]
              exact ⟨fun z => absurd z (by decide), fun _ => ⟨g25, g27⟩, fun z => absurd z (by decide), fun z => absurd z (by decide), fun z => absurd z (by decide), fun z => absurd z (by decide)⟩
      · have ee : qend T p = p + 1 := by unfold qend; rw [if_neg cd, if_neg cs]
        refine Sp_pos (by rw [Bool.eq_false_iff.mpr cd]; rfl) (Sp_eq (sign_eq hb h2) ?_)
        dsimp only
        have kd : qkd T p = if tsg (T.2 p) = true then T.2 p else 4 := by unfold qkd; rw [if_pos hpn, if_neg cd, if_neg cs]
        by_cases cg : tsg (T.2 p) = true
        · rw [if_pos cg] at kd
          have hg := tsg_le cg
          refine Sp_neg (b2i_ne _ cg) (Sp_let (Sp_let (Sp_some ?_)))
          rw [hu_k _ _ _ _ (by decide), hu_k _ _ _ _ (by decide), e24, nadd_l p 1]
          refine hQ _ (nfr_tr f2 (nfr_tr (nfr_hu _ _ (by omega)) (nfr_tr (nfr_hu _ _ (by omega)) (nfr_hu _ _ (by omega))))) ⟨by omega, ?_, ?_, p + 1, by omega, hu_same _ _ _ _, fun _ => by rw [qx, ee]⟩
          · rw [hu_k _ _ _ _ (by decide), hu_k _ _ _ _ (by decide), hu_k _ _ _ _ (by decide)]; exact e26
          · rw [kd]
            refine ⟨fun z => by omega, fun z => by omega, fun z => by omega, fun z => by omega, fun z => by omega, fun _ => ⟨?_, ?_, hg.2⟩⟩
            · rw [hu_k _ _ _ _ (by decide), hu_k _ _ _ _ (by decide), hu_same]
            · rw [hu_k _ _ _ _ (by decide), hu_same]
        · rw [if_neg cg] at kd
          refine Sp_pos (by rw [Bool.eq_false_iff.mpr cg]; rfl) (Sp_some (hQ _ f2 ⟨by omega, e26, ?_, p, by omega, e24, fun z => absurd kd z⟩))
          rw [kd]
          exact ⟨fun z => absurd z (by decide), fun z => absurd z (by decide), fun z => absurd z (by decide), fun z => absurd z (by decide), fun _ => e25, fun z => absurd z (by decide)⟩
theorem next_sp {T : qTp} (B : TpB T) {h : gH} (HT : MTp h T) {p : Nat} (hp : p ≤ T.1) (h24 : h 65 24 = nI p) : Sp (fM_next h) (fun h1 => nfr 24 27 h h1 ∧ RT h1 T (qskip T p)) := by
  unfold fM_next
  exact next0 B (T.1 - p) p gfu h (by omega) (by have := B.1; unfold gfu; omega) h24 HT (fun h1 f r => ⟨f, r⟩)
/-- from a token to the next -/
theorem next_rt {T : qTp} (B : TpB T) {h : gH} (HT : MTp h T) {q : Nat} (H : RT h T q) (h4 : ¬ qkd T q = 4) : Sp (fM_next h) (fun h1 => nfr 24 27 h h1 ∧ RT h1 T (qnt T q)) := by
  obtain ⟨-, -, -, p, hp, e, k⟩ := H
  have := next_sp B HT hp e
  rw [k h4] at this
  exact this
