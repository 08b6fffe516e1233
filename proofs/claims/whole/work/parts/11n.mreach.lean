/-! reach of the reference -/
theorem AS_dec {h0 h h1 : gH} {S : qW} {P : qP} (A : AS h0 S.1 S.2.1 h) (M : MP h1 (Et S.1) S.1.2.2.2 true S.2.1.1.2.2.2 P) (fr : gfr [66, 74, 75, 71] [(65, 35), (65, 15), (65, 2)] h h1) (z : ZB h1) : AS h0 S.1 S.2.1 h1 := by
  obtain ⟨s1, s2, s3, s4, s5, s6, s7, s8, -, s10⟩ := A
  obtain ⟨⟨-, m1⟩, -, m3, m4⟩ := M
  exact ⟨fun x hx => by rw [gfr_row fr 89 rfl rfl]; exact s1 x hx, fun r hr => by rw [gfr_row fr 90 rfl rfl]; exact s2 r hr, (gfr_fld fr 65 57 rfl rfl).trans s3, m3, m4, m1, MD_fr s7 (gfr_fld fr 65 12 rfl rfl) (gfr_row fr 72 rfl rfl) (gfr_row fr 73 rfl rfl), MLv_fr s8 (gfr_fld fr 65 19 rfl rfl) (gfr_row fr 76 rfl rfl) (gfr_row fr 77 rfl rfl) (gfr_row fr 78 rfl rfl), z, (gfr_fld fr 65 20 rfl rfl).trans s10⟩
theorem mrch30 {S : qW} (W : WI S) {x : Nat} (hx : x < 8) {w : Nat} (hw : w < 2) : ∀ (m k fu : Nat) (h : gH), k + m = 10 → m + 1 < fu → BM h S → Sp (fM_reach_30 (nI x) (nI w) fu (-1) (nI k) h) (fun p => p.1 = rch S x (nI w) m k ∧ BM p.2 S) := by
  intro m
  induction m with
  | zero =>
    intro k fu h hk hfu H
    obtain ⟨fu, rfl⟩ : ∃ f, fu = f + 1 := ⟨fu - 1, by omega⟩
    have : k = 10 := by omega
    subst this
    unfold fM_reach_30 rch
    exact Sp_neg (by decide) (Sp_some ⟨rfl, H⟩)
  | succ m ih =>
    intro k fu h hk hfu H
    obtain ⟨fu, rfl⟩ : ∃ f, fu = f + 1 := ⟨fu - 1, by omega⟩
    -- once an answer is there
    have dn : ∀ (v : Int32) (h' : gH), v ≠ -1 → fM_reach_30 (nI x) (nI w) fu v (nI (k + 1)) h' = some (v, h') := by
      intro v h' hv
      obtain ⟨fu, rfl⟩ : ∃ f, fu = f + 1 := ⟨fu - 1, by omega⟩
      unfold fM_reach_30
      by_cases a : nI (k + 1) < 10
      · rw [if_pos a, if_neg hv]
      · rw [if_neg a]
    have st : ∀ v, v = rcv (nI w) k → v < 10 → Sp (fM_reach_56 (fM_reach_30 (nI x) (nI w) fu) (nI x) (nI w) (nI k) (nI v) h) (fun p => p.1 = rch S x (nI w) (m + 1) k ∧ BM p.2 S) := by
      intro v ev hv
      unfold fM_reach_56 rch
      rw [← ev]
      refine Sp_bind (Sp_and (AS_aside H.1 H.2.2.2.2) (fun _ e => fM_laysAside2_fr e)) (fun h1 _ q => ?_)
      obtain ⟨⟨q1, q2, q3, q4⟩, fr1⟩ := q
      -- back again, with what was found
      have bk : ∀ (h2 : gH) (s : Int32) (Q : Int32 × gH → Prop), AS h S.1 S.2.1 h2 → (∀ b, ¬ (65 ≤ b ∧ b ≤ 78) → ¬ (80 ≤ b ∧ b ≤ 90) → h2 b = h b) → (∀ k, k = 22 ∨ (70 ≤ k ∧ k ≤ 76) → h2 65 k = h 65 k) → (∀ h3, BM h3 S → Sp (if s = 1 then fM_reach_144 (fM_reach_30 (nI x) (nI w) fu) (nI x) (nI w) (nI k) s (nI v) h3 else fM_reach_144 (fM_reach_30 (nI x) (nI w) fu) (nI x) (nI w) (nI k) s s h3) Q) → Sp (fM_reach_125 (fM_reach_30 (nI x) (nI w) fu) (nI x) (nI w) (nI k) (nI v) s h2) Q := by
        intro h2 s Q A b f hQ
        unfold fM_reach_125
        refine Sp_bind (AS_back A H.1) (fun h3 _ r => ?_)
        obtain ⟨r1, r2, r3, r4⟩ := r
        refine hQ h3 (BM_go H r1 r2 (fun c c1 c2 => ?_) (fun k hk => ?_))
        · rw [r3 c (by omega) (by omega) (by omega)]; exact b c c1 c2
        · rw [r4 k (by omega) (by omega)]; exact f k hk
      have w1 : ∀ b, ¬ (65 ≤ b ∧ b ≤ 78) → ¬ (80 ≤ b ∧ b ≤ 90) → h1 b = h b := fun b b1 b2 => q3 b (by omega) (by omega) (by omega)
      have w2 : ∀ k, k = 22 ∨ (70 ≤ k ∧ k ≤ 76) → h1 65 k = h 65 k := fun k hk => q4 k (by omega) (by omega)
      have no : Sp (fM_reach_88 (fM_reach_30 (nI x) (nI w) fu) (nI x) (nI w) (nI k) (nI v) h1) (fun p => p.1 = rch S x (nI w) m (k + 1) ∧ BM p.2 S) := by
        unfold fM_reach_88 fM_reach_89
        refine Sp_pos rfl ?_
        unfold fM_reach_106
        refine Sp_pos rfl (bk h1 0 _ q1 w1 w2 (fun h3 H3 => Sp_neg (by decide) ?_))
        unfold fM_reach_144
        refine Sp_pos rfl ?_
        rw [nadd_l k 1]
        exact ih (k + 1) fu h3 (by omega) (by omega) H3
      cases hf : S.2.1.1.2.2.1 with
      | true =>
        rw [if_neg (show ¬ (!true && S.2.1.1.1 x v) = true by rw [Bool.not_true, Bool.false_and]; decide)]
        exact Sp_neg (by rw [q2.2.1.2.2, hf]; decide) no
      | false =>
        refine Sp_pos (by rw [q2.2.1.2.2, hf]; rfl) (Sp_gg (gin_t (by omega) (by omega)) ?_)
        rw [clampn (show x < 2 ^ 31 by omega), q2.2.1.1 x hx, mkn_test (by decide) hv]
        cases hd : S.2.1.1.1 x v with
        | false =>
          rw [if_neg (show ¬ (!false && false) = true by decide)]
          exact Sp_neg (by decide) no
        | true =>
          rw [if_pos (show (!false && true) = true from rfl)]
          refine Sp_pos (by decide) ?_
          unfold fM_reach_89
          obtain ⟨i1, i2⟩ := rgo_i (v := v) W hx hf
          refine Sp_neg (by decide) (Sp_bind (Sp_and (mdec hx (sbit v) q2 ((KI_PI W.2.1).1 hf x hx) hf) (fun _ e => fM_decides_zb q1.2.2.2.2.2.2.2.2.1 e)) (fun h2 _ d => ?_))
          obtain ⟨⟨d1, fr2⟩, z2⟩ := d
          have A2 := AS_dec q1 d1 fr2 z2
          unfold fM_reach_106
          refine Sp_neg (by decide) (Sp_bind (Sp_and (M_searched (ch := 0) (pk := 0) (mo := 100) (ln := false) (al := false) (by decide) (by decide) (by decide) A2 d1 i1 i2) (fun _ e => fM_searched_fr e)) (fun p3 _ g => ?_))
          obtain ⟨⟨g1, g2, -⟩, fr3⟩ := g
          have w3 : ∀ b, ¬ (65 ≤ b ∧ b ≤ 78) → ¬ (80 ≤ b ∧ b ≤ 90) → p3.2 b = h b := fun b b1 b2 => by
            rw [show p3.2 b = h2 b from funext fun k => fr3 b k (by simp; omega) (by simp; omega), show h2 b = h1 b from funext fun k => fr2 b k (by simp; omega) (by simp; omega)]
            exact w1 b b1 b2
          have w4 : ∀ k, k = 22 ∨ (70 ≤ k ∧ k ≤ 76) → p3.2 65 k = h 65 k := fun k hk => by
            rw [fr3 65 k (by simp) (by simp; omega), fr2 65 k (by simp) (by simp; omega)]
            exact w2 k hk
          have fd := go_fnd S i1 i2 0 0 100 false
          rw [g1]
          show Sp _ (fun p : Int32 × gH => p.1 = (if (s_go S (qnw (Et S.1) x (sbit v) 100 S.2.1.1) 0 0 100 false false).1 = 2 then -6 else if (s_go S (qnw (Et S.1) x (sbit v) 100 S.2.1.1) 0 0 100 false false).1 = 1 then nI v else rch S x (nI w) m (k + 1)) ∧ BM p.2 S)
          generalize s_go S (qnw (Et S.1) x (sbit v) 100 S.2.1.1) 0 0 100 false false = r at fd
          refine bk p3.2 _ _ g2 w3 w4 (fun h3 H3 => ?_)
          rcases fd.2.2 with r0 | r1 | r2
          · rw [r0, if_neg (show ¬ 0 = 2 by decide), if_neg (show ¬ 0 = 1 by decide)]
            refine Sp_neg (by decide) ?_
            unfold fM_reach_144
            refine Sp_pos rfl ?_
            rw [nadd_l k 1]
            exact ih (k + 1) fu h3 (by omega) (by omega) H3
          · rw [r1, if_neg (show ¬ 1 = 2 by decide), if_pos (show 1 = 1 from rfl)]
            refine Sp_pos rfl ?_
            unfold fM_reach_144
            refine Sp_neg (by decide) ?_
            rw [nadd_l k 1, dn (nI v) h3 (fun z => ?_)]
            · exact Sp_some ⟨rfl, H3⟩
            · have z := congrArg Int32.toInt z
              rw [nI_toInt (by omega), show (-1 : Int32).toInt = -1 by decide] at z
              omega
          · rw [r2, if_pos (show 2 = 2 from rfl)]
            refine Sp_neg (by decide) ?_
            unfold fM_reach_144
            refine Sp_neg (by decide) ?_
            rw [nadd_l k 1, dn _ h3 (by decide)]
            exact Sp_some ⟨rfl, H3⟩
    unfold fM_reach_30
    refine Sp_pos (nltT (show k < 10 by omega) (by decide)) (Sp_pos rfl ?_)
    have w2 : w = 0 ∨ w = 1 := by omega
    rcases w2 with e | e <;> subst e
    · exact Sp_pos rfl (st k rfl (by omega))
    · refine Sp_neg (by decide) ?_
      rw [show (9 : Int32) - nI k = nI (9 - k) from nsub (a := 9) (b := k) (by omega)]
      exact st (9 - k) rfl (by omega)
theorem M_reach {h : gH} {S : qW} (H : BM h S) (W : WI S) (v1 v2 : Int32) : Sp (fM_reach v1 v2 h) (fun p => p.1 = s_reach S v1 v2 ∧ BM p.2 S) := by
  unfold fM_reach s_reach
  refine Sp_eq (fM_in_eq (n := 8) (by decide) v1 h) ?_
  dsimp only
  rcases vin_cases 8 (by decide) v1 with ⟨x, hx, e1, e⟩ | ⟨e, -⟩
  · subst e1
    rw [e, vis_nI hx (by decide)]
    refine Sp_neg (by decide) (Sp_eq (fM_in_eq (n := 2) (by decide) v2 h) ?_)
    dsimp only
    cases c : vis 2 v2 with
    | false =>
      rw [if_neg (show ¬ false = true by decide)]
      exact Sp_pos rfl (Sp_some ⟨rfl, H⟩)
    | true =>
      rw [if_pos (show true = true from rfl)]
      obtain ⟨w, hw, e2⟩ := vis_some (by decide) c
      subst e2
      have x0 := mrch30 W hx hw 10 0 gfu h rfl (by unfold gfu; omega) H
      rw [nI_0] at x0
      exact Sp_neg (by decide) x0
  · rw [e, vis_none e]
    exact Sp_pos rfl (Sp_some ⟨rfl, H⟩)
