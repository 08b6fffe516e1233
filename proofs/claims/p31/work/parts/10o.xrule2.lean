/-! .. entered -/
theorem tpl_le {T : qTp} {q : Nat} {V : Nat → Bool} (hq : q ≤ T.1) : tpl T q V ≤ T.1 := by
  have h1 := (PG_sum (PG_lv T 5) q V hq).2.1
  have h2 := (PG_sum (PG_lv T 5) (qnt T (ts1 T q V).2.1) (ts1 T q V).2.2.1 (qnt_le _)).2.1
  unfold tpl
  split
  · exact h2
  · exact h1
/-- a fault lies within the text -/
theorem rd_le (T : qTp) : (qrd T).2.1 ≤ T.1 := by
  have hq0 := (qskip_ge (T := T) (Nat.zero_le _)).2
  unfold qrd
  split
  · unfold qds
    split
    · unfold qds3
      split
      · unfold qds2
        split
        · exact qnt_le _
        · split
          · unfold qds1
            split
            · exact qnt_le _
            · exact qnt_le _
          · exact qnt_le _
      · exact qnt_le _
    · exact qnt_le _
  · split
    · unfold qrf
      split
      · exact tpl_le (qnt_le _)
      · exact tpl_le (qnt_le _)
    · unfold qpl
      split
      · exact tpl_le hq0
      · exact tpl_le hq0
theorem XHo_fr {h h1 : gH} {V : Nat → Bool} {f : (Nat → Int32) → Bool} (H : XHo h V f) (a : h1 15 = h 15) (b : ∀ k, 9 ≤ k → k ≤ 13 → h1 10 k = h 10 k) : XHo h1 V f := fun h' h15 h10 env => H h' (h15.trans a) (fun k k1 k2 => (h10 k k1 k2).trans (b k k1 k2)) env
theorem add_sp {h : gH} {n kd : Nat} {V : Nat → Bool} {f : (Nat → Int32) → Bool} (hn : n < 16) (h18 : h 1 8 = nI n) (e10 : h 10 10 = nI kd) (e11 : h 10 11 = mkn 8 V) (hx : XHo h V f) (hag : ∀ e e2, agr V e e2 → f e = f e2) (hc : (vls V).length ≤ 3) (h5 : ∀ x, x < 8 → h 5 x = mkn 24 (bt (h 5 x))) (Ts : Nat → Nat → Nat → Bool) : Sp (fR_add h) (fun p => p.1 = nI n ∧ p.2 1 8 = nI (n + 1) ∧ (p.2 2 n = nI kd ∧ ∀ i, i ≠ n → p.2 2 i = h 2 i) ∧ (p.2 3 n = mkn 8 V ∧ ∀ i, i ≠ n → p.2 3 i = h 3 i) ∧ (p.2 4 n = nI ((vls V).length + kd) ∧ ∀ i, i ≠ n → p.2 4 i = h 4 i) ∧ (∀ x, x < 8 → p.2 5 x = mkn 24 (fun i => if i = n then V x else bt (h 5 x) i)) ∧ ((∀ j, j < 3 → p.2 6 (3 * n + j) = nI (slt V j)) ∧ ∀ q, q < 3 * n ∨ 3 * n + 3 ≤ q → p.2 6 q = h 6 q) ∧ ((∀ i, i < 100 → p.2 7 (100 * n + i) = mkn 10 (Wof (vls V).length (tabW f V Ts) (i / 10) (i % 10))) ∧ ∀ i, i < 100 * n ∨ 100 * n + 100 ≤ i → p.2 7 i = h 7 i) ∧ ∀ b, b ≠ 1 → b ≠ 2 → b ≠ 3 → b ≠ 4 → b ≠ 5 → b ≠ 6 → b ≠ 7 → b ≠ 9 → b ≠ 16 → p.2 b = h b) := by
  unfold fR_add
  refine Sp_let ?_
  rw [h18, hu_ne (show (10 : Nat) ≠ 1 by decide), e10]
  refine Sp_gg (gin_t hn (by omega)) (Sp_let ?_)
  rw [nadd_l n 1, clampn (by omega), hu_ne (show (10 : Nat) ≠ 2 by decide), hu_ne (show (10 : Nat) ≠ 1 by decide), e11]
  refine Sp_eq (bitCount_eq _ _) ?_
  dsimp only
  rw [bc_mkn (by decide), ← vls_len, hu_ne (show (10 : Nat) ≠ 2 by decide), hu_ne (show (10 : Nat) ≠ 1 by decide), e10, nI_add]
  generalize hh : hu (hu h 1 8 (nI (n + 1))) 2 n (nI kd) = h4
  have b4 : ∀ b, b ≠ 1 → b ≠ 2 → h4 b = h b := fun b b1 b2 => by rw [← hh, hu_ne b2, hu_ne b1]
  have a18 : h4 1 8 = nI (n + 1) := by rw [← hh, hu_ne (by decide), hu_same]
  have a2 : h4 2 n = nI kd ∧ ∀ i, i ≠ n → h4 2 i = h 2 i := ⟨by rw [← hh, hu_same], fun i hi => by rw [← hh, hu_k _ _ _ _ hi, hu_ne (by decide)]⟩
  -- entered
  have en : Sp (fR_enter (nI n) (mkn 8 V) (nI ((vls V).length + kd)) h4) (fun h8 => (h8 3 n = mkn 8 V ∧ ∀ i, i ≠ n → h8 3 i = h 3 i) ∧ (h8 4 n = nI ((vls V).length + kd) ∧ ∀ i, i ≠ n → h8 4 i = h 4 i) ∧ (∀ x, x < 8 → h8 5 x = mkn 24 (fun i => if i = n then V x else bt (h 5 x) i)) ∧ ∀ b, b ≠ 3 → b ≠ 4 → b ≠ 5 → h8 b = h4 b) := by
    unfold fR_enter
    refine Sp_gg (gin_t (by omega) (by omega)) (Sp_let (Sp_gg (gin_t (by omega) (by omega)) (Sp_let ?_)))
    rw [clampn (by omega), ← nI_0]
    have k5 : ∀ x, hu (hu h4 3 n (mkn 8 V)) 4 n (nI ((vls V).length + kd)) 5 x = h 5 x := fun x => by rw [hu_ne (by decide), hu_ne (by decide), b4 5 (by decide) (by decide)]
    refine Sp_mono (enter17 (show n < 24 by omega) (h0 := hu (hu h4 3 n (mkn 8 V)) 4 n (nI ((vls V).length + kd))) (fun x hx => by rw [k5]; exact h5 x hx) 8 0 gfu _ (by omega) (by unfold gfu; omega) (fun x hx => absurd hx (Nat.not_lt_zero _)) (fun _ _ => rfl) (fun _ _ => rfl)) (fun h8 q => ?_)
    obtain ⟨q1, q2⟩ := q
    refine ⟨⟨?_, fun i hi => ?_⟩, ⟨?_, fun i hi => ?_⟩, fun x hx => ?_, fun b b3 b4' b5 => ?_⟩
    · rw [q2 3 (by decide), hu_ne (by decide), hu_same]
    · rw [q2 3 (by decide), hu_ne (by decide), hu_k _ _ _ _ hi, b4 3 (by decide) (by decide)]
    · rw [q2 4 (by decide), hu_same]
    · rw [q2 4 (by decide), hu_k _ _ _ _ hi, hu_ne (by decide), b4 4 (by decide) (by decide)]
    · rw [q1 x hx]
      refine mkn_congr (fun i _ => ?_)
      rw [k5]
    · rw [q2 b b5, hu_ne b4', hu_ne b3]
  refine Sp_bind en (fun h8 _ q8 => ?_)
  obtain ⟨c3, c4, c5, c0⟩ := q8
  refine Sp_bind (fillSlots_sp hn hc c3.1) (fun h10 _ q10 => ?_)
  obtain ⟨d1, d2, d3⟩ := q10
  have hx10 : XHo h10 V f := XHo_fr hx (by rw [d3 15 (by decide), c0 15 (by decide) (by decide) (by decide), b4 15 (by decide) (by decide)]) (fun k k1 k2 => by rw [d3 10 (by decide), c0 10 (by decide) (by decide) (by decide), b4 10 (by decide) (by decide)])
  have f7 : h10 7 = h 7 := by rw [d3 7 (by decide), c0 7 (by decide) (by decide) (by decide), b4 7 (by decide) (by decide)]
  have f6 : ∀ q, q < 3 * n ∨ 3 * n + 3 ≤ q → h10 6 q = h 6 q := fun q hq => by rw [d2 q hq, c0 6 (by decide) (by decide) (by decide), b4 6 (by decide) (by decide)]
  -- and its ways
  have wy : Sp (fR_fillWays (nI n) h10) (fun h12 => wfx h10 h12 ∧ (∀ i, i < 100 → h12 7 (100 * n + i) = mkn 10 (Wof (vls V).length (tabW f V Ts) (i / 10) (i % 10))) ∧ ∀ i, i < 100 * n ∨ 100 * n + 100 ≤ i → h12 7 i = h10 7 i) := by
    unfold fR_fillWays
    have e0 : h10 6 (3 * n) = nI (slt V 0) := d1 0 (by omega)
    rw [show nI n * (3 : Int32) = nI (3 * n) by rw [show nI n * (3 : Int32) = nI (n * 3) from nmul n 3, Nat.mul_comm], show nI (3 * n) + (1 : Int32) = nI (3 * n + 1) from nI_add _ 1]
    refine Sp_gg (gin_t (by omega) (by omega)) (Sp_gg (gin_t (by omega) (by omega)) ?_)
    rw [clampn (by omega), clampn (by omega), e0, d1 1 (by omega), ← nI_0]
    exact ways24 hn hx10 hag hc Ts (d1 2 (by omega)) 100 0 gfu h10 (by omega) (by unfold gfu; omega) (fun _ _ _ _ => rfl) (fun i hi => absurd hi (Nat.not_lt_zero _)) (fun _ _ => rfl)
  refine Sp_bind wy (fun h12 _ q12 => Sp_some ?_)
  obtain ⟨w1, w2, w3⟩ := q12
  dsimp only
  have r8 : ∀ b, b ≠ 6 → b ≠ 7 → b ≠ 9 → b ≠ 16 → h12 b = h8 b := fun b b6 b7 b9 b16 => by rw [w1 b b7 b9 b16, d3 b b6]
  refine ⟨rfl, ?_, ⟨?_, fun i hi => ?_⟩, ⟨?_, fun i hi => ?_⟩, ⟨?_, fun i hi => ?_⟩, fun x hx => ?_, ⟨fun j hj => ?_, fun q hq => ?_⟩, ⟨w2, fun i hi => by rw [w3 i hi, f7]⟩, fun b b1 b2 b3 b4' b5 b6 b7 b9 b16 => ?_⟩
  · rw [r8 1 (by decide) (by decide) (by decide) (by decide), c0 1 (by decide) (by decide) (by decide)]; exact a18
  · rw [r8 2 (by decide) (by decide) (by decide) (by decide), c0 2 (by decide) (by decide) (by decide)]; exact a2.1
  · rw [r8 2 (by decide) (by decide) (by decide) (by decide), c0 2 (by decide) (by decide) (by decide)]; exact a2.2 i hi
  · rw [r8 3 (by decide) (by decide) (by decide) (by decide)]; exact c3.1
  · rw [r8 3 (by decide) (by decide) (by decide) (by decide)]; exact c3.2 i hi
  · rw [r8 4 (by decide) (by decide) (by decide) (by decide)]; exact c4.1
  · rw [r8 4 (by decide) (by decide) (by decide) (by decide)]; exact c4.2 i hi
  · rw [r8 5 (by decide) (by decide) (by decide) (by decide)]; exact c5 x hx
  · rw [w1 6 (by decide) (by decide) (by decide)]; exact d1 j hj
  · rw [w1 6 (by decide) (by decide) (by decide)]; exact f6 q hq
  · rw [r8 b b6 b7 b9 b16, c0 b b3 b4' b5, b4 b b1 b2]
theorem HP_E {h : gH} {o : Nat} {E E2 : qE} {P : qP} (H : HP h o E P) (e : Eact E = Eact E2) : HP h o E2 P := by
  unfold HP at H ⊢
  rw [← e]; exact H
theorem X_rule {h : gH} {S : qW} (H : AX h S) (W : WI S) (Ts : Nat → Nat → Nat → Bool) : Sp (fX_rule h) (fun p => p.1 = (s_rule S Ts).1 ∧ AX p.2 (s_rule S Ts).2) := by
  have B := WI_tp W
  have hn := W.1
  have h18 : h 1 8 = nI S.1.1 := H.1.1.2.2.1
  have h179 : h 17 9 = b2i S.2.1.1.2.2.1 := H.2.1.1.2.2.2.1
  unfold fX_rule
  by_cases c1 : S.1.1 = 16
  · rw [s_rule1 c1]
    exact Sp_neg (by rw [h18, c1]; decide) (Sp_some ⟨rfl, H⟩)
  refine Sp_pos (by rw [h18]; exact (nI_ltI (b := 16) (by omega) (by decide)).mpr (by omega)) ?_
  cases c2 : S.2.1.1.2.2.1 with
  | true =>
    rw [s_rule2 c1 c2]
    exact Sp_neg (by rw [h179, c2]; decide) (Sp_some ⟨rfl, H⟩)
  | false =>
    refine Sp_pos (by rw [h179, c2]; rfl) (Sp_bind (xread B H.2.2.2.1) (fun p _ g => Sp_let ?_))
    obtain ⟨g1, g2, g3⟩ := g
    have f3 : ∀ b, b ≠ 10 → ¬ (12 ≤ b ∧ b ≤ 15) → hu p.2 10 6 0 b = h b := fun b b1 b2 => by rw [hu_ne b1]; exact g1.1 b b1 b2
    cases c3 : (qrd S.2.2.2.1).1 with
    | false =>
      rw [s_rule4 c1 c2 c3]
      have e1 := g3 c3
      have tp : XTp (hu p.2 10 6 0) (0, S.2.2.2.1.2) := ⟨by rw [hu_same]; rfl, fun i hi => absurd hi (Nat.not_lt_zero _)⟩
      have nm := rd_le S.2.2.2.1
      have nb := B.1
      refine Sp_neg ?_ (Sp_some ⟨by rw [e1], ?_⟩)
      · rw [e1]
        exact neq_m1 (by omega)
      · show AX (hu p.2 10 6 0) _
        exact ⟨XRk_fr H.1 (fun b _ _ => f3 b (by omega) (by omega)), XC_fr H.2.1 (fun b _ _ => f3 b (by omega) (by omega)) (fun b _ _ => f3 b (by omega) (by omega)), XKp_fr H.2.2.1 (f3 0 (by omega) (by omega)) (fun b _ _ => f3 b (by omega) (by omega)), tp, XSh_fr H.2.2.2.2.1 (fun b _ _ => f3 b (by omega) (by omega)),
          ⟨by rw [f3 17 (by omega) (by omega)]; exact H.2.2.2.2.2.1.1, by rw [f3 45 (by omega) (by omega)]; exact H.2.2.2.2.2.1.2⟩,
          by have := H.2.2.2.2.2.2; unfold XTh at this ⊢; rw [f3 28 (by omega) (by omega), f3 33 (by omega) (by omega), f3 29 (by omega) (by omega), f3 34 (by omega) (by omega)]; exact this⟩
    | true =>
      rw [s_rule3 c1 c2 c3]
      obtain ⟨e1, e10, e11, ex⟩ := g2 c3
      obtain ⟨o1, o2, o3⟩ := rd_ok S.2.2.2.1 c3
      rw [← vls_len] at o1
      have ho := H.1.1
      obtain ⟨x1, x2, x3, x4, x5, x6, x7⟩ := ho
      refine Sp_pos e1 ?_
      have k10 : ∀ k, k ≠ 6 → hu p.2 10 6 0 10 k = p.2 10 k := fun k hk => hu_k _ _ _ _ hk
      refine Sp_bind (add_sp (n := S.1.1) (kd := (qrd S.2.2.2.1).2.2.1) (V := (qrd S.2.2.2.1).2.2.2.1) (f := (qrd S.2.2.2.1).2.2.2.2) (by omega) (by rw [f3 1 (by omega) (by omega)]; exact h18) (by rw [k10 10 (by decide)]; exact e10) (by rw [k10 11 (by decide)]; exact e11) (XHo_fr ex (hu_ne (by decide)) (fun k k1 k2 => k10 k (by omega))) o3 o1 (fun x hx => by rw [f3 5 (by omega) (by omega)]; exact (x7 x hx).1) Ts) (fun p5 _ q => ?_)
      obtain ⟨q1, q2, q3, q4, q5, q6, q7, q8, q9⟩ := q
      have all : fR_all p5.2 = some (mkn 24 (fun i => decide (i < S.1.1 + 1)), p5.2) := by unfold fR_all; rw [q2, all_mask _ (by omega)]
      refine Sp_eq all (Sp_let ?_)
      dsimp only
      have fr5 : ∀ b, b ≠ 10 → ¬ (12 ≤ b ∧ b ≤ 15) → ¬ (1 ≤ b ∧ b ≤ 7) → b ≠ 9 → b ≠ 16 → p5.2 b = h b := fun b b1 b2 b3 b4 b5 => by rw [q9 b (by omega) (by omega) (by omega) (by omega) (by omega) (by omega) (by omega) b4 b5]; exact f3 b b1 b2
      have e177 : p5.2 17 7 = mkn 24 S.2.1.1.2.1 := by rw [fr5 17 (by omega) (by omega) (by omega) (by omega) (by omega)]; exact H.2.1.1.2.2.1
      rw [hu_k _ _ _ _ (show (7 : Nat) ≠ 6 by decide), e177, q1, mkn_ins (by decide) (show S.1.1 < 24 by omega)]
      refine Sp_let (Sp_some ⟨rfl, ?_⟩)
      dsimp only
      generalize hh : hu (hu p5.2 17 6 (mkn 24 fun i => decide (i < S.1.1 + 1))) 17 7 (mkn 24 fun i => S.2.1.1.2.1 i || decide (i = S.1.1)) = h6
      have b6 : ∀ b, b ≠ 17 → h6 b = p5.2 b := fun b hb => by rw [← hh, hu_ne hb, hu_ne hb]
      have k17 : ∀ k, k ≠ 6 → k ≠ 7 → h6 17 k = h 17 k := fun k k6 k7 => by rw [← hh, hu_k _ _ _ _ k7, hu_k _ _ _ _ k6, fr5 17 (by omega) (by omega) (by omega) (by omega) (by omega)]
      have v6 : h6 17 6 = mkn 24 (fun i => decide (i < S.1.1 + 1)) := by rw [← hh, hu_k _ _ _ _ (by decide), hu_same]
      have v7 : h6 17 7 = mkn 24 (fun i => S.2.1.1.2.1 i || decide (i = S.1.1)) := by rw [← hh, hu_same]
      have fr6 : ∀ b, b ≠ 17 → b ≠ 10 → ¬ (12 ≤ b ∧ b ≤ 15) → ¬ (1 ≤ b ∧ b ≤ 7) → b ≠ 9 → b ≠ 16 → h6 b = h b := fun b b0 b1 b2 b3 b4 b5 => by rw [b6 b b0]; exact fr5 b b1 b2 b3 b4 b5
      have actN : Eact (Et (Rnew S.1 (qrd S.2.2.2.1) Ts)) = fun i => decide (i < S.1.1 + 1) := funext fun i => by rw [Eact_Et]; rfl
      refine ⟨⟨⟨by show S.1.1 + 1 ≤ 16; omega, Nat.zero_le _, ?_, fun q hq => ?_, fun j hj => absurd hj (Nat.not_lt_zero _), fun q hq => ?_, fun x hx => ?_⟩, fun q hq => ?_⟩, ⟨?_, ?_, XDo_fr H.2.1.2.2.1 (fun b _ _ => fr6 b (by omega) (by omega) (by omega) (by omega) (by omega) (by omega)), XLv_fr H.2.1.2.2.2 (fun b _ _ => fr6 b (by omega) (by omega) (by omega) (by omega) (by omega) (by omega))⟩, ?_, ⟨?_, fun i hi => absurd hi (Nat.not_lt_zero _)⟩, XSh_fr H.2.2.2.2.1 (fun b _ _ => fr6 b (by omega) (by omega) (by omega) (by omega) (by omega) (by omega)), ⟨?_, ?_⟩, ?_⟩
      · rw [b6 1 (by decide)]; exact q2
      · have hq : q < S.1.1 + 1 := hq
        show XRr h6 q (updg S.1.2.1 S.1.1 (qrd S.2.2.2.1).2.2.2.1 q) (updg S.1.2.2.1 S.1.1 (tabW (qrd S.2.2.2.1).2.2.2.2 (qrd S.2.2.2.1).2.2.2.1 Ts) q)
        unfold XRr
        rw [b6 3 (by decide), b6 6 (by decide), b6 7 (by decide)]
        by_cases e : q = S.1.1
        · subst e
          rw [updg_n, updg_n]
          refine ⟨q4.1, o1, q7.1, fun x hx y hy => ?_⟩
          have := q8.1 (10 * x + y) (by omega)
          rw [show (10 * x + y) / 10 = x by omega, show (10 * x + y) % 10 = y by omega, ← Nat.add_assoc] at this
          exact this
        · rw [updg_o _ _ e, updg_o _ _ e]
          have hq2 : q < S.1.1 := by omega
          obtain ⟨y1, y2, y3, y4⟩ := x4 q hq2
          have z3 : ∀ i, i ≠ S.1.1 → p5.2 3 i = h 3 i := fun i hi => by rw [q4.2 i hi, f3 3 (by omega) (by omega)]
          refine ⟨by rw [z3 q e]; exact y1, y2, fun j hj => ?_, fun x hx y hy => ?_⟩
          · rw [q7.2 _ (by omega), f3 6 (by omega) (by omega)]; exact y3 j hj
          · rw [q8.2 _ (by omega), f3 7 (by omega) (by omega)]; exact y4 x hx y hy
      · have hq : q < S.1.1 + 1 := by rw [actN] at hq; exact of_decide_eq_true hq
        show h6 4 q = nI ((vls (updg S.1.2.1 S.1.1 (qrd S.2.2.2.1).2.2.2.1 q)).length + updg S.1.2.2.2 S.1.1 (qrd S.2.2.2.1).2.2.1 q) ∧ (vls (updg S.1.2.1 S.1.1 (qrd S.2.2.2.1).2.2.2.1 q)).length + updg S.1.2.2.2 S.1.1 (qrd S.2.2.2.1).2.2.1 q < 100
        rw [b6 4 (by decide)]
        by_cases e : q = S.1.1
        · subst e
          rw [updg_n, updg_n]; exact ⟨q5.1, by omega⟩
        · rw [updg_o _ _ e, updg_o _ _ e, q5.2 q e, f3 4 (by omega) (by omega)]
          exact x6 q (by rw [Eact_Et]; exact decide_eq_true (show q < S.1.1 by omega))
      · rw [b6 5 (by decide), q6 x hx]
        refine ⟨mkn_of (by decide) (fun i hi h24 => by rw [bt_mkn (by decide), decide_eq_false (by omega)]; rfl), fun q hq => ?_⟩
        have hq : q < S.1.1 + 1 := by rw [actN] at hq; exact of_decide_eq_true hq
        rw [bt_mkn (by decide), decide_eq_true (show q < 24 by omega), Bool.true_and]
        show _ = updg S.1.2.1 S.1.1 (qrd S.2.2.2.1).2.2.2.1 q x
        by_cases e : q = S.1.1
        · rw [if_pos e, e, updg_n]
        · rw [if_neg e, updg_o _ _ e, f3 5 (by omega) (by omega)]
          exact (x7 x hx).2 q (by rw [Eact_Et]; exact decide_eq_true (show q < S.1.1 by omega))
      · have hq : q < S.1.1 + 1 := hq
        show h6 2 q = nI (updg S.1.2.2.2 S.1.1 (qrd S.2.2.2.1).2.2.1 q) ∧ updg S.1.2.2.2 S.1.1 (qrd S.2.2.2.1).2.2.1 q < 3
        rw [b6 2 (by decide)]
        by_cases e : q = S.1.1
        · subst e
          rw [updg_n]; exact ⟨q3.1, o2⟩
        · rw [updg_o _ _ e, q3.2 q e, f3 2 (by omega) (by omega)]
          exact H.1.2 q (show q < S.1.1 by omega)
      · obtain ⟨y1, y2, y3, y4, y5, y6, y7⟩ := H.2.1.1
        have fb : ∀ b, 17 < b → b ≤ 21 → h6 b = h b := fun b _ _ => fr6 b (by omega) (by omega) (by omega) (by omega) (by omega) (by omega)
        refine ⟨fun x hx => ?_, ?_, v7, ?_, ⟨?_, fun i a hi => ?_⟩, ?_, y7⟩
        · rw [fb 18 (by omega) (by omega)]; exact y1 x hx
        · rw [fb 18 (by omega) (by omega)]; exact y2
        · rw [k17 9 (by decide) (by decide)]; exact y4
        · rw [k17 5 (by decide) (by decide)]; exact y5.1
        · rw [fb 20 (by omega) (by omega), fb 21 (by omega) (by omega)]; exact y5.2 i a hi
        · rw [v6, actN]
      · rw [k17 8 (by decide) (by decide)]; exact H.2.1.2.1
      · have K2 : XKp h6 S.1 S.2.2.1 := XKp_fr H.2.2.1 (fr6 0 (by omega) (by omega) (by omega) (by omega) (by omega) (by omega)) (fun b _ _ => fr6 b (by omega) (by omega) (by omega) (by omega) (by omega) (by omega))
        show XKp h6 (Rnew S.1 (qrd S.2.2.2.1) Ts) S.2.2.1
        cases ek : S.2.2.1 with
        | none => rw [ek] at K2; exact K2
        | some kk =>
          rw [ek] at K2
          obtain ⟨a1, a2, a3, a4⟩ := K2
          exact ⟨a1, a2, HP_E a3 (funext fun i => by rw [Eact_Et, Eact_Et]; rfl), a4⟩
      · rw [b6 10 (by decide), q9 10 (by decide) (by decide) (by decide) (by decide) (by decide) (by decide) (by decide) (by decide) (by decide), hu_same]; rfl
      · rw [k17 10 (by decide) (by decide)]; exact H.2.2.2.2.2.1.1
      · rw [fr6 45 (by omega) (by omega) (by omega) (by omega) (by omega) (by omega)]; exact H.2.2.2.2.2.1.2
      · have := H.2.2.2.2.2.2
        unfold XTh at this ⊢
        rw [fr6 28 (by omega) (by omega) (by omega) (by omega) (by omega) (by omega), fr6 33 (by omega) (by omega) (by omega) (by omega) (by omega) (by omega), fr6 29 (by omega) (by omega) (by omega) (by omega) (by omega) (by omega), fr6 34 (by omega) (by omega) (by omega) (by omega) (by omega) (by omega)]
        exact this

