/-! search, solutions -/
theorem isChoice_eq (v0 v1 : Int32) (h : gH) : fX_isChoice v0 v1 h = some (b2i (vis 4 v0 && vis 3 v1), h) := by
  unfold fX_isChoice
  have e0 : (if v0 < (0 : Int32) then some ((0 : Int32), h) else if v0 < nI 4 then some ((1 : Int32), h) else some ((0 : Int32), h)) = some (b2i (vis 4 v0), h) := isN_eq (by decide) v0 h
  have e1 : (if v1 < (0 : Int32) then some ((0 : Int32), h) else if v1 < nI 3 then some ((1 : Int32), h) else some ((0 : Int32), h)) = some (b2i (vis 3 v1), h) := isN_eq (by decide) v1 h
  have n4 : (4 : Int32) = nI 4 := rfl
  have n3 : (3 : Int32) = nI 3 := rfl
  rw [n4, n3]
  by_cases a : v0 < 0
  · rw [if_pos a] at e0 ⊢
    have : b2i (vis 4 v0) = 0 := by have := Option.some.inj e0; exact (congrArg Prod.fst this).symm
    rw [(b2i_0 _).mp this]; rfl
  · rw [if_neg a] at e0 ⊢
    by_cases b : v0 < nI 4
    · rw [if_pos b] at e0 ⊢
      have : b2i (vis 4 v0) = 1 := by have := Option.some.inj e0; exact (congrArg Prod.fst this).symm
      rw [(b2i_1 _).mp this, Bool.true_and]; exact e1
    · rw [if_neg b] at e0 ⊢
      have : b2i (vis 4 v0) = 0 := by have := Option.some.inj e0; exact (congrArg Prod.fst this).symm
      rw [(b2i_0 _).mp this]; rfl
def sdg (sol : Nat → Nat) : Nat → Nat → Nat → Nat
  | 0, _, a => a
  | m + 1, k, a => sdg sol m (k + 1) (10 * a + sol k)
theorem dgX {sol : Nat → Nat} {h : gH} (hs : ∀ x, x < 8 → h 43 x = nI (sol x)) : ∀ (m k fu a : Nat), k + m = 8 → m < fu → fS_digits_4 fu (nI a) (nI k) h = some (nI (sdg sol m k a), h) := by
  intro m
  induction m with
  | zero =>
    intro k fu a hk hfu
    obtain ⟨fu, rfl⟩ : ∃ f, fu = f + 1 := ⟨fu - 1, by omega⟩
    have : k = 8 := by omega
    subst this
    unfold fS_digits_4
    rw [if_neg (by decide)]; rfl
  | succ m ih =>
    intro k fu a hk hfu
    obtain ⟨fu, rfl⟩ : ∃ f, fu = f + 1 := ⟨fu - 1, by omega⟩
    unfold fS_digits_4
    rw [if_pos (nltT (show k < 8 by omega) (by decide)), gg_t (gin_t (by omega) (by omega)), clampn (by omega), hs k (by omega), show nI a * (10 : Int32) = nI (10 * a) by rw [show nI a * (10 : Int32) = nI (a * 10) from nmul a 10, Nat.mul_comm], nI_add, nadd_l k 1]
    exact ih (k + 1) fu _ (by omega) (by omega)
/-- found or not, at the end of a search for one -/
theorem go_fnd (S : qW) {P0 : qP} (I : PI (Et S.1) P0) (T : PT P0) (ch pk mo : Nat) (ln : Bool) : (((s_go S P0 ch pk mo ln false).1 = 1 → (s_go S P0 ch pk mo ln false).2.2.2.2.1.2.2 = 1) ∧ (¬ (s_go S P0 ch pk mo ln false).1 = 1 → (s_go S P0 ch pk mo ln false).2.2.2.2.1.2.2 = 0)) ∧ ((s_go S P0 ch pk mo ln false).1 = 1 → ∀ x, x < 8 → (s_go S P0 ch pk mo ln false).2.2.2.2.2 x < 10 ∧ P0.1 x ((s_go S P0 ch pk mo ln false).2.2.2.2.2 x) = true) ∧ ((s_go S P0 ch pk mo ln false).1 = 0 ∨ (s_go S P0 ch pk mo ln false).1 = 1 ∨ (s_go S P0 ch pk mo ln false).1 = 2) := by
  have f := sRec_fnd (scfg S ch pk mo ln false) 9 [] (Et S.1, P0, (0, 0, 0), fun _ => 0) (sI_top I T) (Et_all _) (Nat.zero_le _) rfl
  have k := sRec_keep (scfg S ch pk mo ln false) 9 [] (Et S.1, P0, (0, 0, 0), fun _ => 0)
  have f1 : (s_go S P0 ch pk mo ln false).1 = 1 → (s_go S P0 ch pk mo ln false).2.2.2.2.1.2.2 = 0 + 1 ∧ _ := f.1
  have f2 : ¬ (s_go S P0 ch pk mo ln false).1 = 1 → (s_go S P0 ch pk mo ln false).2.2.2.2.1.2.2 = 0 := f.2
  exact ⟨⟨fun z => (f1 z).1, f2⟩, fun z => (f1 z).2, k.2.2.2.2⟩
def s_search (S : qW) (v1 v2 v3 v4 : Int32) : Int32 := if (vis 4 v1 && (vis 3 v2 && (vis 2 v3 && vis 4 v4))) = true then (if (s_go S S.2.1.1 (vN v1) (vN v2) 100 (decide (v3 = 1)) false).1 = 2 then -6 else if v4 = 0 then (if (s_go S S.2.1.1 (vN v1) (vN v2) 100 (decide (v3 = 1)) false).1 = 1 then nI (sdg (s_go S S.2.1.1 (vN v1) (vN v2) 100 (decide (v3 = 1)) false).2.2.2.2.2 8 0 0) else -1) else if v4 = 1 then nI (s_go S S.2.1.1 (vN v1) (vN v2) 100 (decide (v3 = 1)) false).2.2.2.2.1.1 else if v4 = 2 then nI (s_go S S.2.1.1 (vN v1) (vN v2) 100 (decide (v3 = 1)) false).2.2.2.2.1.2.1 else nI (El (s_go S S.2.1.1 (vN v1) (vN v2) 100 (decide (v3 = 1)) false).2.2.1)) else -2
theorem X_search {h : gH} {S : qW} (H : AX h S) (W : WI S) (v1 v2 v3 v4 : Int32) : Sp (fX_search v1 v2 v3 v4 h) (fun p => p.1 = s_search S v1 v2 v3 v4 ∧ AX p.2 S) := by
  have I := KI_PI W.2.1
  have T := W.2.1.2.1
  unfold fX_search s_search
  refine Sp_eq (isChoice_eq v1 v2 h) ?_
  dsimp only
  cases c1 : vis 4 v1 with
  | false => rw [if_neg (show ¬ (false && (vis 3 v2 && (vis 2 v3 && vis 4 v4))) = true by rw [Bool.false_and]; decide)]; exact Sp_pos rfl (Sp_some ⟨rfl, H⟩)
  | true =>
    cases c2 : vis 3 v2 with
    | false => rw [if_neg (show ¬ (true && (false && (vis 2 v3 && vis 4 v4))) = true by rw [Bool.false_and]; decide)]; exact Sp_pos rfl (Sp_some ⟨rfl, H⟩)
    | true =>
      refine Sp_neg (by decide) ?_
      obtain ⟨ch, hch, e1⟩ := vis_some (by decide) c1
      obtain ⟨pk, hpk, e2⟩ := vis_some (by decide) c2
      subst e1
      subst e2
      have l1 : (1 : Int32).toInt = 1 := by decide
      have l3 : (3 : Int32).toInt = 3 := by decide
      cases c3 : vis 2 v3 with
      | false =>
        rw [if_neg (show ¬ (true && (true && (false && vis 4 v4))) = true by rw [Bool.false_and]; decide)]
        rw [vis_iff] at c3
        have c3 := of_decide_eq_false c3
        by_cases a : v3 < 0
        · exact Sp_pos a (Sp_some ⟨rfl, H⟩)
        · refine Sp_neg a (Sp_pos ?_ (Sp_some ⟨rfl, H⟩))
          rw [Int32.lt_iff_toInt_lt, Int32.toInt_zero] at a
          rw [Int32.lt_iff_toInt_lt, l1]; omega
      | true =>
        obtain ⟨ln, hln, e3⟩ := vis_some (by decide) c3
        subst e3
        refine Sp_neg (nI_pos (by omega)) (Sp_neg (fun z => ?_) ?_)
        · rw [Int32.lt_iff_toInt_lt, l1, nI_toInt (by omega)] at z; omega
        cases c4 : vis 4 v4 with
        | false =>
          rw [if_neg (show ¬ (true && (true && (true && false))) = true by decide)]
          rw [vis_iff] at c4
          have c4 := of_decide_eq_false c4
          by_cases a : v4 < 0
          · exact Sp_pos a (Sp_some ⟨rfl, H⟩)
          · refine Sp_neg a (Sp_pos ?_ (Sp_some ⟨rfl, H⟩))
            rw [Int32.lt_iff_toInt_lt, Int32.toInt_zero] at a
            rw [Int32.lt_iff_toInt_lt, l3]; omega
        | true =>
          obtain ⟨w, hw, e4⟩ := vis_some (by decide) c4
          subst e4
          rw [if_pos (show (true && (true && (true && true))) = true from rfl), vN_nI (by omega), vN_nI (by omega)]
          refine Sp_neg (nI_pos (by omega)) (Sp_neg (fun z => ?_) ?_)
          · rw [Int32.lt_iff_toInt_lt, l3, nI_toInt (by omega)] at z; omega
          refine Sp_bind (X_become H) (fun h3 _ q => ?_)
          obtain ⟨q1, q2, -⟩ := q
          have go : ∀ b : Bool, decide (nI ln = 1) = b → Sp (fX_search_58 (nI w) (nI ch) (nI pk) (b2i b) h3) (fun p => p.1 = (if (s_go S S.2.1.1 ch pk 100 (decide (nI ln = 1)) false).1 = 2 then -6 else if nI w = 0 then (if (s_go S S.2.1.1 ch pk 100 (decide (nI ln = 1)) false).1 = 1 then nI (sdg (s_go S S.2.1.1 ch pk 100 (decide (nI ln = 1)) false).2.2.2.2.2 8 0 0) else -1) else if nI w = 1 then nI (s_go S S.2.1.1 ch pk 100 (decide (nI ln = 1)) false).2.2.2.2.1.1 else if nI w = 2 then nI (s_go S S.2.1.1 ch pk 100 (decide (nI ln = 1)) false).2.2.2.2.1.2.1 else nI (El (s_go S S.2.1.1 ch pk 100 (decide (nI ln = 1)) false).2.2.1)) ∧ AX p.2 S) := by
            intro b hb
            rw [hb]
            unfold fX_search_58
            have fd := go_fnd S I T ch pk 100 b
            refine Sp_bind (X_goes (mo := 100) (ln := b) (al := false) hch hpk (by decide) q2 q1 I T) (fun h5 _ g => ?_)
            generalize s_go S S.2.1.1 ch pk 100 b false = r at g fd
            obtain ⟨g1, -, -, -, -, g2, g3, g4, g5, g6, g7⟩ := g
            by_cases r2 : r.1 = 2
            · rw [if_pos r2]
              exact Sp_neg (by rw [g6, decide_eq_true r2]; decide) (Sp_some ⟨rfl, g1⟩)
            · rw [if_neg r2]
              refine Sp_pos (by rw [g6, decide_eq_false r2]; rfl) ?_
              have : w = 0 ∨ w = 1 ∨ w = 2 ∨ w = 3 := by omega
              rcases this with e | e | e | e <;> subst e
              · rw [if_pos (show nI 0 = 0 from rfl), if_pos (show nI 0 = 0 from rfl)]
                by_cases r1 : r.1 = 1
                · have fo := fd.1.1 r1
                  rw [if_pos r1]
                  refine Sp_pos (by rw [g5, fo]; decide) ?_
                  · have := dgX (g7 (by rw [fo]; decide)) 8 0 gfu 0 rfl (by unfold gfu; omega)
                    rw [nI_0] at this
                    unfold fS_digits
                    exact Sp_eq this (Sp_some ⟨rfl, g1⟩)
                · rw [if_neg r1]
                  have fo := fd.1.2 r1
                  exact Sp_neg (by rw [g5, fo]; decide) (Sp_some ⟨rfl, g1⟩)
              · rw [if_neg (show ¬ nI 1 = 0 by decide), if_pos (show nI 1 = 1 from rfl), if_neg (show ¬ nI 1 = 0 by decide), if_pos (show nI 1 = 1 from rfl)]
                exact Sp_some ⟨g2, g1⟩
              · rw [if_neg (show ¬ nI 2 = 0 by decide), if_neg (show ¬ nI 2 = 1 by decide), if_pos (show nI 2 = 2 from rfl), if_neg (show ¬ nI 2 = 0 by decide), if_neg (show ¬ nI 2 = 1 by decide), if_pos (show nI 2 = 2 from rfl)]
                exact Sp_some ⟨g3, g1⟩
              · rw [if_neg (show ¬ nI 3 = 0 by decide), if_neg (show ¬ nI 3 = 1 by decide), if_neg (show ¬ nI 3 = 2 by decide), if_neg (show ¬ nI 3 = 0 by decide), if_neg (show ¬ nI 3 = 1 by decide), if_neg (show ¬ nI 3 = 2 by decide)]
                exact Sp_some ⟨g4, g1⟩
          by_cases el : nI ln = 1
          · exact Sp_pos el (go true (decide_eq_true el))
          · exact Sp_neg el (go false (decide_eq_false el))
def s_solutions (S : qW) : Int64 := if (s_go S S.2.1.1 0 0 300 false true).1 = 2 then -4611686018427387904 else (nI (s_go S S.2.1.1 0 0 300 false true).2.2.2.2.1.2.2).toInt64
theorem X_solutions {h : gH} {S : qW} (H : AX h S) (W : WI S) : Sp (fX_solutions h) (fun p => p.1 = s_solutions S ∧ AX p.2 S) := by
  unfold fX_solutions s_solutions
  refine Sp_bind (X_become H) (fun h3 _ q => ?_)
  obtain ⟨q1, q2, -⟩ := q
  refine Sp_bind (X_goes (ch := 0) (pk := 0) (mo := 300) (ln := false) (al := true) (by decide) (by decide) (by decide) q2 q1 (KI_PI W.2.1) W.2.1.2.1) (fun h5 _ g => ?_)
  generalize s_go S S.2.1.1 0 0 300 false true = r at g
  obtain ⟨g1, -, -, -, -, g2, g3, g4, g5, g6, g7⟩ := g
  by_cases r2 : r.1 = 2
  · rw [if_pos r2]
    exact Sp_neg (by rw [g6, decide_eq_true r2]; decide) (Sp_some ⟨rfl, g1⟩)
  · rw [if_neg r2]
    exact Sp_pos (by rw [g6, decide_eq_false r2]; rfl) (Sp_some ⟨by rw [g5], g1⟩)
