/-! rule, on the reference's side -/
def updg {α : Type} (f : Nat → α) (n : Nat) (v : α) : Nat → α := fun i => if i = n then v else f i
theorem updg_n {α : Type} (f : Nat → α) (n : Nat) (v : α) : updg f n v n = v := if_pos rfl
theorem updg_o {α : Type} (f : Nat → α) {n i : Nat} (v : α) (h : i ≠ n) : updg f n v i = f i := if_neg h
def Rnew (R : qR) (r : rdR) (Ts : Nat → Nat → Nat → Bool) : qR := (R.1 + 1, updg R.2.1 R.1 r.2.2.2.1, updg R.2.2.1 R.1 (tabW r.2.2.2.2 r.2.2.2.1 Ts), updg R.2.2.2 R.1 r.2.2.1)
def Knew (K : qK) (n : Nat) : qK := ((K.1.1, (fun i => K.1.2.1 i || decide (i = n)), K.1.2.2), K.2)
def s_rule (S : qW) (Ts : Nat → Nat → Nat → Bool) : Int32 × qW := if S.1.1 = 16 then (-4, S) else if S.2.1.1.2.2.1 = true then (-3, S) else if (qrd S.2.2.2.1).1 = true then (nI S.1.1, (Rnew S.1 (qrd S.2.2.2.1) Ts, Knew S.2.1 S.1.1, S.2.2.1, (0, S.2.2.2.1.2), S.2.2.2.2)) else (-100 - nI (qrd S.2.2.2.1).2.1, (S.1, S.2.1, S.2.2.1, (0, S.2.2.2.1.2), S.2.2.2.2))
section
variable {S : qW} {Ts : Nat → Nat → Nat → Bool}
theorem s_rule1 (h : S.1.1 = 16) : s_rule S Ts = (-4, S) := if_pos h
theorem s_rule2 (h : ¬ S.1.1 = 16) (h2 : S.2.1.1.2.2.1 = true) : s_rule S Ts = (-3, S) := by unfold s_rule; rw [if_neg h, if_pos h2]
theorem s_rule3 (h : ¬ S.1.1 = 16) (h2 : S.2.1.1.2.2.1 = false) (h3 : (qrd S.2.2.2.1).1 = true) : s_rule S Ts = (nI S.1.1, (Rnew S.1 (qrd S.2.2.2.1) Ts, Knew S.2.1 S.1.1, S.2.2.1, (0, S.2.2.2.1.2), S.2.2.2.2)) := by unfold s_rule; rw [if_neg h, if_neg (by rw [h2]; decide), if_pos h3]
theorem s_rule4 (h : ¬ S.1.1 = 16) (h2 : S.2.1.1.2.2.1 = false) (h3 : (qrd S.2.2.2.1).1 = false) : s_rule S Ts = (-100 - nI (qrd S.2.2.2.1).2.1, (S.1, S.2.1, S.2.2.1, (0, S.2.2.2.1.2), S.2.2.2.2)) := by unfold s_rule; rw [if_neg h, if_neg (by rw [h2]; decide), if_neg (by rw [h3]; decide)]
theorem WI_tp (H : WI S) : TpB S.2.2.2.1 := ⟨H.2.2.2.2.1, H.2.2.2.2.2.1⟩
theorem W_rule (H : WI S) : WI (s_rule S Ts).2 := by
  have hn := H.1
  have tape : ∀ i, i < 0 → S.2.2.2.1.2 i < 256 := fun i hi => absurd hi (Nat.not_lt_zero _)
  by_cases h : S.1.1 = 16
  · rw [s_rule1 h]; exact H
  cases h2 : S.2.1.1.2.2.1 with
  | true => rw [s_rule2 h h2]; exact H
  | false =>
    cases h3 : (qrd S.2.2.2.1).1 with
    | false => rw [s_rule4 h h2 h3]; exact ⟨H.1, H.2.1, H.2.2.1, H.2.2.2.1, Nat.zero_le _, tape, H.2.2.2.2.2.2⟩
    | true =>
      rw [s_rule3 h h2 h3]
      obtain ⟨k1, k2, k3, k4, k5⟩ := H.2.1
      refine ⟨by show S.1.1 + 1 ≤ 16; omega, ⟨fun vs T kd => ?_, k2, k3, fun i hi => ?_, k5⟩, H.2.2.1, fun k e => ?_, Nat.zero_le _, tape, H.2.2.2.2.2.2⟩
      · obtain ⟨p1, p2, p3⟩ := k1 vs T kd
        refine ⟨p1, fun f => ?_, fun r hr hq => ?_⟩
        · have f : S.2.1.1.2.2.1 = true := f
          rw [h2] at f; cases f
        · rw [Eact_Et]
          have hq : (S.2.1.1.2.1 r || decide (r = S.1.1)) = true := hq
          rw [Bool.or_eq_true] at hq
          rcases hq with hq | hq
          · have := p3 r hr hq
            rw [Eact_Et] at this
            have := of_decide_eq_true this
            have : r < S.1.1 := this
            exact decide_eq_true (show r < S.1.1 + 1 by omega)
          · have := of_decide_eq_true hq
            exact decide_eq_true (show r < S.1.1 + 1 by omega)
      · obtain ⟨a, b, c, d⟩ := k4 i hi
        exact ⟨a, b, Nat.le_succ_of_le c, d⟩
      · obtain ⟨a, b, c⟩ := H.2.2.2.1 k e
        exact ⟨Nat.le_succ_of_le a, b, c⟩
end
theorem M_rule {h : gH} {S : qW} (H : BM h S) (W : WI S) : Sp (fM_rule h) (fun p => ∃ Ts, p.1 = (s_rule S Ts).1 ∧ BM p.2 (s_rule S Ts).2) := by
  have zb : ∀ x, fM_rule h = some x → ZB x.2 := fun x e => fM_rule_zb H.2.2.2.2 e
  suffices Sp (fM_rule h) (fun p => ZB p.2 → ∃ Ts, p.1 = (s_rule S Ts).1 ∧ BM p.2 (s_rule S Ts).2) from Sp_to this (fun x e q => q (zb x e))
  have B := WI_tp W
  have hn := W.1
  have H0 := H
  obtain ⟨⟨⟨⟨gA, gE⟩, gX, g36, gT⟩, g20, gD, gL⟩, gK, gP, gS, gZ⟩ := H
  have e8 : h 65 8 = nI S.1.1 := gE.2.2.1
  unfold fM_rule
  by_cases c1 : S.1.1 = 16
  · exact Sp_pos (by rw [e8, c1]; rfl) (Sp_some (fun _ => ⟨fun _ _ _ => false, by rw [s_rule1 c1], by rw [s_rule1 c1]; exact H0⟩))
  refine Sp_neg (by rw [e8]; exact fun z => c1 ((nI_eq (b := 16) (by omega) (by omega)).mp z)) ?_
  cases c2 : S.2.1.1.2.2.1 with
  | true => exact Sp_neg (by rw [gX.2.2, c2]; decide) (Sp_some (fun _ => ⟨fun _ _ _ => false, by rw [s_rule2 c1 c2], by rw [s_rule2 c1 c2]; exact H0⟩))
  | false =>
    refine Sp_pos (by rw [gX.2.2, c2]; rfl) (Sp_bind (reads_sp B gP) (fun p _ g => ?_))
    obtain ⟨g1, g2, g3⟩ := g
    cases c3 : (qrd S.2.2.2.1).1 with
    | false =>
      obtain ⟨a1, a2⟩ := g3 c3
      refine Sp_neg (by rw [a1]; decide) (Sp_let (Sp_some (fun zb => ⟨fun _ _ _ => false, ?_, ?_⟩)))
      · rw [s_rule4 c1 c2 c3]
        dsimp only
        rw [hu_k _ _ _ _ (by decide), a2]
      · rw [s_rule4 c1 c2 c3]
        have f22 : ∀ k, ¬ (22 ≤ k ∧ k ≤ 32) → hu p.2 65 22 0 65 k = h 65 k := fun k hk => by rw [hu_k _ _ _ _ (by omega)]; exact g1.2 k (by omega)
        have fb : ∀ b, b ≠ 65 → hu p.2 65 22 0 b = h b := fun b hb => by rw [hu_ne hb]; exact g1.1 b hb
        exact ⟨MC_fr H0.1 (fun k hk => f22 k (by omega)) (fun b _ _ => fb b (by omega)), MKp_fr H0.2.1 (fun k _ _ => f22 k (by omega)) (fun b _ _ => fb b (by omega)), ⟨by dsimp only; rw [hu_same]; rfl, fun i hi => absurd hi (Nat.not_lt_zero _)⟩, MSh_fr H0.2.2.2.1 (fun b _ _ => fb b (by omega)), zb⟩
    | true =>
      obtain ⟨a1, a2, a3, a4⟩ := g2 c3
      have ok := rd_ok S.2.2.2.1
      obtain ⟨o1, o2, o3⟩ := ok c3
      rw [← vls_len] at o1
      refine Sp_pos a1 ?_
      rw [a2]
      refine Sp_eq (bitsOf_mkn (by decide) _ _) ?_
      rw [← vls_len]
      dsimp only
      have J0 : LJ S.2.2.2.1 S.1.1 (qrd S.2.2.2.1) h p.2 := ⟨B, gP, e8, by omega, rfl, c3, mrf_n g1, a3⟩
      rw [← nI_0]
      refine mloop60 o1 rfl ok 10 0 gfu p.2 (by omega) (by unfold gfu; omega) J0 (fun h1 J1 tb fo => ?_)
      obtain ⟨-, -, -, -, -, -, f1, e32⟩ := J1
      have fo : ∀ i, i < 1000 * S.1.1 ∨ 1000 * S.1.1 + 1000 ≤ i → h1 69 i = h 69 i := fun i hi => by rw [fo i (by omega), g1.1 69 (by decide)]
      have k8 : h1 65 8 = nI S.1.1 := by rw [f1.2 8 (by omega)]; exact e8
      unfold fM_rule_60
      refine Sp_neg (by decide) (Sp_let ?_)
      rw [hu_k _ _ _ _ (show (8 : Nat) ≠ 22 by decide), k8]
      refine Sp_gg (gin_t (by omega) (by omega)) (Sp_let ?_)
      rw [hu_k _ _ _ _ (show (32 : Nat) ≠ 22 by decide), e32, clampn (by omega), hu_ne (show (65 : Nat) ≠ 67 by decide), hu_k _ _ _ _ (show (8 : Nat) ≠ 22 by decide), k8]
      refine Sp_gg (gin_t (by omega) (by omega)) (Sp_let ?_)
      rw [clampn (by omega), hu_ne (show (65 : Nat) ≠ 68 by decide), hu_ne (show (65 : Nat) ≠ 67 by decide), hu_k _ _ _ _ (show (8 : Nat) ≠ 22 by decide), k8]
      refine Sp_gg (gin_t (by omega) (by omega)) (Sp_let ?_)
      rw [clampn (by omega), hu_ne (show (65 : Nat) ≠ 71 by decide), hu_ne (show (65 : Nat) ≠ 68 by decide), hu_ne (show (65 : Nat) ≠ 67 by decide), hu_k _ _ _ _ (show (8 : Nat) ≠ 22 by decide), k8, nadd_l S.1.1 1]
      refine Sp_let (Sp_some (fun zb => ?_))
      rw [hu_same, show nI (S.1.1 + 1) - (1 : Int32) = nI S.1.1 from nsub (a := S.1.1 + 1) (b := 1) (by omega)]
      generalize hh : hu (hu (hu (hu (hu h1 65 22 0) 67 S.1.1 (nI (qrd S.2.2.2.1).2.2.1)) 68 S.1.1 (mkn 8 (qrd S.2.2.2.1).2.2.2.1)) 71 S.1.1 1) 65 8 (nI (S.1.1 + 1)) = h2 at zb ⊢
      have b2 : ∀ b, b ≠ 65 → b ≠ 67 → b ≠ 68 → b ≠ 69 → b ≠ 71 → b ≠ 80 → h2 b = h b := fun b x1 x2 x3 x4 x5 x6 => by
        rw [← hh, hu_ne x1, hu_ne x5, hu_ne x3, hu_ne x2, hu_ne x1]; exact f1.1 b x1 x4 x6
      have f2 : ∀ k, k ≠ 8 → ¬ (22 ≤ k ∧ k ≤ 32) → h2 65 k = h 65 k := fun k x1 x2 => by
        rw [← hh, hu_k _ _ _ _ x1, hu_ne (by decide), hu_ne (by decide), hu_ne (by decide), hu_k _ _ _ _ (by omega)]; exact f1.2 k (by omega)
      have v8 : h2 65 8 = nI (S.1.1 + 1) := by rw [← hh, hu_same]
      have v22 : h2 65 22 = nI 0 := by rw [← hh, hu_k _ _ _ _ (by decide), hu_ne (by decide), hu_ne (by decide), hu_ne (by decide), hu_same]; rfl
      have v69 : h2 69 = h1 69 := by rw [← hh, hu_ne (by decide), hu_ne (by decide), hu_ne (by decide), hu_ne (by decide), hu_ne (by decide)]
      have v67 : h2 67 S.1.1 = nI (qrd S.2.2.2.1).2.2.1 ∧ ∀ i, i ≠ S.1.1 → h2 67 i = h 67 i := by
        refine ⟨?_, fun i hi => ?_⟩
        · rw [← hh, hu_ne (by decide), hu_ne (by decide), hu_ne (by decide), hu_same]
        · rw [← hh, hu_ne (by decide), hu_ne (by decide), hu_ne (by decide), hu_k _ _ _ _ hi, hu_ne (by decide), f1.1 67 (by decide) (by decide) (by decide)]
      have v68 : h2 68 S.1.1 = mkn 8 (qrd S.2.2.2.1).2.2.2.1 ∧ ∀ i, i ≠ S.1.1 → h2 68 i = h 68 i := by
        refine ⟨?_, fun i hi => ?_⟩
        · rw [← hh, hu_ne (by decide), hu_ne (by decide), hu_same]
        · rw [← hh, hu_ne (by decide), hu_ne (by decide), hu_k _ _ _ _ hi, hu_ne (by decide), hu_ne (by decide), f1.1 68 (by decide) (by decide) (by decide)]
      have v71 : h2 71 S.1.1 = 1 ∧ ∀ i, i ≠ S.1.1 → h2 71 i = h 71 i := by
        refine ⟨?_, fun i hi => ?_⟩
        · rw [← hh, hu_ne (by decide), hu_same]
        · rw [← hh, hu_ne (by decide), hu_k _ _ _ _ hi, hu_ne (by decide), hu_ne (by decide), hu_ne (by decide), f1.1 71 (by decide) (by decide) (by decide)]
      refine ⟨fun x y z => decide (h2 69 (1000 * S.1.1 + 100 * x + 10 * y + z) = 1), ?_, ?_⟩
      · rw [s_rule3 c1 c2 c3]
      · rw [s_rule3 c1 c2 c3]
        show BM h2 _
        refine ⟨⟨⟨⟨fun _ => rfl, ⟨by show S.1.1 + 1 ≤ 16; omega, Nat.zero_le _, v8, (f2 9 (by decide) (by decide)).trans gE.2.2.2.1, fun q hq => ?_, fun j hj => absurd hj (Nat.not_lt_zero _)⟩⟩, ⟨fun x hx => ?_, fun q hq ha => ?_, (f2 2 (by decide) (by decide)).trans gX.2.2⟩, (f2 36 (by decide) (by decide)).trans g36, MT_of gT (f2 15 (by decide) (by decide)) (b2 74 (by decide) (by decide) (by decide) (by decide) (by decide) (by decide)) (b2 75 (by decide) (by decide) (by decide) (by decide) (by decide) (by decide))⟩, (f2 20 (by decide) (by decide)).trans g20, MD_fr gD (f2 12 (by decide) (by decide)) (b2 72 (by decide) (by decide) (by decide) (by decide) (by decide) (by decide)) (b2 73 (by decide) (by decide) (by decide) (by decide) (by decide) (by decide)), MLv_fr gL (f2 19 (by decide) (by decide)) (b2 76 (by decide) (by decide) (by decide) (by decide) (by decide) (by decide)) (b2 77 (by decide) (by decide) (by decide) (by decide) (by decide) (by decide)) (b2 78 (by decide) (by decide) (by decide) (by decide) (by decide) (by decide))⟩, ?_, ⟨v22, fun i hi => absurd hi (Nat.not_lt_zero _)⟩, MSh_fr gS (fun b _ _ => b2 b (by omega) (by omega) (by omega) (by omega) (by omega) (by omega)), zb⟩
        · have hq : q < S.1.1 + 1 := hq
          show h2 68 q = mkn 8 (updg S.1.2.1 S.1.1 (qrd S.2.2.2.1).2.2.2.1 q) ∧ h2 67 q = nI (updg S.1.2.2.2 S.1.1 (qrd S.2.2.2.1).2.2.1 q) ∧ updg S.1.2.2.2 S.1.1 (qrd S.2.2.2.1).2.2.1 q < 3 ∧ (vls (updg S.1.2.1 S.1.1 (qrd S.2.2.2.1).2.2.2.1 q)).length ≤ 3 ∧ (vls (updg S.1.2.1 S.1.1 (qrd S.2.2.2.1).2.2.2.1 q)).length + updg S.1.2.2.2 S.1.1 (qrd S.2.2.2.1).2.2.1 q = (vls (updg S.1.2.1 S.1.1 (qrd S.2.2.2.1).2.2.2.1 q)).length + updg S.1.2.2.2 S.1.1 (qrd S.2.2.2.1).2.2.1 q ∧ TB h2 q (updg S.1.2.2.1 S.1.1 (tabW (qrd S.2.2.2.1).2.2.2.2 (qrd S.2.2.2.1).2.2.2.1 fun x y z => decide (h2 69 (1000 * S.1.1 + 100 * x + 10 * y + z) = 1)) q)
          by_cases e : q = S.1.1
          · subst e
            rw [updg_n, updg_n, updg_n]
            refine ⟨v68.1, v67.1, o2, o1, rfl, fun x hx y hy z hz => ?_⟩
            unfold tabW
            by_cases hr : rel (vls (qrd S.2.2.2.1).2.2.2.1).length x y z = true
            · rw [if_pos hr, v69]; exact tb x y z (Nat.zero_le _) hx hy hz hr
            · rw [if_neg hr]
              have zb1 : h2 69 (1000 * S.1.1 + 100 * x + 10 * y + z) = 0 ∨ h2 69 (1000 * S.1.1 + 100 * x + 10 * y + z) = 1 := zb.1 69 (by decide) (1000 * S.1.1 + 100 * x + 10 * y + z)
              dsimp only
              rcases zb1 with w | w
              · rw [w]; rfl
              · rw [w]; rfl
          · rw [updg_o _ _ e, updg_o _ _ e, updg_o _ _ e, v68.2 q e, v67.2 q e]
            obtain ⟨d1, d2, d3, d4, d5, d6⟩ := gE.2.2.2.2.1 q (show q < S.1.1 by omega)
            refine ⟨d1, d2, d3, d4, rfl, fun x hx y hy z hz => ?_⟩
            rw [v69, fo _ (by omega)]; exact d6 x hx y hy z hz
        · rw [b2 66 (by decide) (by decide) (by decide) (by decide) (by decide) (by decide)]; exact gX.1 x hx
        · rw [Eact_Et] at ha
          have ha : q < S.1.1 + 1 := of_decide_eq_true ha
          show h2 71 q = b2i (S.2.1.1.2.1 q || decide (q = S.1.1))
          by_cases e : q = S.1.1
          · rw [e, v71.1, decide_eq_true rfl, Bool.or_true]; rfl
          · rw [v71.2 q e, decide_eq_false e, Bool.or_false]
            exact gX.2.1 q hq (by rw [Eact_Et]; exact decide_eq_true (show q < S.1.1 by omega))
        · have gK2 : MKp h2 S.1 S.2.2.1 := MKp_fr gK (fun k _ _ => f2 k (by omega) (by omega)) (fun b _ _ => b2 b (by omega) (by omega) (by omega) (by omega) (by omega) (by omega))
          show MKp h2 (Rnew S.1 (qrd S.2.2.2.1) _) S.2.2.1
          cases ek : S.2.2.1 with
          | none => rw [ek] at gK2; exact gK2
          | some kk =>
            rw [ek] at gK2
            obtain ⟨w1, -, -⟩ := W.2.2.2.1 kk ek
            obtain ⟨m76, m70, m71, m72, m73, m74, m75, mD, mR, mT, mC, mL, mB⟩ := gK2
            refine ⟨m76, m70, m71, m72, m73, m74, m75, mD, fun q hq => ?_, mT, mC, mL, fun q hq => ?_⟩
            · show h2 94 q = _ ∧ h2 91 q = nI (updg S.1.2.2.2 S.1.1 _ q) ∧ h2 92 q = mkn 8 (updg S.1.2.1 S.1.1 _ q)
              rw [updg_o _ _ (show q ≠ S.1.1 by omega), updg_o _ _ (show q ≠ S.1.1 by omega)]
              exact mR q hq
            · show ∀ x, x < 10 → ∀ y, y < 10 → ∀ z, z < 10 → h2 93 (1000 * q + 100 * x + 10 * y + z) = b2i (updg S.1.2.2.1 S.1.1 _ q x y z)
              rw [updg_o _ _ (show q ≠ S.1.1 by omega)]
              exact mB q hq
