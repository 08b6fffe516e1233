/-! one node of the class's search -/
theorem tb01 {v : Int32} {h : gH} {p : Int32 × gH} (H : fS_turnBack v h = some p) : p.1 = 0 ∨ p.1 = 1 := by
  unfold fS_turnBack glet at H
  by_cases c : (0 : Int32) < h 38 9
  · rw [if_pos c] at H
    obtain ⟨_, H⟩ := ggi H
    obtain ⟨h4, _, H⟩ := gbi H
    obtain ⟨_, H⟩ := ggi H
    obtain ⟨_, H⟩ := ggi H
    obtain ⟨_, H⟩ := ggi H
    obtain ⟨p9, _, H⟩ := gbi H
    by_cases d : v = -1
    · rw [if_pos d] at H; cases H; exact Or.inr rfl
    · rw [if_neg d] at H
      obtain ⟨h13, _, H⟩ := gbi H
      cases H; exact Or.inr rfl
  · rw [if_neg c] at H; cases H; exact Or.inl rfl
def xgo (c : sC) (fu : Nat) : Int32 → Int32 → Int32 → gH → Option gH := fS_go_39 (nI (cch c)) (nI (cpk c)) (b2i (cln c)) (nI (cmo c)) (b2i (cal c)) fu
/-- behind a fault or a solution: the lesson, the latest try taken back, and on -/
def xbt (c : sC) (fu : Nat) (fl : Bool) (v8 : Int32) (h : gH) : Option gH := if (cln c && fl) = true then (fS_learnFromTries h).bind fun p29 => (fS_turnBack p29.1 p29.2).bind fun p27 => xgo c fu 0 p27.1 (v8 + 1) p27.2 else (fS_turnBack (-1) h).bind fun p27 => xgo c fu 0 p27.1 (v8 + 1) p27.2
def XNd (c : sC) (pth : List (Nat × Nat)) (fl : Bool) (s : sQ) (r : Nat × Bool × sQ) : Prop := ∀ (ct : Nat → Nat) (fu n8 : Nat) (h : gH) (Q : gH → Prop), XSt c h s.1 s.2.1 pth ct s.2.2.1 s.2.2.2 → fu + n8 = gfu → n8 + pth.length = 2 * s.2.2.1.1 → (r.1 = 0 → ∀ h' fu' n8', XSt c h' r.2.2.1 r.2.2.2.1 pth ct r.2.2.2.2.1 r.2.2.2.2.2 → fu' + (n8' + 1) = gfu → n8' + pth.length = 2 * r.2.2.2.2.1.1 → Sp (xbt c fu' r.2.1 (nI n8') h') Q) → (¬ r.1 = 0 → ∀ h', XOut h' r.2.2.1 (decide (r.1 = 2)) r.2.2.2.2.1 r.2.2.2.2.2 → Q h') → Sp (xgo c fu (b2i fl) 1 (nI n8) h) Q
theorem XLn_of {c : sC} {h : gH} {E : qE} {P : qP} {pth : List (Nat × Nat)} {ct : Nat → Nat} {st : Nat × Nat × Nat} {sol : Nat → Nat} (H : XSt c h E P pth ct st sol) : XLn c h E pth := ⟨H.1.1, H.2.2.2.1, H.2.2.2.2.1, H.2.2.2.2.2.1, H.2.2.2.2.2.2.1, H.2.2.2.2.2.2.2.2.2.2.1⟩
theorem xback {c : sC} {h : gH} {E : qE} {P P1 P0 : qP} {pth : List (Nat × Nat)} {x v : Nat} {ct : Nat → Nat} {st : Nat × Nat × Nat} {sol : Nat → Nat} (hl : pth.length < 8) (hx : x < 8) (hv : v < 10) (hp : sPC (pth ++ [(x, v)]) P0) (H : XSt c h E P (pth ++ [(x, v)]) ct st sol) (et : ct pth.length = P1.2.2.2.length) (tx : text P1.2.2.2 P.2.2.2) (T1 : PT P1) (f0 : (sback E x v P1).2.2.1 = false) (fl : Bool) {fu n8 : Nat} {Q : gH → Prop} (hK : ∀ h6, XSt c h6 (snext c pth x v P1 fl (E, P, st, sol)).1 (snext c pth x v P1 fl (E, P, st, sol)).2.1 pth ct st sol → Sp (xgo c fu 0 1 (nI (n8 + 1)) h6) Q) : Sp (xbt c fu fl (nI n8) h) Q := by
  obtain ⟨⟨hE, hA⟩, g2, g3, g4, g5, g6, g7, g8, g9⟩ := id H
  have len1 : (pth ++ [(x, v)]).length = pth.length + 1 := by rw [List.length_append]; rfl
  rw [len1] at g8
  unfold xbt
  rw [nadd_l n8 1]
  unfold snext at hK
  by_cases cf : (cln c && fl) = true
  · have es : slesson c fl (pth ++ [(x, v)]) E = slearn c E (pth ++ [(x, v)]) := if_pos cf
    rw [es] at hK
    rw [if_pos cf]
    refine Sp_bind (Sp_and (xlearns hp hA (XLn_of H)) (fun _ e => fS_learnFromTries_fr e)) (fun p29 _ q => ?_)
    obtain ⟨q, fr⟩ := q
    have w : ∀ b, b = 22 ∨ b = 23 ∨ b = 24 ∨ (28 ≤ b ∧ b ≤ 32) ∨ (39 ≤ b ∧ b ≤ 41) ∨ b = 43 → p29.2 b = h b := fun b hb => funext fun k => fr b k (by simp; omega) (by simp; omega)
    have w38 : ∀ k, k ≠ 12 → p29.2 38 k = h 38 k := fun k hk => fr 38 k (by simp) (by simp; omega)
    have Hw : HP p29.2 28 E P := HP_fr g2 (fun k => by rw [w 28 (by omega)]) (fun b _ _ => w b (by omega))
    have dw : XD p29.2 (cd c) (cdec c) := ⟨g4.1, by rw [w 22 (by omega)]; exact g4.2.1, fun i hi => by rw [w 23 (by omega), w 24 (by omega)]; exact g4.2.2 i hi⟩
    have w33 : p29.2 33 10 = 0 := by rw [fr 33 10 (by simp) (by simp)]; exact g5
    have pw : XPth p29.2 (pth ++ [(x, v)]) := ⟨(w38 9 (by decide)).trans g7.1, fun i hi => by rw [w 39 (by omega), w 40 (by omega)]; exact g7.2 i hi⟩
    have cw : ∀ i, i < pth.length + 1 → p29.2 41 i = nI (ct i) := fun i hi => by rw [w 41 (by omega)]; exact g8 i hi
    have sw : ∀ l, p29.2 38 12 = nI l → XSn p29.2 l false st sol := fun l hl => ⟨(w38 10 (by decide)).trans g9.1, (w38 11 (by decide)).trans g9.2.1, hl, (w38 13 (by decide)).trans g9.2.2.2.1, (w38 14 (by decide)).trans g9.2.2.2.2.1, fun z y hy => by rw [w 43 (by omega)]; exact g9.2.2.2.2.2 z y hy⟩
    cases hs : slearn c E (pth ++ [(x, v)]) with
    | none =>
      rw [hs] at q hK
      obtain ⟨a1, a2, a3, a4⟩ := q
      have x0 := xturn (P1 := P1) hl hx hv Hw a2 hA (by rw [w 28 (by omega)]; exact g3) dw w33 a4 pw cw (sw _ a3) et tx T1 f0 false (fun _ => rfl) (fun z => by cases z) a2
      rw [if_neg (show ¬ false = true by decide), if_neg (show ¬ false = true by decide)] at x0
      rw [a1]
      refine Sp_bind x0 (fun p27 _ r => ?_)
      rw [r.1]
      exact hK p27.2 r.2
    | some E2 =>
      rw [hs] at q hK
      obtain ⟨a1, a2, a3, a4⟩ := q
      have e0 := slearn_0 hs
      obtain ⟨mk, e2, h8⟩ : ∃ mk, E2 = sEln E (pth ++ [(x, v)]) mk ∧ El E < 8 := by
        unfold slearn at hs
        split at hs
        · rename_i h8
          split at hs
          · exact ⟨_, (Option.some.inj hs).symm, h8⟩
          · cases hs
        · cases hs
      have x0 := xturn (P1 := P1) hl hx hv Hw a2 (Eall_0 e0 hA) (by rw [w 28 (by omega)]; exact g3) dw w33 a4 pw cw (sw _ a3) et tx T1 f0 true (fun z => by cases z) (fun _ => ⟨by rw [e2]; rfl, h8, fun r hr => by rw [e2]; exact Eact_ln hr⟩) (XE_ln (by rw [← e2]; exact a2) hA (by omega))
      rw [if_pos (show true = true from rfl), if_pos (show true = true from rfl)] at x0
      rw [a1]
      refine Sp_bind x0 (fun p27 _ r => ?_)
      rw [r.1]
      exact hK p27.2 r.2
  · have es : slesson c fl (pth ++ [(x, v)]) E = none := if_neg cf
    rw [es] at hK
    rw [if_neg cf]
    have x0 := xturn (P1 := P1) hl hx hv g2 hE hA g3 g4 g5 g6 g7 g8 g9 et tx T1 f0 false (fun _ => rfl) (fun z => by cases z) hE
    rw [if_neg (show ¬ false = true by decide), if_neg (show ¬ false = true by decide)] at x0
    refine Sp_bind x0 (fun p27 _ r => ?_)
    rw [r.1]
    exact hK p27.2 r.2
theorem xkeep12 {D : Nat → Nat → Bool} {h0 : gH} (hD : ∀ x, x < 8 → h0 29 x = mkn 10 (D x)) : ∀ (m k fu : Nat) (h : gH), k + m = 8 → m < fu → (∀ b, b ≠ 43 → h b = h0 b) → (∀ y, y < k → h 43 y = nI (nthb (D y) 10 0 0)) → Sp (fS_keepSolution_12 fu (nI k) h) (fun h1 => (∀ b, b ≠ 43 → h1 b = h0 b) ∧ ∀ y, y < 8 → h1 43 y = nI (nthb (D y) 10 0 0)) := by
  intro m
  induction m with
  | zero =>
    intro k fu h hk hfu a b
    obtain ⟨fu, rfl⟩ : ∃ f, fu = f + 1 := ⟨fu - 1, by omega⟩
    have : k = 8 := by omega
    subst this
    unfold fS_keepSolution_12
    exact Sp_neg (by decide) (Sp_some ⟨a, b⟩)
  | succ m ih =>
    intro k fu h hk hfu a b
    obtain ⟨fu, rfl⟩ : ∃ f, fu = f + 1 := ⟨fu - 1, by omega⟩
    unfold fS_keepSolution_12
    refine Sp_pos (nltT (show k < 8 by omega) (by decide)) (Sp_gg (gin_t (by omega) (by omega)) ?_)
    rw [clampn (show k < 2 ^ 31 by omega), a 29 (by decide), hD k (by omega)]
    have := leastX (D k) (n := 0) (by omega) h
    rw [nI_0] at this
    refine Sp_eq this (Sp_gg (gin_t (by omega) (by omega)) (Sp_let ?_))
    rw [nadd_l k 1]
    refine ih (k + 1) fu _ (by omega) (by omega) (fun o ho => by dsimp only; rw [hu_ne ho]; exact a o ho) (fun y hy => ?_)
    dsimp only
    by_cases e : y = k
    · rw [e, hu_same]
    · rw [hu_k _ _ _ _ e]; exact b y (by omega)
theorem XSt_out {c : sC} {h : gH} {E : qE} {P : qP} {pth : List (Nat × Nat)} {ct : Nat → Nat} {st : Nat × Nat × Nat} {sol : Nat → Nat} (H : XSt c h E P pth ct st sol) : XOut h E false st sol := ⟨H.1.1, H.2.1.2.1, H.2.2.2.2.2.1, H.2.2.2.2.2.2.2.2⟩
/-- frames of a standing search -/
theorem XSt_fr {c : sC} {h h1 : gH} {E : qE} {P P2 : qP} {pth : List (Nat × Nat)} {ct : Nat → Nat} {st : Nat × Nat × Nat} {sol : Nat → Nat} (H : XSt c h E P pth ct st sol) (a : ∀ b, (1 ≤ b ∧ b ≤ 8) ∨ (22 ≤ b ∧ b ≤ 24) ∨ b = 33 ∨ b = 34 ∨ (38 ≤ b ∧ b ≤ 43) → h1 b = h b) (b10 : h1 28 10 = h 28 10) (Hp : HP h1 28 E P2) : XSt c h1 E P2 pth ct st sol := by
  obtain ⟨⟨hE, hA⟩, g2, g3, g4, g5, g6, g7, g8, g9⟩ := H
  refine ⟨⟨XE_fr hE (by rw [a 1 (by omega)]) (a 3 (by omega)) (a 4 (by omega)) (a 5 (by omega)) (a 6 (by omega)) (a 7 (by omega)) (a 8 (by omega)), hA⟩, Hp, b10.trans g3, ⟨g4.1, by rw [a 22 (by omega)]; exact g4.2.1, fun i hi => by rw [a 23 (by omega), a 24 (by omega)]; exact g4.2.2 i hi⟩, by rw [a 33 (by omega)]; exact g5, by rw [a 34 (by omega)]; exact g6, ⟨by rw [a 38 (by omega)]; exact g7.1, fun i hi => by rw [a 39 (by omega), a 40 (by omega)]; exact g7.2 i hi⟩, fun i hi => by rw [a 41 (by omega)]; exact g8 i hi, ?_⟩
  unfold XSn at g9 ⊢
  rw [a 38 (by omega), a 43 (by omega)]; exact g9
theorem xtry {c : sC} (hpk : cpk c < 3) (hch : cch c < 4) {h : gH} {E : qE} {P1 : qP} {pth : List (Nat × Nat)} {ct : Nat → Nat} {tr fa fo : Nat} {sol : Nat → Nat} (H : XSt c h E P1 pth ct (tr, fa, fo) sol) (I : PI E P1) (hf : P1.2.2.1 = false) {x : Nat} (hc : schosen (cch c) E P1.1 = some x) (hl : pth.length < 8) : Sp (fS_tryOne (nI (cch c)) (nI (cpk c)) h) (fun p => p.1 = 1 ∧ XSt c p.2 E (stry E x (spick (cpk c) (P1.1 x)) P1) (pth ++ [(x, spick (cpk c) (P1.1 x))]) (updg ct pth.length P1.2.2.2.length) (tr + 1, fa, fo) sol) := by
  obtain ⟨hx, hcx⟩ := schosen_some hc
  have hv := spick_lt (cpk c) (P1.1 x)
  obtain ⟨⟨hE, hA⟩, g2, g3, g4, g5, g6, g7, g8, g9⟩ := H
  unfold fS_tryOne
  refine Sp_eq (chosen_eqX hE hA g2.1 hch) ?_
  rw [hc, oI_some x]
  refine Sp_neg (neq_m1 (by omega)) (Sp_pos (by dsimp only; rw [g7.1]; exact (nI_ltI (b := 8) (by omega) (by decide)).mpr hl) (Sp_gg (gin_t (by omega) (by omega)) ?_))
  dsimp only
  rw [clampn (show x < 2 ^ 31 by omega), g2.1 x hx]
  refine Sp_eq (pickX (P1.1 x) hpk (I.1 hf x hx) h) ?_
  dsimp only
  generalize spick (cpk c) (P1.1 x) = v at hv ⊢
  rw [g7.1]
  refine Sp_gg (gin_t hl (by omega)) (Sp_let ?_)
  rw [clampn (show pth.length < 2 ^ 31 by omega), hu_ne (show (38 : Nat) ≠ 39 by decide), g7.1, clampn (show pth.length < 2 ^ 31 by omega)]
  refine Sp_gg (gin_t hl (by omega)) (Sp_let ?_)
  rw [hu_ne (show (38 : Nat) ≠ 40 by decide), hu_ne (show (38 : Nat) ≠ 39 by decide), g7.1, clampn (show pth.length < 2 ^ 31 by omega), hu_ne (show (28 : Nat) ≠ 40 by decide), hu_ne (show (28 : Nat) ≠ 39 by decide), g2.2.2.2.2.1.1]
  refine Sp_gg (gin_t hl (by omega)) (Sp_let ?_)
  rw [hu_ne (show (38 : Nat) ≠ 41 by decide), hu_ne (show (38 : Nat) ≠ 40 by decide), hu_ne (show (38 : Nat) ≠ 39 by decide), g7.1, nadd_l pth.length 1]
  refine Sp_let ?_
  rw [hu_k _ _ _ _ (show (10 : Nat) ≠ 9 by decide), hu_ne (show (38 : Nat) ≠ 41 by decide), hu_ne (show (38 : Nat) ≠ 40 by decide), hu_ne (show (38 : Nat) ≠ 39 by decide), g9.1, nadd_l tr 1]
  refine Sp_let ?_
  have ev : (1 : Int32) <<< (nI v &&& 31) = sbit v := rfl
  rw [ev]
  generalize hh : hu (hu (hu (hu (hu h 39 pth.length (nI x)) 40 pth.length (sbit v)) 41 pth.length (nI P1.2.2.2.length)) 38 9 (nI (pth.length + 1))) 38 10 (nI (tr + 1)) = h6
  have w : ∀ b, b ≠ 38 → b ≠ 39 → b ≠ 40 → b ≠ 41 → h6 b = h b := fun b b1 b2 b3 b4 => by rw [← hh, hu_ne b1, hu_ne b1, hu_ne b4, hu_ne b3, hu_ne b2]
  have w38 : ∀ k, k ≠ 9 → k ≠ 10 → h6 38 k = h 38 k := fun k k1 k2 => by rw [← hh, hu_k _ _ _ _ k2, hu_k _ _ _ _ k1, hu_ne (by decide), hu_ne (by decide), hu_ne (by decide)]
  have w9 : h6 38 9 = nI (pth.length + 1) := by rw [← hh, hu_k _ _ _ _ (by decide), hu_same]
  have w10 : h6 38 10 = nI (tr + 1) := by rw [← hh, hu_same]
  have w39 : h6 39 pth.length = nI x ∧ ∀ i, i ≠ pth.length → h6 39 i = h 39 i := ⟨by rw [← hh, hu_ne (by decide), hu_ne (by decide), hu_ne (by decide), hu_ne (by decide), hu_same], fun i hi => by rw [← hh, hu_ne (by decide), hu_ne (by decide), hu_ne (by decide), hu_ne (by decide), hu_k _ _ _ _ hi]⟩
  have w40 : h6 40 pth.length = sbit v ∧ ∀ i, i ≠ pth.length → h6 40 i = h 40 i := ⟨by rw [← hh, hu_ne (by decide), hu_ne (by decide), hu_ne (by decide), hu_same], fun i hi => by rw [← hh, hu_ne (by decide), hu_ne (by decide), hu_ne (by decide), hu_k _ _ _ _ hi, hu_ne (by decide)]⟩
  have w41 : h6 41 pth.length = nI P1.2.2.2.length ∧ ∀ i, i ≠ pth.length → h6 41 i = h 41 i := ⟨by rw [← hh, hu_ne (by decide), hu_ne (by decide), hu_same], fun i hi => by rw [← hh, hu_ne (by decide), hu_ne (by decide), hu_k _ _ _ _ hi, hu_ne (by decide), hu_ne (by decide)]⟩
  have hE6 : XE h6 E := XE_fr hE (by rw [w 1 (by decide) (by decide) (by decide) (by decide)]) (w 3 (by decide) (by decide) (by decide) (by decide)) (w 4 (by decide) (by decide) (by decide) (by decide)) (w 5 (by decide) (by decide) (by decide) (by decide)) (w 6 (by decide) (by decide) (by decide) (by decide)) (w 7 (by decide) (by decide) (by decide) (by decide)) (w 8 (by decide) (by decide) (by decide) (by decide))
  have H6 : HP h6 28 E P1 := HP_fr g2 (fun k => by rw [w 28 (by decide) (by decide) (by decide) (by decide)]) (fun b _ _ => w b (by omega) (by omega) (by omega) (by omega))
  have S6 : XSt c h6 E P1 (pth ++ [(x, v)]) (updg ct pth.length P1.2.2.2.length) (tr + 1, fa, fo) sol := by
    refine ⟨⟨hE6, hA⟩, H6, by rw [w 28 (by decide) (by decide) (by decide) (by decide)]; exact g3, ⟨g4.1, by rw [w 22 (by decide) (by decide) (by decide) (by decide)]; exact g4.2.1, fun i hi => by rw [w 23 (by decide) (by decide) (by decide) (by decide), w 24 (by decide) (by decide) (by decide) (by decide)]; exact g4.2.2 i hi⟩, by rw [w 33 (by decide) (by decide) (by decide) (by decide)]; exact g5, by rw [w 34 (by decide) (by decide) (by decide) (by decide)]; exact g6, ⟨by rw [w9, List.length_append]; rfl, fun i hi => ?_⟩, fun i hi => ?_, ⟨w10, (w38 11 (by decide) (by decide)).trans g9.2.1, (w38 12 (by decide) (by decide)).trans g9.2.2.1, (w38 13 (by decide) (by decide)).trans g9.2.2.2.1, (w38 14 (by decide) (by decide)).trans g9.2.2.2.2.1, fun z y hy => by rw [w 43 (by decide) (by decide) (by decide) (by decide)]; exact g9.2.2.2.2.2 z y hy⟩⟩
    · rw [List.length_append] at hi
      have hi : i < pth.length + 1 := hi
      by_cases ei : i = pth.length
      · rw [ei, w39.1, w40.1, List.getD_eq_getElem?_getD, List.getElem?_append_right (Nat.le_refl _), Nat.sub_self]; exact ⟨rfl, rfl⟩
      · rw [w39.2 i ei, w40.2 i ei, List.getD_eq_getElem?_getD, List.getElem?_append_left (by omega), ← List.getD_eq_getElem?_getD]
        exact g7.2 i (by omega)
    · rw [List.length_append] at hi
      have hi : i < pth.length + 1 := hi
      by_cases ei : i = pth.length
      · rw [ei, w41.1, updg_n]
      · rw [w41.2 i ei, updg_o _ _ ei]; exact g8 i (by omega)
  refine Sp_bind (Sp_and (narrow_HP gH28 hx (sbit v) 100 hE6 H6) (fun _ e => fH_narrow_fr gH28 e)) (fun p19 _ q => Sp_some ⟨rfl, ?_⟩)
  obtain ⟨q, fr⟩ := q
  exact XSt_fr S6 (fun b hb => funext fun k => fr b k (by simp; omega) (by simp; omega)) (fr 28 10 (by simp) (by simp)) q.2
theorem xnode {c : sC} (hch : cch c < 4) (hpk : cpk c < 3) (hmo : cmo c ≤ 300) {k : Nat} {pth : List (Nat × Nat)} (hsub : ∀ (a : Nat × Nat) (s : sQ), sI (pth ++ [a]) s.1 s.2.1 → Eall s.1 → s.2.2.1.1 ≤ cmo c → XNd c (pth ++ [a]) true s (sRec c k (pth ++ [a]) s)) : ∀ (n : Nat) (fl : Bool) (E : qE) (P : qP) (st : Nat × Nat × Nat) (sol : Nat → Nat), cmo c < n + st.1 → st.1 ≤ cmo c → sI pth E P → Eall E → XNd c pth fl (E, P, st, sol) (sLoop c (sRec c k) pth n fl (E, P, st, sol)) := by
  intro n
  induction n with
  | zero => intro fl E P st sol h1 h2; omega
  | succ n ih =>
    intro fl E P st sol hn htr I hA
    obtain ⟨tr, fa, fo⟩ := st
    have htr : tr ≤ cmo c := htr
    have hn : cmo c < n + 1 + tr := hn
    intro ct fu n8 h Q H hfu hn8 H0 H1
    have hn8 : n8 + pth.length = 2 * tr := hn8
    obtain ⟨fu, rfl⟩ : ∃ f, fu = f + 1 + 1 := ⟨fu - 2, by unfold gfu at hfu; omega⟩
    obtain ⟨I1, hq⟩ := sI_run I
    have hl8 := sI_len I.2.2
    have stop : ∀ (v6 : Int32) (h' : gH), Q h' → Sp (xgo c (fu + 1) v6 0 (nI n8 + 1) h') Q := fun v6 h' hQ => by
      unfold xgo fS_go_39
      rw [nad1 n8]
      exact Sp_pos ((nI_ltI (b := 1000000) (by omega) (by decide)).mpr (by omega)) (Sp_pos rfl (Sp_some hQ))
    unfold xgo fS_go_39
    refine Sp_pos ((nI_ltI (b := 1000000) (by omega) (by decide)).mpr (by omega)) (Sp_neg (by decide) (Sp_bind (Sp_and (runAll_sp gH28 H.1.1 H.2.1 I.1 H.2.2.1) (fun _ e => fH_runAll_fr gH28 e)) (fun p13 _ q => ?_)))
    obtain ⟨⟨-, q1, -⟩, fr⟩ := q
    have K1 : XSt c p13.2 E (sP1 E P) pth ct (tr, fa, fo) sol := XSt_fr H (fun b hb => funext fun k => fr b k (by simp; omega) (by simp; omega)) (fr 28 10 (by simp) (by simp)) q1
    have e9 : p13.2 28 9 = b2i (sP1 E P).2.2.1 := K1.2.1.2.2.2.1
    cases hf : (sP1 E P).2.2.1 with
    | true =>
      rw [sL_fail hf] at H0
      refine Sp_neg (by rw [e9, hf]; decide) (Sp_let ?_)
      rw [K1.2.2.2.2.2.2.2.2.2.1, nadd_l fa 1]
      have K2 : XSt c (hu p13.2 38 11 (nI (fa + 1))) E (sP1 E P) pth ct (tr, fa + 1, fo) sol := by
        obtain ⟨⟨hE, hA⟩, g2, g3, g4, g5, g6, g7, g8, g9⟩ := K1
        have w : ∀ b, b ≠ 38 → hu p13.2 38 11 (nI (fa + 1)) b = p13.2 b := fun b hb => hu_ne hb
        have w38 : ∀ k, k ≠ 11 → hu p13.2 38 11 (nI (fa + 1)) 38 k = p13.2 38 k := fun k hk => hu_k _ _ _ _ hk
        exact ⟨⟨XE_fr hE (by rw [w 1 (by decide)]) (w 3 (by decide)) (w 4 (by decide)) (w 5 (by decide)) (w 6 (by decide)) (w 7 (by decide)) (w 8 (by decide)), hA⟩, HP_fr g2 (fun k => by rw [w 28 (by decide)]) (fun b _ _ => w b (by omega)), by rw [w 28 (by decide)]; exact g3, ⟨g4.1, by rw [w 22 (by decide)]; exact g4.2.1, fun i hi => by rw [w 23 (by decide), w 24 (by decide)]; exact g4.2.2 i hi⟩, by rw [w 33 (by decide)]; exact g5, by rw [w 34 (by decide)]; exact g6, ⟨(w38 9 (by decide)).trans g7.1, fun i hi => by rw [w 39 (by decide), w 40 (by decide)]; exact g7.2 i hi⟩, fun i hi => by rw [w 41 (by decide)]; exact g8 i hi, (w38 10 (by decide)).trans g9.1, hu_same _ _ _ _, (w38 12 (by decide)).trans g9.2.2.1, (w38 13 (by decide)).trans g9.2.2.2.1, (w38 14 (by decide)).trans g9.2.2.2.2.1, fun z y hy => by rw [w 43 (by decide)]; exact g9.2.2.2.2.2 z y hy⟩
      have B := H0 rfl _ (fu + 1) n8 K2 (by omega) hn8
      unfold xbt at B
      dsimp only at B
      unfold fS_go_95 fS_go_96
      cases hln : cln c with
      | false =>
        rw [hln, if_neg (show ¬ (false && fl) = true by rw [Bool.false_and]; decide)] at B
        refine Sp_pos rfl ?_
        have e := B
        unfold xgo at e
        rw [hln] at e
        exact e
      | true =>
        refine Sp_neg (by decide) ?_
        cases fl with
        | false =>
          rw [hln, if_neg (show ¬ (true && false) = true by decide)] at B
          refine Sp_pos rfl ?_
          unfold xgo at B
          rw [hln] at B
          exact B
        | true =>
          rw [hln, if_pos (show (true && true) = true from rfl)] at B
          refine Sp_neg (by decide) ?_
          unfold xgo at B
          rw [hln] at B
          exact B
    | false =>
      have hne := I1.1.1 hf
      refine Sp_pos (by rw [e9, hf]; rfl) ?_
      have hm : fH_howManySettled 28 p13.2 = some (nI (qcnt (stl (sP1 E P).1) 8), p13.2) := by
        unfold fH_howManySettled
        have x0 := xstl (o := 28) K1.2.1.1 8 0 gfu (by omega) (by unfold gfu; omega)
        rw [show qcnt (stl (sP1 E P).1) 0 = 0 from rfl, nI_0] at x0
        exact x0
      refine Sp_eq hm ?_
      dsimp only
      have hq8 : qcnt (stl (sP1 E P).1) 8 ≤ 8 := qcnt_le _ _
      cases hc : schosen (cch c) E (sP1 E P).1 with
      | none =>
        rw [sL_sol hf hc] at H0 H1
        have all := schosen_none hc
        refine Sp_pos (by rw [qcnt_all (f := stl (sP1 E P).1) 8 (fun i hi => decide_eq_true (all i hi))]; rfl) ?_
        have ks : Sp (fS_keepSolution p13.2) (fun h21 => XSt c h21 E (sP1 E P) pth ct (tr, fa, fo + 1) (fun x => nthb ((sP1 E P).1 x) 10 0 0)) := by
          unfold fS_keepSolution
          refine Sp_let ?_
          rw [K1.2.2.2.2.2.2.2.2.2.2.2.1, nadd_l fo 1, ← nI_0]
          refine Sp_mono (xkeep12 (D := (sP1 E P).1) (h0 := hu p13.2 38 13 (nI (fo + 1))) (fun x hx => by rw [hu_ne (by decide)]; exact K1.2.1.1 x hx) 8 0 gfu _ rfl (by unfold gfu; omega) (fun _ _ => rfl) (fun y hy => absurd hy (Nat.not_lt_zero _))) (fun h21 q => ?_)
          obtain ⟨q1, q2⟩ := q
          obtain ⟨⟨hE, hA⟩, g2, g3, g4, g5, g6, g7, g8, g9⟩ := K1
          have w : ∀ b, b ≠ 38 → b ≠ 43 → h21 b = p13.2 b := fun b hb h43 => by rw [q1 b h43, hu_ne hb]
          have w38 : ∀ k, k ≠ 13 → h21 38 k = p13.2 38 k := fun k hk => by rw [q1 38 (by decide), hu_k _ _ _ _ hk]
          exact ⟨⟨XE_fr hE (by rw [w 1 (by decide) (by decide)]) (w 3 (by decide) (by decide)) (w 4 (by decide) (by decide)) (w 5 (by decide) (by decide)) (w 6 (by decide) (by decide)) (w 7 (by decide) (by decide)) (w 8 (by decide) (by decide)), hA⟩, HP_fr g2 (fun k => by rw [w 28 (by decide) (by decide)]) (fun b _ _ => w b (by omega) (by omega)), by rw [w 28 (by decide) (by decide)]; exact g3, ⟨g4.1, by rw [w 22 (by decide) (by decide)]; exact g4.2.1, fun i hi => by rw [w 23 (by decide) (by decide), w 24 (by decide) (by decide)]; exact g4.2.2 i hi⟩, by rw [w 33 (by decide) (by decide)]; exact g5, by rw [w 34 (by decide) (by decide)]; exact g6, ⟨(w38 9 (by decide)).trans g7.1, fun i hi => by rw [w 39 (by decide) (by decide), w 40 (by decide) (by decide)]; exact g7.2 i hi⟩, fun i hi => by rw [w 41 (by decide) (by decide)]; exact g8 i hi, (w38 10 (by decide)).trans g9.1, (w38 11 (by decide)).trans g9.2.1, (w38 12 (by decide)).trans g9.2.2.1, by rw [q1 38 (by decide), hu_same], (w38 14 (by decide)).trans g9.2.2.2.2.1, fun _ y hy => q2 y hy⟩
        refine Sp_bind ks (fun h21 _ K2 => ?_)
        cases hal : cal c with
        | false =>
          rw [hal, if_neg (show ¬ false = true by decide)] at H1
          refine Sp_pos rfl ?_
          unfold fS_go_145 fS_go_146
          have e := stop 0 h21 (H1 (show ¬ (1 : Nat) = 0 by decide) h21 (XSt_out K2))
          unfold xgo at e
          rw [hal] at e
          exact e
        | true =>
          rw [hal, if_pos (show true = true from rfl)] at H0
          refine Sp_neg (by decide) ?_
          have B := H0 rfl h21 (fu + 1) n8 K2 (by omega) hn8
          unfold xbt at B
          dsimp only at B
          rw [Bool.and_false, if_neg (show ¬ false = true by decide)] at B
          unfold xgo at B
          rw [hal] at B
          unfold fS_go_145 fS_go_146
          cases ht : fS_turnBack (-1) h21 with
          | none => rw [ht] at B; exact B
          | some p =>
            rw [ht, Option.bind_some] at B
            rw [Option.bind_some]
            rcases tb01 ht with e | e
            · rw [e] at B; exact Sp_pos e B
            · rw [e] at B; exact Sp_neg (by rw [e]; decide) B
      | some x =>
        obtain ⟨hx, hcx⟩ := schosen_some hc
        refine Sp_neg (fun z => ?_) ?_
        · have := (nI_eq (b := 8) (by omega) (by omega)).mp z
          exact hcx (of_decide_eq_true (qcnt_full 8 this x hx))
        have e10 : p13.2 38 10 = nI tr := K1.2.2.2.2.2.2.2.2.1
        by_cases ht : tr = cmo c
        · rw [sL_dear hf hc ht] at H1
          refine Sp_neg (by rw [e10, ht]; exact nI_nlt (Nat.le_refl _) (by omega)) (Sp_let ?_)
          refine stop (b2i fl) _ (H1 (by dsimp only; decide) _ ?_)
          obtain ⟨⟨hE, hA⟩, g2, g3, g4, g5, g6, g7, g8, g9⟩ := K1
          have w : ∀ b, b ≠ 38 → hu p13.2 38 14 1 b = p13.2 b := fun b hb => hu_ne hb
          have w38 : ∀ k, k ≠ 14 → hu p13.2 38 14 1 38 k = p13.2 38 k := fun k hk => hu_k _ _ _ _ hk
          exact ⟨XE_fr hE (by rw [w 1 (by decide)]) (w 3 (by decide)) (w 4 (by decide)) (w 5 (by decide)) (w 6 (by decide)) (w 7 (by decide)) (w 8 (by decide)), by rw [w 29 (by decide)]; exact g2.2.1, by rw [w 34 (by decide)]; exact g6, (w38 10 (by decide)).trans g9.1, (w38 11 (by decide)).trans g9.2.1, (w38 12 (by decide)).trans g9.2.2.1, (w38 13 (by decide)).trans g9.2.2.2.1, hu_same _ _ _ _, fun z y hy => by rw [w 43 (by decide)]; exact g9.2.2.2.2.2 z y hy⟩
        · have htl := sdear ht htr
          obtain ⟨hnew, hl⟩ := s_new I1 hf hx hcx
          have hv := spick_lt (cpk c) ((sP1 E P).1 x)
          refine Sp_pos (by rw [e10]; exact (nlt (by omega) (by omega)).mpr htl) (Sp_bind (xtry hpk hch K1 I1.1 hf hc hl) (fun p17 _ q => ?_))
          obtain ⟨q1, K2⟩ := q
          rw [q1, nadd_l n8 1]
          have ev : spick (cpk c) ((sP1 E P).1 x) = sv c E P x := rfl
          rw [ev] at K2 hv
          have hv0 : sv c E P x < 10 := hv
          generalize hvv : sv c E P x = v at K2 hv
          have I5 := sI_try I1 hf hx hcx hv
          have er : sRec c k (pth ++ [(x, sv c E P x)]) (sch1 c E P tr fa fo sol x) = sRec c k (pth ++ [(x, v)]) (E, stry E x v (sP1 E P), (tr + 1, fa, fo), sol) := by unfold sch1; rw [hvv]
          have kp := sRec_keep c k (pth ++ [(x, v)]) (E, stry E x v (sP1 E P), (tr + 1, fa, fo), sol)
          have nd := hsub (x, v) (E, stry E x v (sP1 E P), (tr + 1, fa, fo), sol) I5 hA htl
          have hend : ¬ (sRec c k (pth ++ [(x, v)]) (E, stry E x v (sP1 E P), (tr + 1, fa, fo), sol)).1 = 0 → sLoop c (sRec c k) pth (n + 1) fl (E, P, (tr, fa, fo), sol) = sRec c k (pth ++ [(x, v)]) (E, stry E x v (sP1 E P), (tr + 1, fa, fo), sol) := fun hz => by rw [sL_end hf hc ht (by rw [er]; exact hz), er]
          have hgo : (sRec c k (pth ++ [(x, v)]) (E, stry E x v (sP1 E P), (tr + 1, fa, fo), sol)).1 = 0 → sLoop c (sRec c k) pth (n + 1) fl (E, P, (tr, fa, fo), sol) = sLoop c (sRec c k) pth n false (snext c pth x v (sP1 E P) (sRec c k (pth ++ [(x, v)]) (E, stry E x v (sP1 E P), (tr + 1, fa, fo), sol)).2.1 (sRec c k (pth ++ [(x, v)]) (E, stry E x v (sP1 E P), (tr + 1, fa, fo), sol)).2.2) := fun hz => by rw [sL_try hf hc ht (by rw [er]; exact hz), er, hvv]
          clear er
          generalize sRec c k (pth ++ [(x, v)]) (E, stry E x v (sP1 E P), (tr + 1, fa, fo), sol) = r at kp hend hgo nd
          obtain ⟨k1, k2, k3, k4, k5⟩ := kp
          have k2 : tr + 1 ≤ r.2.2.2.2.1.1 := k2
          have k3 : r.2.2.2.2.1.1 ≤ cmo c := k3 htl
          have len1 : (pth ++ [(x, v)]).length = pth.length + 1 := by rw [List.length_append]; rfl
          refine nd (updg ct pth.length (sP1 E P).2.2.2.length) (fu + 1) (n8 + 1) p17.2 Q K2 (by omega) (by rw [len1]; show n8 + 1 + (pth.length + 1) = 2 * (tr + 1); omega) (fun hz h' fu' n8' K3 hf3 hn3 => ?_) (fun hz h' o => ?_)
          · rw [len1] at hn3
            rw [hgo hz] at H0 H1
            have tx0 : text (sP1 E P).2.2.2 (stry E x v (sP1 E P)).2.2.2 := ⟨_, rfl⟩
            have A6 := Eall_0 k1 hA
            obtain ⟨rc, rf, rE, rP, rst, rsol⟩ := r
            refine xback (P := rP) (P1 := sP1 E P) hl hx hv I5.2.2 K3 (updg_n _ _ _) (text_tr tx0 (k4 hz)) I1.2.1 (sback_f hv (hne x hx) hcx) rf (fun h6 K6 => ?_)
            have K7 : XSt c h6 (snext c pth x v (sP1 E P) rf (rE, rP, rst, rsol)).1 (snext c pth x v (sP1 E P) rf (rE, rP, rst, rsol)).2.1 pth ct rst rsol := by
              obtain ⟨g1, g2, g3, g4, g5, g6, g7, g8, g9⟩ := K6
              exact ⟨g1, g2, g3, g4, g5, g6, g7, fun i hi => by rw [g8 i hi, updg_o _ _ (by omega)], g9⟩
            have I7 := sI_back (c := c) (fl := rf) (r := (rE, rP, rst, rsol)) I1 hf hx hcx hv A6 K3.1.1.2.1
            have s2 := (snext_0 c pth x v (sP1 E P) rf (rE, rP, rst, rsol)).2.1
            have s0 := (snext_0 c pth x v (sP1 E P) rf (rE, rP, rst, rsol)).1
            have es : snext c pth x v (sP1 E P) rf (rE, rP, rst, rsol) = ((snext c pth x v (sP1 E P) rf (rE, rP, rst, rsol)).1, (snext c pth x v (sP1 E P) rf (rE, rP, rst, rsol)).2.1, rst, rsol) := Prod.ext rfl (Prod.ext rfl s2)
            have go := ih false (snext c pth x v (sP1 E P) rf (rE, rP, rst, rsol)).1 (snext c pth x v (sP1 E P) rf (rE, rP, rst, rsol)).2.1 rst rsol (by have k2 : tr + 1 ≤ rst.1 := k2; omega) k3 I7 (Eall_0 s0 A6)
            rw [← es] at go
            exact go ct fu' (n8' + 1) h6 Q (by rw [s2]; exact K7) (by omega) (by rw [s2]; show n8' + 1 + pth.length = 2 * rst.1; have hn3 : n8' + (pth.length + 1) = 2 * rst.1 := hn3; omega) H0 H1
          · rw [hend hz] at H1
            exact H1 hz h' o
theorem xsrch {c : sC} (hch : cch c < 4) (hpk : cpk c < 3) (hmo : cmo c ≤ 300) : ∀ (k : Nat) (pth : List (Nat × Nat)) (s : sQ), 8 < k + pth.length → sI pth s.1 s.2.1 → Eall s.1 → s.2.2.1.1 ≤ cmo c → XNd c pth (decide (0 < pth.length)) s (sRec c k pth s) := by
  intro k
  induction k with
  | zero => intro pth s hk I; have := sI_len I.2.2; omega
  | succ k ih =>
    intro pth s hk I hA htr
    obtain ⟨E, P, st, sol⟩ := s
    refine xnode hch hpk hmo (k := k) (fun a s' I' A' t' => ?_) 400 _ E P st sol (by omega) htr I hA
    have := ih (pth ++ [a]) s' (by rw [List.length_append]; show 8 < k + (pth.length + 1); omega) I' A' t'
    rw [decide_eq_true (show 0 < (pth ++ [a]).length by rw [List.length_append]; exact Nat.succ_pos _)] at this
    exact this

