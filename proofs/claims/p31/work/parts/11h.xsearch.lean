/-! the class searches -/
theorem qcnt_full {f : Nat → Bool} : ∀ n, qcnt f n = n → ∀ i, i < n → f i = true := by
  intro n
  induction n with
  | zero => intro _ i hi; omega
  | succ n ih =>
    intro h i hi
    have hl := qcnt_le f n
    have h : qcnt f n + (if f n then 1 else 0) = n + 1 := h
    cases c : f n
    · rw [c, if_neg (by decide)] at h; omega
    · rw [c, if_pos rfl] at h
      by_cases e : i = n
      · rw [e]; exact c
      · exact ih (by omega) i (by omega)
theorem qcnt_all {f : Nat → Bool} : ∀ n, (∀ i, i < n → f i = true) → qcnt f n = n := by
  intro n
  induction n with
  | zero => intro _; rfl
  | succ n ih =>
    intro h
    show qcnt f n + (if f n then 1 else 0) = n + 1
    rw [ih (fun i hi => h i (by omega)), h n (Nat.lt_succ_self n), if_pos rfl]
/-- the search's own -/
def XSn (h : gH) (l : Nat) (dr : Bool) (st : Nat × Nat × Nat) (sol : Nat → Nat) : Prop := h 38 10 = nI st.1 ∧ h 38 11 = nI st.2.1 ∧ h 38 12 = nI l ∧ h 38 13 = nI st.2.2 ∧ h 38 14 = b2i dr ∧ (0 < st.2.2 → ∀ x, x < 8 → h 43 x = nI (sol x))
/-- where a search stands: rules, picture, tries and where the trail stood at each -/
def XSt (c : sC) (h : gH) (E : qE) (P : qP) (pth : List (Nat × Nat)) (ct : Nat → Nat) (st : Nat × Nat × Nat) (sol : Nat → Nat) : Prop := (XE h E ∧ Eall E) ∧ HP h 28 E P ∧ h 28 10 = 0 ∧ XD h (cd c) (cdec c) ∧ h 33 10 = 0 ∧ h 34 8 = 1 ∧ XPth h pth ∧ (∀ i, i < pth.length → h 41 i = nI (ct i)) ∧ XSn h (El E) false st sol
/-- what is left of it at its end -/
def XOut (h : gH) (E : qE) (dr : Bool) (st : Nat × Nat × Nat) (sol : Nat → Nat) : Prop := XE h E ∧ h 29 8 = 1 ∧ h 34 8 = 1 ∧ XSn h (El E) dr st sol
theorem HP_ext {h : gH} {o : Nat} {E : qE} {P P2 : qP} (H : HP h o E P) (hD : ∀ x, x < 8 → ∀ v, v < 10 → P.1 x v = P2.1 x v) (hQ : ∀ r, r < 24 → P.2.1 r = P2.2.1 r) (hf : P.2.2.1 = P2.2.2.1) (ht : P.2.2.2 = P2.2.2.2) : HP h o E P2 := by
  obtain ⟨h1, h2, h3, h4, h5, h6, h7⟩ := H
  refine ⟨fun x hx => by rw [h1 x hx]; exact mkn_congr (fun v hv => hD x hx v hv), h2, by rw [h3]; exact mkn_congr (fun r hr => hQ r hr), by rw [← hf]; exact h4, by rw [← ht]; exact h5, h6, ?_⟩
  rw [← ht]
  exact ⟨h7.1, h7.2.1, fun x hx v hv => by rw [← hD x hx v hv]; exact h7.2.2 x hx v hv⟩
theorem qent_cg {x : Nat} {rs : Int32} {S S2 : Nat → Bool} : ∀ (m k : Nat), (∀ v, k ≤ v → v < k + m → S v = S2 v) → qent x rs S m k = qent x rs S2 m k := by
  intro m
  induction m with
  | zero => intro k _; rfl
  | succ m ih =>
    intro k h
    unfold qent
    rw [h k (Nat.le_refl _) (by omega), ih (k + 1) (fun v h1 h2 => h v (by omega) (by omega))]
/-- to keep of a domain some of it is to keep these -/
theorem HP_and {h : gH} {o : Nat} {E : qE} {P : qP} {x : Nat} {s s2 rs : Int32} (hs : ∀ v, v < 10 → P.1 x v = true → bt s v = bt s2 v) (H : HP h o E (qnw E x s rs P)) : HP h o E (qnw E x s2 rs P) := by
  have e1 : ∀ v, v < 10 → qnar P.1 x (bt s) x v = qnar P.1 x (bt s2) x v := fun v hv => by
    unfold qnar
    rw [if_pos rfl, if_pos rfl]
    cases hd : P.1 x v
    · rfl
    · rw [hs v hv hd]
  have e2 : ∀ v, v < 10 → (P.1 x v && !bt s v) = (P.1 x v && !bt s2 v) := fun v hv => by
    cases hd : P.1 x v
    · rfl
    · rw [hs v hv hd]
  have q1 := qany_congr e1
  have q2 := qany_congr e2
  refine HP_ext H (fun y hy v hv => ?_) (fun r hr => ?_) ?_ ?_
  · by_cases e : y = x
    · subst e; exact e1 v hv
    · show qnar P.1 x (bt s) y v = qnar P.1 x (bt s2) y v
      unfold qnar
      rw [if_neg e, if_neg e]
  · unfold qnw qwk
    dsimp only
    rw [q1, q2]
  · show (P.2.2.1 || _) = (P.2.2.1 || _)
    rw [q1]
  · show P.2.2.2 ++ _ = P.2.2.2 ++ _
    rw [qent_cg 10 0 (fun v _ hv => e2 v (by omega))]
theorem XE_ln {h : gH} {E : qE} {pth : List (Nat × Nat)} {mk : Int32} (H : XE h (sEln E pth mk)) (hA : Eall E) (h8 : El E ≤ 8) : XE h E := by
  obtain ⟨a1, a2, a3, a4, a5, a6, a7⟩ := H
  have act : ∀ r, Eact E r = true → Eact (sEln E pth mk) r = true ∧ r ≠ 16 + El E := fun r ha => by
    have hr : r ≠ 16 + El E := by
      unfold Eact qact at ha
      rw [Bool.and_eq_true, Bool.or_eq_true] at ha
      rcases ha.1 with z | z
      · have z := of_decide_eq_true z
        have b1 : En E ≤ 16 := a1
        omega
      · have z := of_decide_eq_true z
        omega
    exact ⟨by rw [Eact_ln hr]; exact ha, hr⟩
  refine ⟨a1, h8, a3, fun r hr => ?_, fun j hj => ?_, fun r hr => ?_, fun x hx => ⟨(a7 x hx).1, fun r hr => ?_⟩⟩
  · have b1 : En E ≤ 16 := a1
    have := a4 r hr
    have e : Ev (sEln E pth mk) r = Ev E r := updg_o _ _ (by omega)
    rw [e] at this
    exact this
  · have := a5 j (show j < El E + 1 by omega)
    have e : Ev (sEln E pth mk) (16 + j) = Ev E (16 + j) := updg_o _ _ (by omega)
    have e2 : Ep (sEln E pth mk) (16 + j) = Ep E (16 + j) := updg_o _ _ (by omega)
    rw [e, e2] at this
    exact this
  · obtain ⟨b1, b2⟩ := act r hr
    have := a6 r b1
    have e : Er (sEln E pth mk) r = Er E r := updg_o _ _ b2
    rw [e] at this
    exact this
  · obtain ⟨b1, b2⟩ := act r hr
    have := (a7 x hx).2 r b1
    have e : Ev (sEln E pth mk) r = Ev E r := updg_o _ _ b2
    rw [e] at this
    exact this
theorem text_take {a b : qT} (h : text a b) : b.take a.length = a := by
  obtain ⟨s, e⟩ := h
  rw [e, List.take_left]
theorem text_len {a b : qT} (h : text a b) : a.length ≤ b.length := by
  obtain ⟨s, e⟩ := h
  rw [e, List.length_append]; omega
/-- the latest try is taken back -/
theorem xturn {c : sC} {h : gH} {E E2 : qE} {P P1 : qP} {pth : List (Nat × Nat)} {x v : Nat} {ct : Nat → Nat} {st : Nat × Nat × Nat} {sol : Nat → Nat} (hl : pth.length < 8) (hx : x < 8) (hv : v < 10) (H : HP h 28 E P) (hE : XE h E2) (hA : Eall E2) (h10 : h 28 10 = 0) (hd : XD h (cd c) (cdec c)) (h33 : h 33 10 = 0) (h34 : h 34 8 = 1) (hp : XPth h (pth ++ [(x, v)])) (hc : ∀ i, i < pth.length + 1 → h 41 i = nI (ct i)) (hs : XSn h (El E2) false st sol) (et : ct pth.length = P1.2.2.2.length) (tx : text P1.2.2.2 P.2.2.2) (T1 : PT P1) (f0 : (sback E x v P1).2.2.1 = false) (ls : Bool) (h0 : ls = false → E2 = E) (h1 : ls = true → El E2 = El E + 1 ∧ El E < 8 ∧ (∀ r, r ≠ 16 + El E → Eact E2 r = Eact E r)) (hE1 : XE h E) : Sp (fS_turnBack (if ls = true then nI (16 + El E) else -1) h) (fun p => p.1 = 1 ∧ XSt c p.2 E2 (if ls = true then swake (16 + El E) (sback E x v P1) else sback E x v P1) pth ct st sol) := by
  have e9 : h 38 9 = nI (pth.length + 1) := by rw [hp.1, List.length_append]; rfl
  have hp1 := hp.2 pth.length (by rw [List.length_append]; exact Nat.lt_succ_self _)
  rw [List.getD_eq_getElem?_getD, List.getElem?_append_right (Nat.le_refl _), Nat.sub_self] at hp1
  have p39 : h 39 pth.length = nI x := hp1.1
  have p40 : h 40 pth.length = sbit v := hp1.2
  have hlen := text_len tx
  unfold fS_turnBack
  rw [e9, show nI (pth.length + 1) - (1 : Int32) = nI pth.length from nsub (a := pth.length + 1) (b := 1) (by omega)]
  refine Sp_pos ((nI_ltI (a := 0) (by decide) (by omega)).mpr (by omega)) (Sp_let ?_)
  rw [hu_same, clampn (by omega), hu_ne (show (41 : Nat) ≠ 38 by decide), hc pth.length (by omega), et]
  have w : ∀ b, b ≠ 38 → hu h 38 9 (nI pth.length) b = h b := fun b hb => hu_ne hb
  have w38 : ∀ k, k ≠ 9 → hu h 38 9 (nI pth.length) 38 k = h 38 k := fun k hk => hu_k _ _ _ _ hk
  have w9 : hu h 38 9 (nI pth.length) 38 9 = nI pth.length := hu_same _ _ _ _
  generalize hu h 38 9 (nI pth.length) = ha at w w38 w9
  have Ha : HP ha 28 E P := HP_fr H (fun k => by rw [w 28 (by decide)]) (fun b _ _ => w b (by omega))
  refine Sp_gg (gin_t hl (by omega)) (Sp_bind (Sp_and (takeBack_sp gH28 Ha hlen) (fun _ e => fH_takeBack_fr gH28 e)) (fun hb _ q => ?_))
  obtain ⟨q, fr⟩ := q
  rw [text_take tx] at q
  have b1 : ∀ b, b ≠ 28 → b ≠ 29 → hb b = ha b := fun b x1 x2 => funext fun k => fr b k (by simp; omega) (by simp; omega)
  have Hb : HP hb 28 E (P1.1, qemp, false, P1.2.2.2) := by
    refine HP_ext (P := (qtb P.1 P.2.2.2 P1.2.2.2.length, qemp, false, P1.2.2.2)) q (fun y hy u hu => ?_) (fun _ _ => rfl) rfl rfl
    have a1 := q.2.2.2.2.2.2.2.2 y hy u hu
    have a2 := T1.2.2 y hy u hu
    show qtb P.1 P.2.2.2 P1.2.2.2.length y u = P1.1 y u
    cases k1 : qtb P.1 P.2.2.2 P1.2.2.2.length y u
    · rw [a2.mpr (a1.mp k1)]
    · cases k2 : P1.1 y u
      · rw [a1.mpr (a2.mp k2)] at k1; cases k1
      · rfl
  rw [b1 38 (by decide) (by decide), w9, b1 39 (by decide) (by decide), b1 40 (by decide) (by decide), w 39 (by decide), w 40 (by decide), clampn (by omega), p39, p40, clampn (show x < 2 ^ 31 by omega), Hb.1 x hx]
  refine Sp_gg (gin_t hl (by omega)) (Sp_gg (gin_t (by omega) (by omega)) (Sp_gg (gin_t hl (by omega)) ?_))
  have hEb : XE hb E := XE_fr hE1 (by rw [b1 1 (by decide) (by decide), w 1 (by decide)]) ((b1 3 (by decide) (by decide)).trans (w 3 (by decide))) ((b1 4 (by decide) (by decide)).trans (w 4 (by decide))) ((b1 5 (by decide) (by decide)).trans (w 5 (by decide))) ((b1 6 (by decide) (by decide)).trans (w 6 (by decide))) ((b1 7 (by decide) (by decide)).trans (w 7 (by decide))) ((b1 8 (by decide) (by decide)).trans (w 8 (by decide)))
  -- narrowed, by the rules that were
  have nw := narrow_HP (o := 28) gH28 hx (mkn 10 (P1.1 x) &&& (sbit v ^^^ (-1 : Int32))) 100 hEb Hb
  refine Sp_bind (Sp_and nw (fun _ e => fH_narrow_fr gH28 e)) (fun p9 _ q9 => ?_)
  obtain ⟨⟨-, q9⟩, fr9⟩ := q9
  have Hc : HP p9.2 28 E (sback E x v P1) := HP_and (P := (P1.1, qemp, false, P1.2.2.2)) (fun u hu hd => by
    have hd : P1.1 x u = true := hd
    rw [bt_and, bt_mkn (by decide), decide_eq_true hu, hd]; rfl) q9
  have b2 : ∀ b, b ≠ 28 → b ≠ 29 → b ≠ 31 → b ≠ 32 → b ≠ 38 → p9.2 b = h b := fun b x1 x2 x3 x4 x5 => by
    rw [show p9.2 b = hb b from funext fun k => fr9 b k (by simp; omega) (by simp; omega), b1 b x1 x2, w b x5]
  have b38 : p9.2 38 = ha 38 := by rw [show p9.2 38 = hb 38 from funext fun k => fr9 38 k (by simp) (by simp), b1 38 (by decide) (by decide)]
  have k10 : p9.2 28 10 = 0 := by rw [fr9 28 10 (by simp) (by simp), fr 28 10 (by simp) (by simp), w 28 (by decide)]; exact h10
  have fin : ∀ g P2, (∀ b, b ≠ 28 → g b = p9.2 b) → g 28 10 = 0 → HP g 28 E2 P2 → XSt c g E2 P2 pth ct st sol := by
    intro g P2 r r10 HH
    have r2 : ∀ b, b ≠ 28 → b ≠ 29 → b ≠ 31 → b ≠ 32 → b ≠ 38 → g b = h b := fun b x1 x2 x3 x4 x5 => by rw [r b x1]; exact b2 b x1 x2 x3 x4 x5
    have r38 : ∀ k, k ≠ 9 → g 38 k = h 38 k := fun k hk => by rw [r 38 (by decide), b38]; exact w38 k hk
    obtain ⟨s1, s2, s3, s4, s5, s6⟩ := hs
    refine ⟨⟨XE_fr hE (by rw [r2 1 (by decide) (by decide) (by decide) (by decide) (by decide)]) (r2 3 (by decide) (by decide) (by decide) (by decide) (by decide)) (r2 4 (by decide) (by decide) (by decide) (by decide) (by decide)) (r2 5 (by decide) (by decide) (by decide) (by decide) (by decide)) (r2 6 (by decide) (by decide) (by decide) (by decide) (by decide)) (r2 7 (by decide) (by decide) (by decide) (by decide) (by decide)) (r2 8 (by decide) (by decide) (by decide) (by decide) (by decide)), hA⟩, HH, r10, ⟨hd.1, by rw [r2 22 (by decide) (by decide) (by decide) (by decide) (by decide)]; exact hd.2.1, fun i hi => by rw [r2 23 (by decide) (by decide) (by decide) (by decide) (by decide), r2 24 (by decide) (by decide) (by decide) (by decide) (by decide)]; exact hd.2.2 i hi⟩, by rw [r2 33 (by decide) (by decide) (by decide) (by decide) (by decide)]; exact h33, by rw [r2 34 (by decide) (by decide) (by decide) (by decide) (by decide)]; exact h34, ⟨by rw [r 38 (by decide), b38]; exact w9, fun i hi => ?_⟩, fun i hi => by rw [r2 41 (by decide) (by decide) (by decide) (by decide) (by decide)]; exact hc i (by omega), (r38 10 (by decide)).trans s1, (r38 11 (by decide)).trans s2, (r38 12 (by decide)).trans s3, (r38 13 (by decide)).trans s4, (r38 14 (by decide)).trans s5, fun z y hy => by rw [r2 43 (by decide) (by decide) (by decide) (by decide) (by decide)]; exact s6 z y hy⟩
    have := hp.2 i (by rw [List.length_append]; omega)
    rw [List.getD_eq_getElem?_getD, List.getElem?_append_left hi, ← List.getD_eq_getElem?_getD] at this
    rw [r2 39 (by decide) (by decide) (by decide) (by decide) (by decide), r2 40 (by decide) (by decide) (by decide) (by decide) (by decide)]
    exact this
  cases ls with
  | false =>
    rw [if_neg (show ¬ false = true by decide), if_neg (show ¬ false = true by decide)]
    refine Sp_pos rfl (Sp_some ⟨rfl, fin p9.2 _ (fun _ _ => rfl) k10 ?_⟩)
    rw [h0 rfl]; exact Hc
  | true =>
    obtain ⟨u1, u2, u3⟩ := h1 rfl
    rw [if_pos (show true = true from rfl), if_pos (show true = true from rfl)]
    refine Sp_neg (neq_m1 (by omega)) (Sp_let ?_)
    obtain ⟨y1, y2, y3, y4, y5, y6, y7⟩ := Hc
    have e6 : p9.2 28 6 ||| ((1 : Int32) <<< (nI (16 + El E) &&& 31)) = mkn 24 (Eact E2) := by
      rw [y6, mkn_ins (by decide) (show 16 + El E < 24 by omega)]
      refine mkn_congr (fun r _ => ?_)
      by_cases er : r = 16 + El E
      · have : Eact E2 r = true := by
          unfold Eact qact
          rw [hA r, u1, decide_eq_true (show 16 ≤ r ∧ r < 16 + (El E + 1) ∧ 0 ≤ En E2 + (r - 16) from ⟨by omega, by omega, Nat.zero_le _⟩), Bool.or_true]; rfl
        rw [this, decide_eq_true er, Bool.or_true]
      · rw [u3 r er, decide_eq_false er, Bool.or_false]
    rw [e6]
    have f9 : hu p9.2 28 6 (mkn 24 (Eact E2)) 28 9 = 0 := by rw [hu_k _ _ _ _ (by decide), y4, f0]; rfl
    have wk : Sp (fH_wake 28 ((1 : Int32) <<< (nI (16 + El E) &&& 31)) (hu p9.2 28 6 (mkn 24 (Eact E2)))) (fun g => (∀ b, b ≠ 28 → g b = p9.2 b) ∧ g 28 10 = 0 ∧ HP g 28 E2 (swake (16 + El E) (sback E x v P1))) := by
      unfold fH_wake
      refine Sp_pos f9 (Sp_some ?_)
      rw [hu_same, hu_k _ _ _ _ (show (7 : Nat) ≠ 6 by decide), y3, mkn_one (n := 24) (by decide) (show 16 + El E < 24 by omega), mkn_and (by decide), mkn_or (by decide)]
      have e7 : mkn 24 (fun i => (sback E x v P1).2.1 i || (decide (i = 16 + El E) && Eact E2 i)) = mkn 24 (swake (16 + El E) (sback E x v P1)).2.1 := mkn_congr (fun i _ => by
        show _ = ((sback E x v P1).2.1 i || decide (i = 16 + El E))
        by_cases ei : i = 16 + El E
        · have : Eact E2 i = true := by
            unfold Eact qact
            rw [hA i, u1, decide_eq_true (show 16 ≤ i ∧ i < 16 + (El E + 1) ∧ 0 ≤ En E2 + (i - 16) from ⟨by omega, by omega, Nat.zero_le _⟩), Bool.or_true]; rfl
          rw [this, decide_eq_true ei]; rfl
        · rw [decide_eq_false ei]; rfl)
      rw [e7]
      refine ⟨fun b hb => by rw [hu_ne hb, hu_ne hb], by rw [hu_k _ _ _ _ (by decide), hu_k _ _ _ _ (by decide)]; exact k10, fun y hy => ?_, ?_, hu_same _ _ _ _, ?_, ⟨?_, fun i a hi => ?_⟩, ?_, y7⟩
      · rw [hu_ne (by decide), hu_ne (by decide)]; exact y1 y hy
      · rw [hu_ne (by decide), hu_ne (by decide)]; exact y2
      · rw [hu_k _ _ _ _ (by decide), hu_k _ _ _ _ (by decide)]; exact y4
      · rw [hu_k _ _ _ _ (by decide), hu_k _ _ _ _ (by decide)]; exact y5.1
      · rw [hu_ne (by decide), hu_ne (by decide), hu_ne (by decide), hu_ne (by decide)]; exact y5.2 i a hi
      · rw [hu_k _ _ _ _ (by decide), hu_same]
    refine Sp_bind wk (fun g _ r => Sp_some ⟨rfl, fin g _ r.1 r.2.1 r.2.2⟩)

