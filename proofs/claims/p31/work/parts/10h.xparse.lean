/-! the class reads a text into steps -/
theorem qvl8 {T : qTp} {q : Nat} (k : qkd T q = 2) : qvl T q < 8 := by
  have hq := qkd_lt (T := T) (q := q) (by omega)
  unfold qkd at k
  rw [if_pos hq] at k
  by_cases cd : tdg (T.2 q) = true
  · rw [if_pos cd] at k; split at k <;> omega
  · rw [if_neg cd] at k
    by_cases cs : tsm (T.2 q) = true
    · rw [if_pos cs] at k
      have s97 : 97 ≤ T.2 q ∧ T.2 q ≤ 122 := by unfold tsm at cs; exact of_decide_eq_true cs
      unfold qvl
      rw [if_neg cd]
      split at k
      · split at k <;> omega
      · split at k <;> omega
    · rw [if_neg cs] at k
      split at k
      · rename_i hg; have := tsg_le hg; omega
      · omega
def C0 (T : qTp) (c : Nat) : Prop := c ≤ 90 ∧ tkp T c = T.1 ∧ ∀ i, i < c → tkp T i < T.1
def CP (T : qTp) (c : Nat) (h : gH) (q : Nat) : Prop := TK h T (c + 1) ∧ ∃ i, i ≤ c ∧ h 10 8 = nI i ∧ tkp T i = q
def xfr (h h1 : gH) : Prop := (∀ b, b ≠ 10 → b ≠ 15 → h1 b = h b) ∧ ∀ k, k ≠ 8 → k ≠ 9 → k ≠ 11 → h1 10 k = h 10 k
theorem xfr_rf (h : gH) : xfr h h := ⟨fun _ _ _ => rfl, fun _ _ _ _ => rfl⟩
theorem xfr_tr {a b c : gH} (h1 : xfr a b) (h2 : xfr b c) : xfr a c := ⟨fun o ho hp => (h2.1 o ho hp).trans (h1.1 o ho hp), fun k a b c => (h2.2 k a b c).trans (h1.2 k a b c)⟩
theorem xfr_hu (h : gH) {k : Nat} (v : Int32) (w : k = 8 ∨ k = 9 ∨ k = 11) : xfr h (hu h 10 k v) := ⟨fun _ ho _ => hu_ne ho, fun j a b c => hu_k _ _ _ _ (by omega)⟩
theorem TK_fr {T : qTp} {k : Nat} {h h1 : gH} (H : TK h T k) (f : xfr h h1) : TK h1 T k := ⟨by rw [f.2 7 (by decide) (by decide) (by decide)]; exact H.1, fun i hi => by rw [f.1 12 (by decide) (by decide), f.1 13 (by decide) (by decide), f.1 14 (by decide) (by decide)]; exact H.2 i hi⟩
theorem tok_eq {T : qTp} {c : Nat} (C : C0 T c) {h : gH} {q : Nat} (H : CP T c h q) : fT_token h = some (nI (qkd T q), h) := by
  obtain ⟨H1, i, hi, e, et⟩ := H
  have := C.1
  unfold fT_token
  rw [e, gg_t (gin_t (by omega) (by omega)), clampn (by omega), (H1.2 i (by omega)).1, et]
theorem pass_sp {T : qTp} {c : Nat} (C : C0 T c) {h : gH} {q : Nat} (H : CP T c h q) : Sp (fT_pass h) (fun h1 => CP T c h1 (qnt T q) ∧ xfr h h1 ∧ h1 10 9 = h 10 9 ∧ h1 10 11 = h 10 11 ∧ h1 15 = h 15) := by
  obtain ⟨H1, i, hi, e, et⟩ := H
  have := C.1
  unfold fT_pass
  rw [e, H1.1, show nI (c + 1) - (1 : Int32) = nI c from nsub (a := c + 1) (b := 1) (by omega)]
  by_cases w : i < c
  · refine Sp_pos ((nlt (by omega) (by omega)).mpr w) (Sp_some ?_)
    rw [nadd_l i 1]
    have f : xfr h (hu h 10 8 (nI (i + 1))) := xfr_hu h _ (Or.inl rfl)
    exact ⟨⟨TK_fr H1 f, i + 1, w, hu_same _ _ _ _, by show qnt T (tkp T i) = _; rw [et]⟩, f, hu_k _ _ _ _ (by decide), hu_k _ _ _ _ (by decide), hu_ne (by decide)⟩
  · have ic : i = c := by omega
    refine Sp_neg (nI_nlt (by omega) (by omega)) (Sp_some ⟨⟨H1, i, hi, e, ?_⟩, xfr_rf h, rfl, rfl, rfl⟩)
    rw [ic, C.2.1]
    rw [ic, C.2.1] at et
    rw [← et]; unfold qnt; rw [if_neg (Nat.lt_irrefl _)]
/-- the steps from k on -/
def ST (h : gH) (k : Nat) (l : List Int32) : Prop := ∀ i, i < l.length → h 15 (k + i) = l.getD i 0
theorem ST_app {h : gH} {k : Nat} {l1 l2 : List Int32} (a : ST h k l1) (b : ST h (k + l1.length) l2) : ST h k (l1 ++ l2) := by
  intro i hi
  rw [List.length_append] at hi
  by_cases c : i < l1.length
  · rw [List.getD_eq_getElem?_getD, List.getElem?_append_left c, ← List.getD_eq_getElem?_getD]; exact a i c
  · rw [List.getD_eq_getElem?_getD, List.getElem?_append_right (by omega), ← List.getD_eq_getElem?_getD]
    have := b (i - l1.length) (by omega)
    rw [show k + l1.length + (i - l1.length) = k + i by omega] at this
    exact this
theorem emit_sp {h : gH} {j : Nat} (hj : j < 90) (e : h 10 9 = nI j) (v : Int32) : Sp (fT_emit v h) (fun h1 => xfr h h1 ∧ h1 10 9 = nI (j + 1) ∧ h1 10 8 = h 10 8 ∧ h1 10 11 = h 10 11 ∧ h1 15 j = v ∧ ∀ i, i ≠ j → h1 15 i = h 15 i) := by
  unfold fT_emit
  rw [e]
  refine Sp_pos ((nI_ltI (b := 90) (by omega) (by decide)).mpr hj) (Sp_gg (gin_t hj (by omega)) (Sp_let (Sp_some ?_)))
  rw [hu_ne (show (10 : Nat) ≠ 15 by decide), e, nadd_l j 1, clampn (by omega)]
  refine ⟨⟨fun b b1 b2 => by rw [hu_ne b1, hu_ne b2], fun k a b c => by rw [hu_k _ _ _ _ b, hu_ne (by decide)]⟩, hu_same _ _ _ _, ?_, ?_, ?_, fun i hi => ?_⟩
  · rw [hu_k _ _ _ _ (by decide), hu_ne (by decide)]
  · rw [hu_k _ _ _ _ (by decide), hu_ne (by decide)]
  · rw [hu_ne (by decide), hu_same]
  · rw [hu_ne (by decide), hu_k _ _ _ _ hi]
/-- .. or not, where there is no room -/
theorem emit_any {h : gH} {j : Nat} (hj : j ≤ 90) (e : h 10 9 = nI j) (v : Int32) : Sp (fT_emit v h) (fun h1 => xfr h h1 ∧ h1 10 8 = h 10 8 ∧ ∃ i, i ≤ 90 ∧ h1 10 9 = nI i) := by
  by_cases c : j < 90
  · exact Sp_mono (emit_sp c e v) (fun h1 q => ⟨q.1, q.2.2.1, j + 1, c, q.2.1⟩)
  · unfold fT_emit
    rw [e]
    exact Sp_neg (fun z => c ((nI_ltI (b := 90) (by omega) (by decide)).mp z)) (Sp_some ⟨xfr_rf h, rfl, j, hj, e⟩)
theorem CP_fr {T : qTp} {c : Nat} {h h1 : gH} {q : Nat} (H : CP T c h q) (f : xfr h h1) (e : h1 10 8 = h 10 8) : CP T c h1 q := ⟨TK_fr H.1 f, by rw [e]; exact H.2⟩
def XRs (T : qTp) (c : Nat) (h : gH) (k : Nat) (r : pR) (p : Int32 × gH) : Prop := xfr h p.2 ∧ p.1 = b2i r.1 ∧ CP T c p.2 r.2.1 ∧ (∃ j, j ≤ 90 ∧ p.2 10 9 = nI j) ∧ (r.1 = true → p.2 10 11 = mkn 8 r.2.2.1 ∧ p.2 10 9 = nI (k + r.2.2.2.1.length) ∧ ST p.2 k r.2.2.2.1 ∧ ∀ i, i < k → p.2 15 i = h 15 i)
def XPar (T : qTp) (c : Nat) (g : Int32 → gH → Option (Int32 × gH)) (f : pP) (d : Nat) : Prop := ∀ h q V k, CP T c h q → q ≤ T.1 → h 10 11 = mkn 8 V → h 10 9 = nI k → k ≤ q → Sp (g (nI d) h) (XRs T c h k (f q V))
theorem XRs_no {T : qTp} {c : Nat} {h h1 : gH} {k j q : Nat} {V : Nat → Bool} (f : xfr h h1) (H : CP T c h1 q) (hj : j ≤ 90) (e : h1 10 9 = nI j) : XRs T c h k (pno q V) (0, h1) := ⟨f, rfl, H, ⟨j, hj, e⟩, (fun z => by cases z)⟩
/-- a step of its own -/
theorem emit1 {T : qTp} {c : Nat} (C : C0 T c) {h h0 : gH} {q k : Nat} {V : Nat → Bool} {v : Int32} {x : qX} (f0 : xfr h0 h) (f15 : h 15 = h0 15) (H : CP T c h q) (hk : k < 90) (e9 : h 10 9 = nI k) (e11 : h 10 11 = mkn 8 V) : Sp ((fT_emit v h).bind fun h22 => (fT_pass h22).bind fun h24 => some ((1 : Int32), h24)) (XRs T c h0 k (true, qnt T q, V, [v], x)) := by
  refine Sp_bind (emit_sp hk e9 v) (fun h1 _ g => ?_)
  obtain ⟨g1, g2, g3, g4, g5, g6⟩ := g
  refine Sp_bind (pass_sp C (CP_fr H g1 g3)) (fun h2 _ m => Sp_some ?_)
  obtain ⟨m1, m2, m3, m4, m5⟩ := m
  refine ⟨xfr_tr f0 (xfr_tr g1 m2), rfl, m1, ⟨k + 1, by omega, by dsimp only; rw [m3, g2]⟩, fun _ => ⟨by dsimp only; rw [m4, g4]; exact e11, by dsimp only; rw [m3, g2]; rfl, fun i hi => ?_, fun i hi => ?_⟩⟩
  · have : i = 0 := by have hi : i < 1 := hi; omega
    subst this
    dsimp only
    rw [m5]; exact g5
  · dsimp only
    rw [m5, g6 i (by omega), f15]
theorem xnamed {T : qTp} (B : TpB T) {c : Nat} (C : C0 T c) {h : gH} {q k : Nat} {V : Nat → Bool} (H : CP T c h q) (hq : q ≤ T.1) (e11 : h 10 11 = mkn 8 V) (e9 : h 10 9 = nI k) (hk : k ≤ q) (k2 : qkd T q = 2) : Sp (fT_named h) (XRs T c h k (if 3 < qcnt (padd V (qvl T q)) 8 then pno q V else (true, qnt T q, padd V (qvl T q), [nI (10000 + qvl T q)], fun e => e (qvl T q)))) := by
  have hn := B.1
  have hc90 := C.1
  have hql := qkd_lt (T := T) (q := q) (by omega)
  have v8 := qvl8 k2
  obtain ⟨H1, i, hi, e, et⟩ := H
  have e14 := (H1.2 i (by omega)).2.2 (by rw [et]; exact Or.inr k2)
  rw [et] at e14
  unfold fT_named
  rw [e, clampn (show i < 2 ^ 31 by omega), e14, e11, mkn_ins (by decide) v8]
  refine Sp_gg (gin_t (by omega) (by omega)) (Sp_eq (bitCount_eq _ _) ?_)
  dsimp only
  rw [bc_mkn (by decide)]
  have hc : qcnt (padd V (qvl T q)) 8 ≤ 8 := qcnt_le _ _
  by_cases w : 3 < qcnt (padd V (qvl T q)) 8
  · rw [if_pos w]
    exact Sp_pos ((nI_ltI (a := 3) (by decide) (Nat.lt_of_le_of_lt hc (by decide))).mpr w) (Sp_some (XRs_no (xfr_rf h) ⟨H1, i, hi, e, et⟩ (show k ≤ 90 by omega) e9))
  · rw [if_neg w]
    refine Sp_neg (fun z => w ((nI_ltI (a := 3) (by decide) (Nat.lt_of_le_of_lt hc (by decide))).mp z)) (Sp_let ?_)
    have f1 : xfr h (hu h 10 11 (mkn 8 fun i => V i || decide (i = qvl T q))) := xfr_hu h _ (Or.inr (Or.inr rfl))
    rw [hu_k _ _ _ _ (show (8 : Nat) ≠ 11 by decide), e, clampn (show i < 2 ^ 31 by omega), hu_ne (show (14 : Nat) ≠ 10 by decide), e14, show (10000 : Int32) + nI (qvl T q) = nI (10000 + qvl T q) from nI_add 10000 _]
    refine Sp_gg (gin_t (by omega) (by omega)) ?_
    exact emit1 C f1 (hu_ne (by decide)) ⟨TK_fr H1 f1, i, hi, by rw [hu_k _ _ _ _ (by decide)]; exact e, et⟩ (by omega) (by rw [hu_k _ _ _ _ (by decide)]; exact e9) (hu_same _ _ _ _)
/-- where a chain stands -/
def XCh (T : qTp) (c : Nat) (h0 h : gH) (k : Nat) (r : pR) : Prop := r.1 = true ∧ xfr h0 h ∧ CP T c h r.2.1 ∧ r.2.1 ≤ T.1 ∧ h 10 11 = mkn 8 r.2.2.1 ∧ h 10 9 = nI (k + r.2.2.2.1.length) ∧ ST h k r.2.2.2.1 ∧ (∀ i, i < k → h 15 i = h0 15 i) ∧ k + r.2.2.2.1.length ≤ r.2.1
theorem XCh_end {T : qTp} (B : TpB T) {c : Nat} {h0 h : gH} {k : Nat} {r : pR} (H : XCh T c h0 h k r) : XRs T c h0 k r (1, h) := by
  obtain ⟨a1, a2, a3, a4, a5, a6, a7, a8, a9⟩ := H
  have := B.1
  exact ⟨a2, by rw [a1]; rfl, a3, ⟨_, by omega, a6⟩, fun _ => ⟨a5, a6, a7, a8⟩⟩
/-- one more link of it -/
theorem xlink {T : qTp} (B : TpB T) {c : Nat} (C : C0 T c) {g : Int32 → gH → Option (Int32 × gH)} {f : pP} {d : Nat} (hf : PG T f) (hR : XPar T c g f d) {h0 h : gH} {k : Nat} {r : pR} (H : XCh T c h0 h k r) (k0 : ¬ qkd T r.2.1 = 0) {v : Int32} (hv : v = nI (10100 + qkd T r.2.1)) {x : qX} {K : gH → Option (Int32 × gH)} {r2 : pR} (hK : ∀ h1, XCh T c h0 h1 k (true, (f (qnt T r.2.1) r.2.2.1).2.1, (f (qnt T r.2.1) r.2.2.1).2.2.1, r.2.2.2.1 ++ ((f (qnt T r.2.1) r.2.2.1).2.2.2.1 ++ [nI (10100 + qkd T r.2.1)]), x) → Sp (K h1) (XRs T c h0 k r2)) :
    Sp ((fT_pass h).bind fun h7 => (g (nI d) h7).bind fun p9 => if p9.1 = (0 : Int32) then some ((0 : Int32), p9.2) else (fT_emit v p9.2).bind fun h11 => K h11) (XRs T c h0 k (if (f (qnt T r.2.1) r.2.2.1).1 = true then r2 else pno (f (qnt T r.2.1) r.2.2.1).2.1 r.2.2.1)) := by
  obtain ⟨a1, a2, a3, a4, a5, a6, a7, a8, a9⟩ := H
  have hn := B.1
  have nx := qnt_gt (qkd_lt k0)
  have pg := hf (qnt T r.2.1) r.2.2.1 nx.2
  refine Sp_bind (pass_sp C a3) (fun h1 _ m => ?_)
  obtain ⟨m1, m2, m3, m4, m5⟩ := m
  refine Sp_bind (hR h1 (qnt T r.2.1) r.2.2.1 (k + r.2.2.2.1.length) m1 nx.2 (by rw [m4]; exact a5) (by rw [m3]; exact a6) (by omega)) (fun p _ q => ?_)
  obtain ⟨q1, q2, q3, ⟨j, hj, q4⟩, q5⟩ := q
  have fr2 : xfr h0 p.2 := xfr_tr a2 (xfr_tr m2 q1)
  by_cases w : (f (qnt T r.2.1) r.2.2.1).1 = true
  · rw [if_pos w]
    obtain ⟨s1, s2, s3, s4⟩ := q5 w
    obtain ⟨t1, t2, t3⟩ := pg.2.2 w
    refine Sp_neg (by rw [q2, w]; decide) (Sp_bind (emit_sp (j := k + r.2.2.2.1.length + (f (qnt T r.2.1) r.2.2.1).2.2.2.1.length) (by omega) s2 v) (fun h2 _ u => hK h2 ?_))
    obtain ⟨u1, u2, u3, u4, u5, u6⟩ := u
    refine ⟨rfl, xfr_tr fr2 u1, CP_fr q3 u1 u3, pg.2.1, by rw [u4]; exact s1, ?_, ?_, fun i hi => ?_, ?_⟩
    · rw [u2]
      dsimp only
      rw [List.length_append, List.length_append]
      exact congrArg nI (by show _ = k + (_ + (_ + 1)); omega)
    · dsimp only
      refine ST_app (fun i hi => ?_) (ST_app (fun i hi => ?_) (fun i hi => ?_))
      · rw [u6 _ (by omega), s4 _ (by omega), m5]; exact a7 i hi
      · rw [u6 _ (by omega)]; exact s3 i hi
      · have : i = 0 := by have hi : i < 1 := hi; omega
        subst this
        rw [Nat.add_zero, u5, hv]; rfl
    · rw [u6 _ (by omega), s4 _ (by omega), m5]; exact a8 i hi
    · dsimp only
      rw [List.length_append, List.length_append]
      show k + (_ + (_ + 1)) ≤ _
      omega
  · rw [if_neg w]
    exact Sp_pos (by rw [q2, Bool.eq_false_iff.mpr w]; rfl) (Sp_some (XRs_no fr2 q3 hj q4))
theorem xterm12 {T : qTp} (B : TpB T) {c : Nat} (C : C0 T c) {R : Nat → Int32 → gH → Option (Int32 × gH)} {f : pP} {d : Nat} (hf : PG T f) (hR : XPar T c (R 0) f d) {h0 : gH} {k : Nat} : ∀ (m v2 fu : Nat) (h : gH) (r : pR), v2 + m = 90 → m < fu → XCh T c h0 h k r → Sp (fT_term_12 R (nI d) fu (nI v2) h) (XRs T c h0 k (pCh T s42 f m r)) := by
  intro m
  induction m with
  | zero =>
    intro v2 fu h r hv hfu H
    obtain ⟨fu, rfl⟩ : ∃ f, fu = f + 1 := ⟨fu - 1, by omega⟩
    unfold fT_term_12 pCh
    exact Sp_neg (nI_nlt (b := 90) (by omega) (by omega)) (Sp_some (XCh_end B H))
  | succ m ih =>
    intro v2 fu h r hv hfu H
    obtain ⟨fu, rfl⟩ : ∃ f, fu = f + 1 := ⟨fu - 1, by omega⟩
    have hkd := qkd_cases T r.2.1
    unfold fT_term_12 pCh
    refine Sp_pos ((nI_ltI (b := 90) (by omega) (by decide)).mpr (by omega)) (Sp_eq (tok_eq C H.2.2.1) ?_)
    dsimp only
    by_cases w : qkd T r.2.1 = 42
    · rw [if_pos (show s42 (qkd T r.2.1) = true by unfold s42; exact decide_eq_true w)]
      refine Sp_pos (by rw [w]; rfl) ?_
      refine xlink B C hf hR H (by omega) (v := 10142) (by rw [w]; rfl) (x := fun e => (if qkd T r.2.1 = 43 then r.2.2.2.2 e + (f (qnt T r.2.1) r.2.2.1).2.2.2.2 e else if qkd T r.2.1 = 45 then r.2.2.2.2 e - (f (qnt T r.2.1) r.2.2.1).2.2.2.2 e else r.2.2.2.2 e * (f (qnt T r.2.1) r.2.2.1).2.2.2.2 e)) (K := fun h9 => fT_term_12 R (nI d) fu (nI v2 + 1) h9) (fun h1 H1 => ?_)
      rw [nadd_l v2 1]
      exact ih (v2 + 1) fu h1 _ (by omega) (by omega) H1
    · rw [if_neg (show ¬ s42 (qkd T r.2.1) = true by unfold s42; rw [decide_eq_true_eq]; exact w)]
      exact Sp_neg (fun z => w ((nI_eq (b := 42) (by omega) (by omega)).mp z)) (Sp_some (XCh_end B H))
theorem XCh_of {T : qTp} (B : TpB T) {c : Nat} {h0 : gH} {k q : Nat} {r : pR} {p : Int32 × gH} (H : XRs T c h0 k r p) (e : r.1 = true) (hr : r.2.1 ≤ T.1) (hk : k ≤ q) (hl : q + r.2.2.2.1.length ≤ r.2.1) : XCh T c h0 p.2 k r := by
  obtain ⟨q1, q2, q3, -, q5⟩ := H
  obtain ⟨s1, s2, s3, s4⟩ := q5 e
  exact ⟨e, q1, q3, hr, s1, s2, s3, s4, by omega⟩
theorem xterm {T : qTp} (B : TpB T) {c : Nat} (C : C0 T c) {R : Nat → Int32 → gH → Option (Int32 × gH)} {f : pP} {d : Nat} (hf : PG T f) (hR : XPar T c (R 0) f d) : XPar T c (fT_term R) (pTerm T f) d := by
  intro h q V k H hq e11 e9 hk
  have pg := hf q V hq
  unfold fT_term pTerm pC
  refine Sp_bind (hR h q V k H hq e11 e9 hk) (fun p _ g => ?_)
  by_cases w : (f q V).1 = true
  · rw [if_pos w]
    have := pg.2.2 w
    refine Sp_neg (by rw [g.2.1, w]; decide) ?_
    have x0 := xterm12 B C hf hR (h0 := h) (k := k) 90 0 gfu p.2 (f q V) (by omega) (by unfold gfu; omega) (XCh_of B g w pg.2.1 hk this.2.1)
    rw [nI_0] at x0
    exact x0
  · rw [if_neg w]
    obtain ⟨g1, g2, g3, g4, g5⟩ := g
    exact Sp_pos (by rw [g2, Bool.eq_false_iff.mpr w]; rfl) (Sp_some ⟨g1, by rw [Bool.eq_false_iff.mpr w]; rfl, g3, g4, fun z => absurd z w⟩)
theorem xsum12 {T : qTp} (B : TpB T) {c : Nat} (C : C0 T c) {R : Nat → Int32 → gH → Option (Int32 × gH)} {f : pP} {d : Nat} (hf : PG T f) (hR : XPar T c (R 3) f d) {h0 : gH} {k : Nat} : ∀ (m v2 fu : Nat) (h : gH) (r : pR), v2 + m = 90 → m < fu → XCh T c h0 h k r → Sp (fT_sum_12 R (nI d) fu (nI v2) h) (XRs T c h0 k (pCh T s43 f m r)) := by
  intro m
  induction m with
  | zero =>
    intro v2 fu h r hv hfu H
    obtain ⟨fu, rfl⟩ : ∃ f, fu = f + 1 := ⟨fu - 1, by omega⟩
    unfold fT_sum_12 pCh
    exact Sp_neg (nI_nlt (b := 90) (by omega) (by omega)) (Sp_some (XCh_end B H))
  | succ m ih =>
    intro v2 fu h r hv hfu H
    obtain ⟨fu, rfl⟩ : ∃ f, fu = f + 1 := ⟨fu - 1, by omega⟩
    have hkd := qkd_cases T r.2.1
    have e43 : nI (qkd T r.2.1) = (43 : Int32) ↔ qkd T r.2.1 = 43 := nI_eq (b := 43) (by omega) (by omega)
    have e45 : nI (qkd T r.2.1) = (45 : Int32) ↔ qkd T r.2.1 = 45 := nI_eq (b := 45) (by omega) (by omega)
    have st : (qkd T r.2.1 = 43 ∨ qkd T r.2.1 = 45) → Sp (fT_sum_36 R (fT_sum_12 R (nI d) fu) (nI d) (nI v2) h) (XRs T c h0 k (pCh T s43 f (m + 1) r)) := by
      intro w
      unfold fT_sum_36 pCh
      rw [if_pos (show s43 (qkd T r.2.1) = true by unfold s43; simpa using w)]
      refine Sp_eq (tok_eq C H.2.2.1) ?_
      dsimp only
      refine xlink B C hf hR H (by omega) (v := (10100 : Int32) + nI (qkd T r.2.1)) (nI_add 10100 _) (x := fun e => (if qkd T r.2.1 = 43 then r.2.2.2.2 e + (f (qnt T r.2.1) r.2.2.1).2.2.2.2 e else if qkd T r.2.1 = 45 then r.2.2.2.2 e - (f (qnt T r.2.1) r.2.2.1).2.2.2.2 e else r.2.2.2.2 e * (f (qnt T r.2.1) r.2.2.1).2.2.2.2 e)) (K := fun h9 => fT_sum_12 R (nI d) fu (nI v2 + 1) h9) (fun h1 H1 => ?_)
      rw [nadd_l v2 1]
      exact ih (v2 + 1) fu h1 _ (by omega) (by omega) H1
    unfold fT_sum_12
    refine Sp_pos ((nI_ltI (b := 90) (by omega) (by decide)).mpr (by omega)) (Sp_eq (tok_eq C H.2.2.1) ?_)
    dsimp only
    by_cases w : qkd T r.2.1 = 43
    · exact Sp_pos (e43.mpr w) (st (Or.inl w))
    refine Sp_neg (fun z => w (e43.mp z)) (Sp_eq (tok_eq C H.2.2.1) ?_)
    dsimp only
    by_cases w2 : qkd T r.2.1 = 45
    · exact Sp_pos (e45.mpr w2) (st (Or.inr w2))
    refine Sp_neg (fun z => w2 (e45.mp z)) ?_
    unfold pCh
    rw [if_neg (show ¬ s43 (qkd T r.2.1) = true by unfold s43; simp; exact ⟨w, w2⟩)]
    exact Sp_some (XCh_end B H)
theorem xsum {T : qTp} (B : TpB T) {c : Nat} (C : C0 T c) {R : Nat → Int32 → gH → Option (Int32 × gH)} {f : pP} {d : Nat} (hf : PG T f) (hR : XPar T c (R 3) (pTerm T f) d) : XPar T c (fT_sum R) (pSum T f) d := by
  intro h q V k H hq e11 e9 hk
  have hf := PG_term hf
  have pg := hf q V hq
  unfold fT_sum pSum pC
  refine Sp_bind (hR h q V k H hq e11 e9 hk) (fun p _ g => ?_)
  by_cases w : (pTerm T f q V).1 = true
  · rw [if_pos w]
    have := pg.2.2 w
    refine Sp_neg (by rw [g.2.1, w]; decide) ?_
    have x0 := xsum12 B C hf hR (h0 := h) (k := k) 90 0 gfu p.2 (pTerm T f q V) (by omega) (by unfold gfu; omega) (XCh_of B g w pg.2.1 hk this.2.1)
    rw [nI_0] at x0
    exact x0
  · rw [if_neg w]
    obtain ⟨g1, g2, g3, g4, g5⟩ := g
    exact Sp_pos (by rw [g2, Bool.eq_false_iff.mpr w]; rfl) (Sp_some ⟨g1, by rw [Bool.eq_false_iff.mpr w]; rfl, g3, g4, fun z => absurd z w⟩)
theorem xone {T : qTp} (B : TpB T) {c : Nat} (C : C0 T c) {R : Nat → Int32 → gH → Option (Int32 × gH)} {R2 : Nat → Int32 → gH → Option (Int32 × gH)} {neg sum : pP} {d : Nat} (dp : Bool) (hd : dp = decide (d < 5)) (d5 : d ≤ 5) (hn : PG T neg) (hs : PG T sum) (hR0 : dp = true → XPar T c (R 0) neg (d + 1)) (hR1 : dp = true → ∀ v h, R 1 v h = fT_bracketed R2 v h) (hR2 : dp = true → XPar T c (R2 2) sum (d + 1)) : XPar T c (fT_one R) (pOne T dp neg sum) d := by
  intro h q V k H hq e11 e9 hk
  have hnb := B.1
  have hc90 := C.1
  have hkd := qkd_cases T q
  have ek : ∀ s : Nat, s < 100 → (nI (qkd T q) = nI s ↔ qkd T q = s) := fun s hs => nI_eq (by omega) (by omega)
  unfold fT_one
  refine Sp_eq (tok_eq C H) ?_
  dsimp only
  by_cases k1 : qkd T q = 1
  · have hql := qkd_lt (T := T) (q := q) (by omega)
    rw [pOne_1 k1]
    refine Sp_pos ((ek 1 (by omega)).mpr k1) ?_
    obtain ⟨H1, i, hi, e, et⟩ := H
    have e14 := (H1.2 i (by omega)).2.2 (by rw [et]; exact Or.inl k1)
    rw [et] at e14
    rw [e, clampn (by omega), e14]
    exact Sp_gg (gin_t (by omega) (by omega)) (emit1 C (xfr_rf h) rfl ⟨H1, i, hi, e, et⟩ (by omega) e9 e11)
  refine Sp_neg (fun z => k1 ((ek 1 (by omega)).mp z)) (Sp_eq (tok_eq C H) ?_)
  dsimp only
  by_cases k2 : qkd T q = 2
  · have e : pOne T dp neg sum q V = (if 3 < qcnt (padd V (qvl T q)) 8 then pno q V else (true, qnt T q, padd V (qvl T q), [nI (10000 + qvl T q)], fun e => e (qvl T q))) := by unfold pOne; rw [if_neg (by omega), if_pos k2]
    rw [e]
    refine Sp_pos ((ek 2 (by omega)).mpr k2) (Sp_bind (xnamed B C H hq e11 e9 hk k2) (fun p _ g => Sp_gg ?_ (Sp_some g)))
    rw [g.2.1]; exact gbo_b _
  refine Sp_neg (fun z => k2 ((ek 2 (by omega)).mp z)) ?_
  have no : ∀ (q2 : Nat) (h2 : gH) (j : Nat), xfr h h2 → CP T c h2 q2 → j ≤ 90 → h2 10 9 = nI j → XRs T c h k (pno q2 V) (0, h2) := fun q2 h2 j f a b e => XRs_no f a b e
  cases dp with
  | false =>
    have : ¬ d < 5 := of_decide_eq_false hd.symm
    rw [pOne_f k1 k2]
    exact Sp_neg (fun z => this ((nI_ltI (b := 5) (by omega) (by decide)).mp z)) (Sp_some (no q h k (xfr_rf h) H (by omega) e9))
  | true =>
    have : d < 5 := of_decide_eq_true hd.symm
    refine Sp_pos ((nI_ltI (b := 5) (by omega) (by decide)).mpr this) (Sp_eq (tok_eq C H) ?_)
    dsimp only
    by_cases k3 : qkd T q = 45
    · have nx := qnt_gt (qkd_lt (T := T) (q := q) (by omega))
      have pg := hn (qnt T q) V nx.2
      rw [pOne_45 k3]
      refine Sp_pos ((ek 45 (by omega)).mpr k3) (Sp_bind (pass_sp C H) (fun h1 _ m => ?_))
      obtain ⟨m1, m2, m3, m4, m5⟩ := m
      rw [nadd_l d 1]
      refine Sp_bind (hR0 rfl h1 (qnt T q) V k m1 nx.2 (by rw [m4]; exact e11) (by rw [m3]; exact e9) (by omega)) (fun p _ g => ?_)
      obtain ⟨g1, g2, g3, ⟨j, hj, g4⟩, g5⟩ := g
      have gb : gbo p.1 = true := by rw [g2]; exact gbo_b _
      by_cases w : (neg (qnt T q) V).1 = true
      · obtain ⟨s1, s2, s3, s4⟩ := g5 w
        obtain ⟨t1, t2, t3⟩ := pg.2.2 w
        refine Sp_bind (emit_sp (by omega) s2 10008) (fun h2 _ u => Sp_gg gb (Sp_some ?_))
        obtain ⟨u1, u2, u3, u4, u5, u6⟩ := u
        refine ⟨xfr_tr m2 (xfr_tr g1 u1), g2, CP_fr g3 u1 u3, ⟨_, (show k + (neg (qnt T q) V).2.2.2.1.length + 1 ≤ 90 by omega), u2⟩, fun _ => ⟨by dsimp only; rw [u4]; exact s1, ?_, ?_, fun i hi => ?_⟩⟩
        · dsimp only
          rw [u2, List.length_append]; rfl
        · dsimp only
          refine ST_app (fun i hi => ?_) (fun i hi => ?_)
          · rw [u6 _ (by omega)]; exact s3 i hi
          · have : i = 0 := by have hi : i < 1 := hi; omega
            subst this
            rw [Nat.add_zero, u5]; rfl
        · dsimp only
          rw [u6 _ (by omega), s4 i hi, m5]
      · refine Sp_bind (emit_any hj g4 10008) (fun h2 _ u => Sp_gg gb (Sp_some ?_))
        obtain ⟨u1, u2, i, hi, u3⟩ := u
        exact ⟨xfr_tr m2 (xfr_tr g1 u1), g2, CP_fr g3 u1 u2, ⟨i, hi, u3⟩, fun z => absurd z w⟩
    refine Sp_neg (fun z => k3 ((ek 45 (by omega)).mp z)) (Sp_eq (tok_eq C H) ?_)
    dsimp only
    by_cases k4 : qkd T q = 40
    · have nx := qnt_gt (qkd_lt (T := T) (q := q) (by omega))
      have pg := hs (qnt T q) V nx.2
      refine Sp_pos ((ek 40 (by omega)).mpr k4) ?_
      rw [hR1 rfl, nadd_l d 1]
      have br : Sp (fT_bracketed R2 (nI (d + 1)) h) (XRs T c h k (pOne T true neg sum q V)) := by
        unfold fT_bracketed
        refine Sp_bind (pass_sp C H) (fun h1 _ m => ?_)
        obtain ⟨m1, m2, m3, m4, m5⟩ := m
        refine Sp_bind (hR2 rfl h1 (qnt T q) V k m1 nx.2 (by rw [m4]; exact e11) (by rw [m3]; exact e9) (by omega)) (fun p _ g => ?_)
        obtain ⟨g1, g2, g3, ⟨j, hj, g4⟩, g5⟩ := g
        have fr := xfr_tr m2 g1
        have hkd2 := qkd_cases T (sum (qnt T q) V).2.1
        by_cases w : (sum (qnt T q) V).1 = true
        · obtain ⟨s1, s2, s3, s4⟩ := g5 w
          refine Sp_neg (by rw [g2, w]; decide) (Sp_eq (tok_eq C g3) ?_)
          dsimp only
          by_cases w2 : qkd T (sum (qnt T q) V).2.1 = 41
          · rw [pOne_40 k4 ⟨w, w2⟩]
            refine Sp_pos (by rw [w2]; rfl) (Sp_bind (pass_sp C g3) (fun h3 _ n => Sp_some ?_))
            obtain ⟨n1, n2, n3, n4, n5⟩ := n
            refine ⟨xfr_tr fr n2, rfl, n1, ⟨j, hj, by dsimp only; rw [n3]; exact g4⟩, fun _ => ⟨by dsimp only; rw [n4]; exact s1, by dsimp only; rw [n3]; exact s2, fun i hi => ?_, fun i hi => ?_⟩⟩
            · dsimp only; rw [n5]; exact s3 i hi
            · dsimp only; rw [n5, s4 i hi, m5]
          · rw [pOne_40b k4 (fun z => w2 z.2)]
            exact Sp_neg (fun z => w2 ((nI_eq (b := 41) (by omega) (by omega)).mp z)) (Sp_some (no _ _ j fr g3 hj g4))
        · rw [pOne_40b k4 (fun z => w z.1)]
          exact Sp_pos (by rw [g2, Bool.eq_false_iff.mpr w]; rfl) (Sp_some (no _ _ j fr g3 hj g4))
      refine Sp_bind br (fun p _ g => ?_)
      cases w : (pOne T true neg sum q V).1 with
      | true => exact Sp_neg (by rw [g.2.1, w]; decide) (Sp_some ⟨g.1, by rw [w]; rfl, g.2.2⟩)
      | false => exact Sp_pos (by rw [g.2.1, w]; rfl) (Sp_some ⟨g.1, by rw [w]; rfl, g.2.2⟩)
    · rw [pOne_x k1 k2 k3 k4]
      exact Sp_neg (fun z => k4 ((ek 40 (by omega)).mp z)) (Sp_some (no q h k (xfr_rf h) H (by omega) e9))
theorem xlv {T : qTp} (B : TpB T) {c : Nat} (C : C0 T c) : ∀ (k d n : Nat), d + k = 5 → 4 * k + 1 ≤ n → XPar T c (gTG n 0) (pLv T k) d := by
  intro k
  induction k with
  | zero =>
    intro d n hd hn
    obtain ⟨n, rfl⟩ : ∃ f, n = f + 1 := ⟨n - 1, by omega⟩
    have : d = 5 := by omega
    subst this
    exact xone B C (R2 := gTG n) false (by decide) (by omega) (PG_no T) (PG_no T) (fun z => by cases z) (fun z => by cases z) (fun z => by cases z)
  | succ k ih =>
    intro d n hd hn
    obtain ⟨n, rfl⟩ : ∃ f, n = f + 4 := ⟨n - 4, by omega⟩
    have hg := PG_lv T k
    refine xone B C (R2 := gTG (n + 2)) true (by rw [decide_eq_true (show d < 5 by omega)]) (by omega) hg (PG_sum hg) (fun _ => ih (d + 1) (n + 3) (by omega) (by omega)) (fun _ v h => rfl) (fun _ => ?_)
    exact xsum B C (R := gTG (n + 1)) hg (xterm B C (R := gTG n) hg (ih (d + 1) n (by omega) (by omega)))
theorem xsum_all {T : qTp} (B : TpB T) {c : Nat} (C : C0 T c) : XPar T c (gTG 40 2) (pSum T (pLv T 5)) 0 := xsum B C (R := gTG 39) (PG_lv T 5) (xterm B C (R := gTG 38) (PG_lv T 5) (xlv B C 5 0 38 (by omega) (by omega)))

