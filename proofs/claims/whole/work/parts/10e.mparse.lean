/-! the reference reads, and reckons as it reads -/
theorem qkd_cases (T : qTp) (q : Nat) : qkd T q ≤ 4 ∨ (33 ≤ qkd T q ∧ qkd T q ≤ 62) := by
  unfold qkd
  split
  · split
    · split <;> omega
    · split
      · split
        · split <;> omega
        · split <;> omega
      · split
        · rename_i h; right; exact tsg_le h
        · omega
  · omega
theorem sign_live {T : qTp} {h : gH} {q : Nat} (H : RT h T q) (h29 : h 65 29 = 0) {s : Nat} (hs : 33 ≤ s) (hs2 : s ≤ 62) : fM_isSign (nI s) h = some (b2i (decide (qkd T q = s)), h) := by
  obtain ⟨-, -, ⟨k0, k1, k2, k3, k4, k5⟩, -⟩ := H
  unfold fM_isSign
  rw [if_pos h29]
  rcases qkd_cases T q with c | c
  · have : ¬ h 65 25 = 3 := by
      have : qkd T q = 0 ∨ qkd T q = 1 ∨ qkd T q = 2 ∨ qkd T q = 3 ∨ qkd T q = 4 := by omega
      rcases this with e | e | e | e | e
      · rw [k0 e]; decide
      · rw [(k1 e).1]; decide
      · rw [(k2 e).1]; decide
      · rw [(k3 e).1]; decide
      · rw [k4 e]; decide
    rw [if_neg this, decide_eq_false (by omega)]; rfl
  · obtain ⟨a, b, -⟩ := k5 c.1
    rw [if_pos a, b]
    by_cases e : qkd T q = s
    · rw [if_pos (by rw [e]), decide_eq_true e]; rfl
    · rw [if_neg (fun z => e ((nI_eq (by omega) (by omega)).mp z)), decide_eq_false e]; rfl
theorem sign_dead {h : gH} (h29 : h 65 29 = 1) (s : Int32) : fM_isSign s h = some (0, h) := by
  unfold fM_isSign
  rw [if_neg (by rw [h29]; decide)]
theorem fail_dead {h : gH} (h29 : h 65 29 = 1) : fM_fail h = some h := by
  unfold fM_fail
  rw [if_neg (by rw [h29]; decide)]
theorem fail_live {T : qTp} {h : gH} {q : Nat} (H : RT h T q) (h29 : h 65 29 = 0) : Sp (fM_fail h) (fun h1 => nfr 29 30 h h1 ∧ h1 65 29 = 1 ∧ h1 65 30 = nI q) := by
  unfold fM_fail
  refine Sp_pos h29 (Sp_let (Sp_some ⟨nfr_tr (nfr_hu _ _ (by omega)) (nfr_hu _ _ (by omega)), ?_, ?_⟩))
  · rw [hu_k _ _ _ _ (by decide), hu_same]
  · rw [hu_same, hu_k _ _ _ _ (by decide)]; exact H.2.1
def MRs (T : qTp) (h : gH) (d : Nat) (r : pR) (p : Int32 × gH) : Prop := nfr 24 31 h p.2 ∧ p.2 65 28 = nI d ∧ (r.1 = true → p.2 65 29 = 0 ∧ RT p.2 T r.2.1 ∧ p.2 65 31 = mkn 8 r.2.2.1 ∧ p.1 = r.2.2.2.2 (h 80)) ∧ (r.1 = false → p.2 65 29 = 1 ∧ p.2 65 30 = nI r.2.1)
theorem MRs_ok {T : qTp} {h h1 : gH} {d : Nat} {r : pR} {w : Int32} (e : r.1 = true) (f : nfr 24 31 h h1) (a28 : h1 65 28 = nI d) (a29 : h1 65 29 = 0) (rt : RT h1 T r.2.1) (a31 : h1 65 31 = mkn 8 r.2.2.1) (v : w = r.2.2.2.2 (h 80)) : MRs T h d r (w, h1) := ⟨f, a28, fun _ => ⟨a29, rt, a31, v⟩, fun z => by rw [e] at z; cases z⟩
theorem MRs_no {T : qTp} {h h1 : gH} {d : Nat} {r : pR} {w : Int32} (e : r.1 = false) (f : nfr 24 31 h h1) (a28 : h1 65 28 = nI d) (a29 : h1 65 29 = 1) (a30 : h1 65 30 = nI r.2.1) : MRs T h d r (w, h1) := ⟨f, a28, fun z => (by rw [e] at z; cases z), fun _ => ⟨a29, a30⟩⟩
def MPar (T : qTp) (g : gH → Option (Int32 × gH)) (f : pP) (d : Nat) : Prop := ∀ h q V, MTp h T → RT h T q → h 65 29 = 0 → h 65 31 = mkn 8 V → h 65 28 = nI d → Sp (g h) (MRs T h d (f q V))
theorem RT_nfr {T : qTp} {lo hi : Nat} {h h1 : gH} {q : Nat} (H : RT h T q) (f : nfr lo hi h h1) (w : 27 < lo) : RT h1 T q := by
  obtain ⟨a, b, c, d⟩ := H
  unfold RK at c
  refine ⟨a, by rw [f.2 26 (by omega)]; exact b, ?_, by rw [f.2 24 (by omega)]; exact d⟩
  unfold RK
  rw [f.2 25 (by omega), f.2 27 (by omega)]; exact c
/-- it fails here -/
theorem fail_rs {T : qTp} {h : gH} {q d : Nat} {V : Nat → Bool} (H : RT h T q) (h29 : h 65 29 = 0) (h28 : h 65 28 = nI d) (w : Int32) : Sp ((fM_fail h).bind fun h1 => some (w, h1)) (MRs T h d (pno q V)) :=
  Sp_bind (fail_live H h29) (fun h1 _ f => Sp_some (MRs_no rfl (nfr_w f.1 (by omega)) (by rw [f.1.2 28 (by omega)]; exact h28) f.2.1 f.2.2))
theorem name_other {T : qTp} {h : gH} {q : Nat} (H : RT h T q) (h29 : h 65 29 = 0) (k2 : ¬ qkd T q = 2) : fM_name h = fM_name_42 h := by
  obtain ⟨-, -, ⟨k0, k1, -, k3, k4, k5⟩, -⟩ := H
  unfold fM_name
  rw [if_pos h29]
  rcases qkd_cases T q with c | c
  · have : qkd T q = 0 ∨ qkd T q = 1 ∨ qkd T q = 3 ∨ qkd T q = 4 := by omega
    rcases this with e | e | e | e
    · rw [if_neg (by rw [k0 e]; decide)]
    · rw [if_neg (by rw [(k1 e).1]; decide)]
    · rw [if_pos (k3 e).1, if_pos (k3 e).2]
    · rw [if_neg (by rw [k4 e]; decide)]
  · rw [if_neg (by rw [(k5 c.1).1]; decide)]
theorem name_no {T : qTp} {h : gH} {q d : Nat} {V : Nat → Bool} (H : RT h T q) (h29 : h 65 29 = 0) (h28 : h 65 28 = nI d) (k2 : ¬ qkd T q = 2) : Sp (fM_name h) (MRs T h d (pno q V)) := by
  rw [name_other H h29 k2]
  unfold fM_name_42
  exact fail_rs H h29 h28 0
theorem mname {T : qTp} (B : TpB T) {h : gH} {q d : Nat} {V : Nat → Bool} (HT : MTp h T) (H : RT h T q) (h29 : h 65 29 = 0) (h31 : h 65 31 = mkn 8 V) (h28 : h 65 28 = nI d) (k2 : qkd T q = 2) : Sp (fM_name h) (MRs T h d (if 3 < qcnt (padd V (qvl T q)) 8 then pno q V else (true, qnt T q, padd V (qvl T q), [nI (10000 + qvl T q)], fun e => e (qvl T q)))) := by
  obtain ⟨e25, e27, v8⟩ := H.2.2.1.2.2.1 k2
  unfold fM_name
  refine Sp_pos h29 (Sp_pos e25 (Sp_neg ?_ ?_))
  · rw [e27]; exact fun z => absurd ((nI_eq (b := 8) (by omega) (by omega)).mp z) (by omega)
  rw [h31, e27, mkn_ins (by decide) v8]
  refine Sp_eq (bitsOf_mkn (by decide) _ h) ?_
  dsimp only
  have hc : qcnt (padd V (qvl T q)) 8 ≤ 8 := qcnt_le _ _
  by_cases c : 3 < qcnt (padd V (qvl T q)) 8
  · rw [if_pos c]
    refine Sp_pos ((nlt_r (c := 3) (Nat.lt_of_le_of_lt hc (by decide)) (by decide)).mpr c) ?_
    unfold fM_name_42
    exact fail_rs H h29 h28 0
  · rw [if_neg c]
    refine Sp_neg (fun z => c ((nlt_r (c := 3) (Nat.lt_of_le_of_lt hc (by decide)) (by decide)).mp z)) (Sp_let ?_)
    rw [h31, e27, mkn_ins (by decide) v8]
    have f1 : nfr 31 31 h (hu h 65 31 (mkn 8 (fun i => V i || decide (i = qvl T q)))) := nfr_hu _ _ (by omega)
    refine Sp_bind (next_rt B (MTp_nfr HT f1 (by omega)) (RT_nfr H f1 (by omega)) (by omega)) (fun h2 _ g => Sp_gg (gin_t v8 (by decide)) (Sp_some (MRs_ok rfl (nfr_tr (nfr_w f1 (by omega)) (nfr_w g.1 (by omega))) ?_ ?_ g.2 ?_ ?_)))
    · rw [g.1.2 28 (by omega), f1.2 28 (by omega)]; exact h28
    · rw [g.1.2 29 (by omega), f1.2 29 (by omega)]; exact h29
    · rw [g.1.2 31 (by omega), hu_same]; rfl
    · rw [clampn (by omega), g.1.1 80 (by decide), f1.1 80 (by decide)]
/-- a chain of factors -/
theorem mterm5 {T : qTp} (B : TpB T) {R : Nat → gH → Option (Int32 × gH)} {f : pP} {d : Nat} (hf : PG T f) (hR : MPar T (R 0) f d) {h0 : gH} : ∀ (m fu : Nat) (h : gH) (r : pR), m < fu → r.1 = true → r.2.1 ≤ T.1 → 90 ≤ r.2.1 + m → nfr 24 31 h0 h → MTp h T → RT h T r.2.1 → h 65 29 = 0 → h 65 31 = mkn 8 r.2.2.1 → h 65 28 = nI d → Sp (fM_term_5 R fu (r.2.2.2.2 (h0 80)) h) (MRs T h0 d (pCh T s42 f m r)) := by
  have hn := B.1
  intro m
  induction m with
  | zero =>
    intro fu h r hfu h1 h2 h3 fr HT H h29 h31 h28
    obtain ⟨fu, rfl⟩ : ∃ f, fu = f + 1 := ⟨fu - 1, by omega⟩
    unfold fM_term_5 pCh
    refine Sp_eq (sign_live H h29 (s := 42) (by decide) (by decide)) (Sp_pos ?_ (Sp_some (MRs_ok h1 fr h28 h29 H h31 rfl)))
    rw [qkd_n (show ¬ r.2.1 < T.1 by omega)]; rfl
  | succ m ih =>
    intro fu h r hfu h1 h2 h3 fr HT H h29 h31 h28
    obtain ⟨fu, rfl⟩ : ∃ f, fu = f + 1 := ⟨fu - 1, by omega⟩
    unfold fM_term_5 pCh
    refine Sp_eq (sign_live H h29 (s := 42) (by decide) (by decide)) ?_
    dsimp only
    by_cases c : qkd T r.2.1 = 42
    · rw [decide_eq_true c, if_pos (show s42 (qkd T r.2.1) = true by unfold s42; exact decide_eq_true c)]
      have nx := qnt_gt (qkd_lt (T := T) (q := r.2.1) (by omega))
      refine Sp_neg (by decide) (Sp_bind (next_rt B HT H (by omega)) (fun h1 _ g => ?_))
      refine Sp_bind (hR h1 (qnt T r.2.1) r.2.2.1 (MTp_nfr HT g.1 (by omega)) g.2 (by rw [g.1.2 29 (by omega)]; exact h29) (by rw [g.1.2 31 (by omega)]; exact h31) (by rw [g.1.2 28 (by omega)]; exact h28)) (fun p _ k => ?_)
      have pg := hf (qnt T r.2.1) r.2.2.1 nx.2
      obtain ⟨k1, k2, k3, k4⟩ := k
      have fr2 : nfr 24 31 h0 p.2 := nfr_tr fr (nfr_tr (nfr_w g.1 (by omega)) k1)
      have HT2 : MTp p.2 T := MTp_nfr (MTp_nfr HT g.1 (by omega)) k1 (by omega)
      by_cases c2 : (f (qnt T r.2.1) r.2.2.1).1 = true
      · rw [if_pos c2]
        obtain ⟨l1, l2, l3, l4⟩ := k3 c2
        have ev : r.2.2.2.2 (h0 80) * p.1 = (fun e => (if qkd T r.2.1 = 43 then r.2.2.2.2 e + (f (qnt T r.2.1) r.2.2.1).2.2.2.2 e else if qkd T r.2.1 = 45 then r.2.2.2.2 e - (f (qnt T r.2.1) r.2.2.1).2.2.2.2 e else r.2.2.2.2 e * (f (qnt T r.2.1) r.2.2.1).2.2.2.2 e)) (h0 80) := by
          dsimp only
          rw [if_neg (show ¬ qkd T r.2.1 = 43 by omega), if_neg (show ¬ qkd T r.2.1 = 45 by omega), l4, g.1.1 80 (by decide), fr.1 80 (by decide)]
        rw [ev]
        exact ih fu p.2 (true, (f (qnt T r.2.1) r.2.2.1).2.1, (f (qnt T r.2.1) r.2.2.1).2.2.1, r.2.2.2.1 ++ ((f (qnt T r.2.1) r.2.2.1).2.2.2.1 ++ [nI (10100 + qkd T r.2.1)]), fun e => (if qkd T r.2.1 = 43 then r.2.2.2.2 e + (f (qnt T r.2.1) r.2.2.1).2.2.2.2 e else if qkd T r.2.1 = 45 then r.2.2.2.2 e - (f (qnt T r.2.1) r.2.2.1).2.2.2.2 e else r.2.2.2.2 e * (f (qnt T r.2.1) r.2.2.1).2.2.2.2 e)) (by omega) rfl pg.2.1 (by dsimp only; omega) fr2 HT2 l2 l1 l3 k2
      · rw [if_neg c2]
        obtain ⟨l1, l2⟩ := k4 (Bool.eq_false_iff.mpr c2)
        obtain ⟨fu, rfl⟩ : ∃ f, fu = f + 1 := ⟨fu - 1, by omega⟩
        unfold fM_term_5
        refine Sp_eq (sign_dead l1 42) (Sp_pos rfl (Sp_some (MRs_no rfl fr2 k2 l1 l2)))
    · rw [decide_eq_false c, if_neg (show ¬ s42 (qkd T r.2.1) = true by unfold s42; rw [decide_eq_true_eq]; exact c)]
      exact Sp_pos rfl (Sp_some (MRs_ok h1 fr h28 h29 H h31 rfl))
theorem mterm {T : qTp} (B : TpB T) {R : Nat → gH → Option (Int32 × gH)} {f : pP} {d : Nat} (hf : PG T f) (hR : MPar T (R 0) f d) : MPar T (fM_term R) (pTerm T f) d := by
  intro h q V HT H h29 h31 h28
  have pg := hf q V H.1
  unfold fM_term pTerm pC
  refine Sp_bind (hR h q V HT H h29 h31 h28) (fun p _ k => ?_)
  obtain ⟨k1, k2, k3, k4⟩ := k
  by_cases c : (f q V).1 = true
  · rw [if_pos c]
    obtain ⟨l1, l2, l3, l4⟩ := k3 c
    rw [l4]
    exact mterm5 B hf hR 90 gfu p.2 _ (by unfold gfu; omega) c pg.2.1 (by omega) k1 (MTp_nfr HT k1 (by omega)) l2 l1 l3 k2
  · rw [if_neg c]
    obtain ⟨l1, l2⟩ := k4 (Bool.eq_false_iff.mpr c)
    obtain ⟨g, hg⟩ : ∃ f, gfu = f + 1 := ⟨gfu - 1, rfl⟩
    rw [hg]
    unfold fM_term_5
    exact Sp_eq (sign_dead l1 42) (Sp_pos rfl (Sp_some (MRs_no (Bool.eq_false_iff.mpr c) k1 k2 l1 l2)))
/-- a chain of terms -/
theorem msum5 {T : qTp} (B : TpB T) {R : Nat → gH → Option (Int32 × gH)} {f : pP} {d : Nat} (hf : PG T f) (hR : MPar T (R 1) f d) {h0 : gH} : ∀ (m fu : Nat) (h : gH) (r : pR), m < fu → r.1 = true → r.2.1 ≤ T.1 → 90 ≤ r.2.1 + m → nfr 24 31 h0 h → MTp h T → RT h T r.2.1 → h 65 29 = 0 → h 65 31 = mkn 8 r.2.2.1 → h 65 28 = nI d → Sp (fM_sum_5 R fu (r.2.2.2.2 (h0 80)) h) (MRs T h0 d (pCh T s43 f m r)) := by
  have hn := B.1
  intro m
  induction m with
  | zero =>
    intro fu h r hfu h1 h2 h3 fr HT H h29 h31 h28
    obtain ⟨fu, rfl⟩ : ∃ f, fu = f + 1 := ⟨fu - 1, by omega⟩
    unfold fM_sum_5 pCh
    refine Sp_eq (sign_live H h29 (s := 43) (by decide) (by decide)) (Sp_pos ?_ (Sp_eq (sign_live H h29 (s := 45) (by decide) (by decide)) (Sp_pos ?_ (Sp_some (MRs_ok h1 fr h28 h29 H h31 rfl)))))
    · rw [qkd_n (show ¬ r.2.1 < T.1 by omega)]; rfl
    · rw [qkd_n (show ¬ r.2.1 < T.1 by omega)]; rfl
  | succ m ih =>
    intro fu h r hfu h1 h2 h3 fr HT H h29 h31 h28
    obtain ⟨fu, rfl⟩ : ∃ f, fu = f + 1 := ⟨fu - 1, by omega⟩
    have st : s43 (qkd T r.2.1) = true → Sp (fM_sum_23 R (fM_sum_5 R fu) (r.2.2.2.2 (h0 80)) h) (MRs T h0 d (if (f (qnt T r.2.1) r.2.2.1).1 = true then pCh T s43 f m (true, (f (qnt T r.2.1) r.2.2.1).2.1, (f (qnt T r.2.1) r.2.2.1).2.2.1, r.2.2.2.1 ++ ((f (qnt T r.2.1) r.2.2.1).2.2.2.1 ++ [nI (10100 + qkd T r.2.1)]), fun e => (if qkd T r.2.1 = 43 then r.2.2.2.2 e + (f (qnt T r.2.1) r.2.2.1).2.2.2.2 e else if qkd T r.2.1 = 45 then r.2.2.2.2 e - (f (qnt T r.2.1) r.2.2.1).2.2.2.2 e else r.2.2.2.2 e * (f (qnt T r.2.1) r.2.2.1).2.2.2.2 e)) else pno (f (qnt T r.2.1) r.2.2.1).2.1 r.2.2.1)) := by
      intro c
      have c' : qkd T r.2.1 = 43 ∨ qkd T r.2.1 = 45 := by unfold s43 at c; simpa using c
      have nx := qnt_gt (qkd_lt (T := T) (q := r.2.1) (by omega))
      unfold fM_sum_23 fM_sum_52
      refine Sp_eq (sign_live H h29 (s := 43) (by decide) (by decide)) (Sp_bind (next_rt B HT H (by omega)) (fun h1 _ g => ?_))
      refine Sp_bind (hR h1 (qnt T r.2.1) r.2.2.1 (MTp_nfr HT g.1 (by omega)) g.2 (by rw [g.1.2 29 (by omega)]; exact h29) (by rw [g.1.2 31 (by omega)]; exact h31) (by rw [g.1.2 28 (by omega)]; exact h28)) (fun p _ k => ?_)
      have pg := hf (qnt T r.2.1) r.2.2.1 nx.2
      obtain ⟨k1, k2, k3, k4⟩ := k
      have fr2 : nfr 24 31 h0 p.2 := nfr_tr fr (nfr_tr (nfr_w g.1 (by omega)) k1)
      have HT2 : MTp p.2 T := MTp_nfr (MTp_nfr HT g.1 (by omega)) k1 (by omega)
      by_cases c2 : (f (qnt T r.2.1) r.2.2.1).1 = true
      · rw [if_pos c2]
        obtain ⟨l1, l2, l3, l4⟩ := k3 c2
        rw [g.1.1 80 (by decide), fr.1 80 (by decide)] at l4
        have go := ih fu p.2 (true, (f (qnt T r.2.1) r.2.2.1).2.1, (f (qnt T r.2.1) r.2.2.1).2.2.1, r.2.2.2.1 ++ ((f (qnt T r.2.1) r.2.2.1).2.2.2.1 ++ [nI (10100 + qkd T r.2.1)]), fun e => (if qkd T r.2.1 = 43 then r.2.2.2.2 e + (f (qnt T r.2.1) r.2.2.1).2.2.2.2 e else if qkd T r.2.1 = 45 then r.2.2.2.2 e - (f (qnt T r.2.1) r.2.2.1).2.2.2.2 e else r.2.2.2.2 e * (f (qnt T r.2.1) r.2.2.1).2.2.2.2 e)) (by omega) rfl pg.2.1 (by dsimp only; omega) fr2 HT2 l2 l1 l3 k2
        dsimp only at go
        by_cases c3 : qkd T r.2.1 = 43
        · rw [if_pos c3, ← l4] at go
          exact Sp_neg (by dsimp only; rw [decide_eq_true c3]; decide) go
        · rw [if_neg c3, if_pos (show qkd T r.2.1 = 45 by omega), ← l4] at go
          exact Sp_pos (by dsimp only; rw [decide_eq_false c3]; rfl) go
      · rw [if_neg c2]
        obtain ⟨l1, l2⟩ := k4 (Bool.eq_false_iff.mpr c2)
        obtain ⟨fu, rfl⟩ : ∃ f, fu = f + 1 := ⟨fu - 1, by omega⟩
        have dd : ∀ w, Sp (fM_sum_5 R (fu + 1) w p.2) (MRs T h0 d (pno (f (qnt T r.2.1) r.2.2.1).2.1 r.2.2.1)) := by
          intro w
          unfold fM_sum_5
          exact Sp_eq (sign_dead l1 43) (Sp_pos rfl (Sp_eq (sign_dead l1 45) (Sp_pos rfl (Sp_some (MRs_no rfl fr2 k2 l1 l2)))))
        exact Sp_if (fun _ => dd _) (fun _ => dd _)
    unfold fM_sum_5 pCh
    refine Sp_eq (sign_live H h29 (s := 43) (by decide) (by decide)) ?_
    dsimp only
    by_cases c : qkd T r.2.1 = 43
    · have cc : s43 (qkd T r.2.1) = true := by unfold s43; rw [decide_eq_true c]; rfl
      rw [decide_eq_true c, if_pos cc]
      exact Sp_neg (by decide) (st cc)
    · rw [decide_eq_false c]
      refine Sp_pos rfl (Sp_eq (sign_live H h29 (s := 45) (by decide) (by decide)) ?_)
      dsimp only
      by_cases c2 : qkd T r.2.1 = 45
      · have cc : s43 (qkd T r.2.1) = true := by unfold s43; rw [decide_eq_true c2, Bool.or_true]
        rw [decide_eq_true c2, if_pos cc]
        exact Sp_neg (by decide) (st cc)
      · have cc : ¬ s43 (qkd T r.2.1) = true := by unfold s43; rw [decide_eq_false c, decide_eq_false c2]; decide
        rw [decide_eq_false c2, if_neg cc]
        exact Sp_pos rfl (Sp_some (MRs_ok h1 fr h28 h29 H h31 rfl))
theorem msum {T : qTp} (B : TpB T) {R : Nat → gH → Option (Int32 × gH)} {f : pP} {d : Nat} (hf : PG T f) (hR : MPar T (R 1) (pTerm T f) d) : MPar T (fM_sum R) (pSum T f) d := by
  intro h q V HT H h29 h31 h28
  have hf := PG_term hf
  have pg := hf q V H.1
  unfold fM_sum pSum pC
  refine Sp_bind (hR h q V HT H h29 h31 h28) (fun p _ k => ?_)
  obtain ⟨k1, k2, k3, k4⟩ := k
  by_cases c : (pTerm T f q V).1 = true
  · rw [if_pos c]
    obtain ⟨l1, l2, l3, l4⟩ := k3 c
    rw [l4]
    exact msum5 B hf hR 90 gfu p.2 _ (by unfold gfu; omega) c pg.2.1 (by omega) k1 (MTp_nfr HT k1 (by omega)) l2 l1 l3 k2
  · rw [if_neg c]
    obtain ⟨l1, l2⟩ := k4 (Bool.eq_false_iff.mpr c)
    obtain ⟨g, hg⟩ : ∃ f, gfu = f + 1 := ⟨gfu - 1, rfl⟩
    rw [hg]
    unfold fM_sum_5
    exact Sp_eq (sign_dead l1 43) (Sp_pos rfl (Sp_eq (sign_dead l1 45) (Sp_pos rfl (Sp_some (MRs_no (Bool.eq_false_iff.mpr c) k1 k2 l1 l2)))))
/-- one: a number, a name, or what is in brackets or behind a minus -/
theorem mone1 {T : qTp} (B : TpB T) {R : Nat → gH → Option (Int32 × gH)} {neg sum : pP} {d : Nat} (dp : Bool) (hd : dp = decide (d < 5)) (d5 : d ≤ 5) (hn : PG T neg) (hs : PG T sum) (hR0 : dp = true → MPar T (R 0) neg (d + 1)) (hR2 : dp = true → MPar T (R 2) sum (d + 1)) : MPar T (fM_one R) (pOne T dp neg sum) d := by
  intro h q V HT H h29 h31 h28
  unfold fM_one
  refine Sp_pos h29 ?_
  by_cases k1 : qkd T q = 1
  · obtain ⟨e25, e27⟩ := H.2.2.1.2.1 k1
    rw [pOne_1 k1]
    refine Sp_pos e25 (Sp_bind (next_rt B HT H (by omega)) (fun h1 _ g => Sp_some (MRs_ok rfl (nfr_w g.1 (by omega)) (by rw [g.1.2 28 (by omega)]; exact h28) (by rw [g.1.2 29 (by omega)]; exact h29) g.2 (by rw [g.1.2 31 (by omega)]; exact h31) e27)))
  refine Sp_neg ?_ ?_
  · obtain ⟨-, -, ⟨k0, -, k2, k3, k4, k5⟩, -⟩ := H
    rcases qkd_cases T q with c | c
    · have : qkd T q = 0 ∨ qkd T q = 2 ∨ qkd T q = 3 ∨ qkd T q = 4 := by omega
      rcases this with e | e | e | e
      · rw [k0 e]; decide
      · rw [(k2 e).1]; decide
      · rw [(k3 e).1]; decide
      · rw [k4 e]; decide
    · rw [(k5 c.1).1]; decide
  have h49 : (qkd T q = 45 ∨ qkd T q = 40) → Sp (fM_one_49 R h) (MRs T h d (pOne T dp neg sum q V)) := by
    intro c
    have nx := qnt_gt (qkd_lt (T := T) (q := q) (by omega))
    unfold fM_one_49
    rw [h28]
    by_cases cd : d = 5
    · have : dp = false := by rw [hd, decide_eq_false (by omega)]
      subst this
      rw [pOne_f k1 (by omega)]
      exact Sp_pos (by rw [cd]; rfl) (fail_rs H h29 h28 0)
    have dt : dp = true := by rw [hd, decide_eq_true (by omega)]
    subst dt
    refine Sp_neg (fun z => cd ((neq_l (c := 5) (by omega) (by decide)).mp z)) (Sp_eq (sign_live H h29 (s := 45) (by decide) (by decide)) (Sp_let ?_))
    dsimp only
    rw [h28, nadd_l d 1]
    have f1 : nfr 28 28 h (hu h 65 28 (nI (d + 1))) := nfr_hu _ _ (by omega)
    refine Sp_bind (next_rt B (MTp_nfr HT f1 (by omega)) (RT_nfr H f1 (by omega)) (by omega)) (fun h2 _ g => ?_)
    have fr2 : nfr 24 31 h h2 := nfr_tr (nfr_w f1 (by omega)) (nfr_w g.1 (by omega))
    have HT2 := MTp_nfr HT fr2 (by omega)
    have e29 : h2 65 29 = 0 := by rw [g.1.2 29 (by omega), f1.2 29 (by omega)]; exact h29
    have e31 : h2 65 31 = mkn 8 V := by rw [g.1.2 31 (by omega), f1.2 31 (by omega)]; exact h31
    have e28 : h2 65 28 = nI (d + 1) := by rw [g.1.2 28 (by omega), hu_same]
    rcases c with c | c
    · rw [decide_eq_true c, pOne_45 c]
      refine Sp_neg (by decide) (Sp_bind (hR0 rfl h2 (qnt T q) V HT2 g.2 e29 e31 e28) (fun p _ k => ?_))
      obtain ⟨l1, l2, l3, l4⟩ := k
      unfold fM_one_100 fM_one_118
      refine Sp_neg (by decide) (Sp_let (Sp_neg (by decide) (Sp_some ?_)))
      rw [l2, nsub_l (show 1 ≤ d + 1 by omega)]
      have f3 : nfr 28 28 p.2 (hu p.2 65 28 (nI (d + 1 - 1))) := nfr_hu _ _ (by omega)
      refine ⟨nfr_tr fr2 (nfr_tr l1 (nfr_w f3 (by omega))), (by dsimp only; rw [hu_same]; rfl), fun z => ?_, fun z => ?_⟩
      · obtain ⟨m1, m2, m3, m4⟩ := l3 z
        dsimp only
        refine ⟨by rw [hu_k _ _ _ _ (by decide)]; exact m1, RT_nfr m2 f3 (by omega), by rw [hu_k _ _ _ _ (by decide)]; exact m3, ?_⟩
        rw [m4, fr2.1 80 (by decide)]
      · obtain ⟨m1, m2⟩ := l4 z
        dsimp only
        exact ⟨by rw [hu_k _ _ _ _ (by decide)]; exact m1, by rw [hu_k _ _ _ _ (by decide)]; exact m2⟩
    · rw [decide_eq_false (show ¬ qkd T q = 45 by omega)]
      refine Sp_pos rfl (Sp_bind (hR2 rfl h2 (qnt T q) V HT2 g.2 e29 e31 e28) (fun p _ k => ?_))
      obtain ⟨l1, l2, l3, l4⟩ := k
      have pg := hs (qnt T q) V nx.2
      have HT3 := MTp_nfr HT2 l1 (by omega)
      unfold fM_one_100
      refine Sp_pos rfl ?_
      -- it failed, or fails
      have dead : ∀ h3 (q2 : Nat) (w : Int32), nfr 24 31 p.2 h3 → h3 65 28 = nI (d + 1) → h3 65 29 = 1 → h3 65 30 = nI q2 → Sp (fM_one_118 R (b2i false) w h3) (MRs T h d (pno q2 V)) := by
        intro h3 q2 w f3 a28 a29 a30
        unfold fM_one_118
        rw [a28, nsub_l (show 1 ≤ d + 1 by omega)]
        have f4 : nfr 28 28 h3 (hu h3 65 28 (nI (d + 1 - 1))) := nfr_hu _ _ (by omega)
        refine Sp_let (Sp_pos rfl (Sp_neg (by rw [hu_k _ _ _ _ (by decide), a29]; decide) (Sp_some (MRs_no rfl (nfr_tr fr2 (nfr_tr l1 (nfr_tr f3 (nfr_w f4 (by omega))))) (by rw [hu_same]; rfl) (by rw [hu_k _ _ _ _ (by decide)]; exact a29) (by rw [hu_k _ _ _ _ (by decide)]; exact a30)))))
      by_cases cs : (sum (qnt T q) V).1 = true
      · obtain ⟨m1, m2, m3, m4⟩ := l3 cs
        refine Sp_eq (sign_live m2 m1 (s := 41) (by decide) (by decide)) ?_
        dsimp only
        by_cases c41 : qkd T (sum (qnt T q) V).2.1 = 41
        · rw [decide_eq_true c41, pOne_40 c ⟨cs, c41⟩]
          refine Sp_neg (by decide) ?_
          unfold fM_one_118
          rw [l2, nsub_l (show 1 ≤ d + 1 by omega)]
          have f3 : nfr 28 28 p.2 (hu p.2 65 28 (nI (d + 1 - 1))) := nfr_hu _ _ (by omega)
          refine Sp_let (Sp_pos rfl (Sp_pos (by rw [hu_k _ _ _ _ (by decide)]; exact m1) (Sp_bind (next_rt B (MTp_nfr HT3 f3 (by omega)) (RT_nfr m2 f3 (by omega)) (by omega)) (fun h4 _ g4 => Sp_some (MRs_ok rfl (nfr_tr fr2 (nfr_tr l1 (nfr_tr (nfr_w f3 (by omega)) (nfr_w g4.1 (by omega))))) ?_ ?_ g4.2 ?_ ?_)))))
          · rw [g4.1.2 28 (by omega), hu_same]; rfl
          · rw [g4.1.2 29 (by omega), hu_k _ _ _ _ (by decide)]; exact m1
          · rw [g4.1.2 31 (by omega), hu_k _ _ _ _ (by decide)]; exact m3
          · dsimp only
            rw [m4, fr2.1 80 (by decide)]
        · rw [decide_eq_false c41, pOne_40b c (fun z => c41 z.2)]
          refine Sp_pos rfl (Sp_bind (fail_live m2 m1) (fun h3 _ g3 => ?_))
          exact dead h3 _ _ (nfr_w g3.1 (by omega)) (by rw [g3.1.2 28 (by omega)]; exact l2) g3.2.1 g3.2.2
      · obtain ⟨m1, m2⟩ := l4 (Bool.eq_false_iff.mpr cs)
        rw [pOne_40b c (fun z => cs z.1)]
        refine Sp_eq (sign_dead m1 41) (Sp_pos rfl (Sp_eq (fail_dead m1) ?_))
        exact dead p.2 _ _ (nfr_rf _ _ _) l2 m1 m2
  unfold fM_one_26
  refine Sp_eq (sign_live H h29 (s := 45) (by decide) (by decide)) ?_
  dsimp only
  by_cases c1 : qkd T q = 45
  · rw [decide_eq_true c1]; exact Sp_neg (by decide) (h49 (Or.inl c1))
  rw [decide_eq_false c1]
  refine Sp_pos rfl (Sp_eq (sign_live H h29 (s := 40) (by decide) (by decide)) ?_)
  dsimp only
  by_cases c2 : qkd T q = 40
  · rw [decide_eq_true c2]; exact Sp_neg (by decide) (h49 (Or.inr c2))
  rw [decide_eq_false c2]
  refine Sp_pos rfl ?_
  by_cases k2 : qkd T q = 2
  · have e : pOne T dp neg sum q V = (if 3 < qcnt (padd V (qvl T q)) 8 then pno q V else (true, qnt T q, padd V (qvl T q), [nI (10000 + qvl T q)], fun e => e (qvl T q))) := by unfold pOne; rw [if_neg (by omega), if_pos k2]
    rw [e]
    exact Sp_bind (mname B HT H h29 h31 h28 k2) (fun p _ k => Sp_some k)
  · have e : pOne T dp neg sum q V = pno q V := by
      cases dp with
      | false => exact pOne_f k1 k2
      | true => exact pOne_x k1 k2 c1 c2
    rw [e]
    exact Sp_bind (name_no H h29 h28 k2) (fun p _ k => Sp_some k)
theorem mlv {T : qTp} (B : TpB T) : ∀ (k d n : Nat), d + k = 5 → 3 * k + 1 ≤ n → MPar T (gMG n 0) (pLv T k) d := by
  intro k
  induction k with
  | zero =>
    intro d n hd hn
    obtain ⟨n, rfl⟩ : ∃ f, n = f + 1 := ⟨n - 1, by omega⟩
    have : d = 5 := by omega
    subst this
    exact mone1 B false (by decide) (by omega) (PG_no T) (PG_no T) (fun z => by cases z) (fun z => by cases z)
  | succ k ih =>
    intro d n hd hn
    obtain ⟨n, rfl⟩ : ∃ f, n = f + 3 := ⟨n - 3, by omega⟩
    have hg := PG_lv T k
    refine mone1 B true (by rw [decide_eq_true (show d < 5 by omega)]) (by omega) hg (PG_sum hg) (fun _ => ih (d + 1) (n + 2) (by omega) (by omega)) (fun _ => ?_)
    exact msum B (R := gMG (n + 1)) hg (mterm B (R := gMG n) hg (ih (d + 1) n (by omega) (by omega)))
theorem msum_all {T : qTp} (B : TpB T) : MPar T (gMG 40 2) (pSum T (pLv T 5)) 0 := msum B (R := gMG 39) (PG_lv T 5) (mterm B (R := gMG 38) (PG_lv T 5) (mlv B 5 0 38 (by omega) (by omega)))
