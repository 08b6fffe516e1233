/-! the class reads a rule -/
def vals9 (V : Nat → Bool) (h : gH) : Prop := ∀ v, v < 8 → V v = true → ∃ x, x < 10 ∧ h 9 v = nI x
theorem unlike_loop {h : gH} {V : Nat → Bool} (e11 : h 10 11 = mkn 8 V) (env : vals9 V h) : ∀ (m k fu : Nat) (S : Nat → Bool), k + m = 8 → m < fu → (∀ x, x < 10 → (S x = true ↔ ∃ i, i < k ∧ V i = true ∧ h 9 i = nI x)) → (∀ i, i < k → ∀ j, j < k → V i = true → V j = true → h 9 i = h 9 j → i = j) → fT_areUnlike_4 fu (mkn 10 S) (nI k) h = some (b2i (qun V (h 9)), h) := by
  intro m
  induction m with
  | zero =>
    intro k fu S hk hfu hS hd
    obtain ⟨fu, rfl⟩ : ∃ f, fu = f + 1 := ⟨fu - 1, by omega⟩
    have : k = 8 := by omega
    subst this
    unfold fT_areUnlike_4
    rw [if_neg (by decide), (qun_iff V (h 9)).mpr hd]; rfl
  | succ m ih =>
    intro k fu S hk hfu hS hd
    obtain ⟨fu, rfl⟩ : ∃ f, fu = f + 1 := ⟨fu - 1, by omega⟩
    unfold fT_areUnlike_4
    rw [if_pos (nltT (show k < 8 by omega) (by decide)), e11, mkn_test (by decide) (show k < 8 by omega)]
    cases c : V k
    · rw [if_pos (show (if false = true then (1 : Int32) else 0) = 0 from rfl), nadd_l k 1]
      refine ih (k + 1) fu S (by omega) (by omega) (fun x hx => ?_) (fun i hi j hj vi vj e => ?_)
      · rw [hS x hx]
        constructor
        · rintro ⟨i, a, b, d⟩; exact ⟨i, by omega, b, d⟩
        · rintro ⟨i, a, b, d⟩
          refine ⟨i, ?_, b, d⟩
          by_cases ei : i = k
          · rw [ei, c] at b; cases b
          · omega
      · have ni : i ≠ k := fun z => by rw [z, c] at vi; cases vi
        have nj : j ≠ k := fun z => by rw [z, c] at vj; cases vj
        exact hd i (by omega) j (by omega) vi vj e
    · obtain ⟨w, hw, ew⟩ := env k (by omega) c
      rw [if_neg (show ¬ (if true = true then (1 : Int32) else 0) = 0 by decide), gg_t (gin_t (by omega) (by omega)), clampn (by omega), ew, mkn_test (by decide) hw]
      cases cs : S w
      · rw [if_neg (show ¬ (if false = true then (1 : Int32) else 0) = 1 by decide), gg_t (gin_t (by omega) (by omega)), mkn_ins (by decide) hw, nadd_l k 1]
        have nk : ¬ ∃ i, i < k ∧ V i = true ∧ h 9 i = nI w := fun z => by rw [(hS w hw).mpr z] at cs; cases cs
        refine ih (k + 1) fu _ (by omega) (by omega) (fun x hx => ?_) (fun i hi j hj vi vj e => ?_)
        · rw [Bool.or_eq_true, hS x hx, decide_eq_true_eq]
          constructor
          · rintro (⟨i, a, b, d⟩ | e)
            · exact ⟨i, by omega, b, d⟩
            · exact ⟨k, by omega, c, by rw [ew, e]⟩
          · rintro ⟨i, a, b, d⟩
            by_cases ei : i = k
            · right
              rw [ei, ew] at d
              exact ((nI_eq (by omega) (by omega)).mp d).symm
            · left; exact ⟨i, by omega, b, d⟩
        · by_cases ei : i = k
          · by_cases ej : j = k
            · rw [ei, ej]
            · exact absurd ⟨j, by omega, vj, by rw [← e, ei, ew]⟩ nk
          · by_cases ej : j = k
            · exact absurd ⟨i, by omega, vi, by rw [e, ej, ew]⟩ nk
            · exact hd i (by omega) j (by omega) vi vj e
      · rw [if_pos (show (if true = true then (1 : Int32) else 0) = 1 from rfl)]
        obtain ⟨i, a, b, d⟩ := (hS w hw).mp cs
        have : qun V (h 9) = false := by
          rw [Bool.eq_false_iff, ne_eq, qun_iff]
          intro z
          have := z i (by omega) k (by omega) b c (by rw [d, ew])
          omega
        rw [this]; rfl
theorem unlike_sp {h : gH} {V : Nat → Bool} (e11 : h 10 11 = mkn 8 V) (env : vals9 V h) : fT_areUnlike h = some (b2i (qun V (h 9)), h) := by
  unfold fT_areUnlike
  have := unlike_loop e11 env 8 0 gfu (fun _ => false) (by omega) (by unfold gfu; omega) (fun x _ => ⟨fun z => (by cases z), fun ⟨i, a, _⟩ => absurd a (Nat.not_lt_zero _)⟩) (fun i hi => absurd hi (Nat.not_lt_zero _))
  rw [← mkn_0 10 (by decide), nI_0] at this
  exact this
/-- what was read can be asked -/
def XHo (h : gH) (V : Nat → Bool) (f : (Nat → Int32) → Bool) : Prop := ∀ h', h' 15 = h 15 → (∀ k, 9 ≤ k → k ≤ 13 → h' 10 k = h 10 k) → vals9 V h' → Sp (fT_holdsFor h') (fun p => p.1 = b2i (f (h' 9)) ∧ ∀ b, b ≠ 16 → p.2 b = h' b)
theorem XHo_un {h : gH} {V : Nat → Bool} (e10 : h 10 10 = 2) (e11 : h 10 11 = mkn 8 V) : XHo h V (qun V) := by
  intro h' _ h10 env
  unfold fT_holdsFor
  refine Sp_pos (by rw [h10 10 (by omega) (by omega)]; exact e10) (Sp_eq (unlike_sp (by rw [h10 11 (by omega) (by omega)]; exact e11) env) (Sp_gg (gbo_b _) (Sp_some ⟨rfl, fun _ _ => rfl⟩)))
theorem XHo_0 {h : gH} {c1 c2 : List Int32} {f1 f2 : qX} {k : Nat} (H1 : EVs c1 f1) (H2 : EVs c2 f2) (st : ST h 0 (c1 ++ c2)) (e9 : h 10 9 = nI (c1 ++ c2).length) (hl : (c1 ++ c2).length ≤ 90) (hk : isop k = true) (e13 : h 10 13 = nI k) (e10 : h 10 10 = 0) {V : Nat → Bool} : XHo h V (fun e => qcm k (f1 e) (f2 e)) := by
  intro h' h15 h10 env
  unfold fT_holdsFor
  refine Sp_neg (by rw [h10 10 (by omega) (by omega), e10]; decide) (Sp_bind (holds_sp H1 H2 (ST_h st h15) (by rw [h10 9 (by omega) (by omega)]; exact e9) hl hk (by rw [h10 13 (by omega) (by omega)]; exact e13)) (fun p _ q => ?_))
  obtain ⟨q1, q2⟩ := q
  exact Sp_pos (by rw [q2 10 (by decide), h10 10 (by omega) (by omega)]; exact e10) (Sp_gg (by rw [q1]; exact gbo_b _) (Sp_some ⟨q1, q2⟩))
theorem XHo_1 {h : gH} {c1 c2 : List Int32} {f1 f2 : qX} {k b : Nat} (hb : b < 8) (H1 : EVs c1 f1) (H2 : EVs c2 f2) (st : ST h 0 (c1 ++ c2)) (e9 : h 10 9 = nI (c1 ++ c2).length) (hl : (c1 ++ c2).length ≤ 90) (hk : isop k = true) (e13 : h 10 13 = nI k) (e10 : h 10 10 = 1) (e12 : h 10 12 = nI b) {V : Nat → Bool} : XHo h V (fun e => (decide (e b = 1) && qcm k (f1 e) (f2 e)) || (decide (e b = 0) && !qcm k (f1 e) (f2 e))) := by
  intro h' h15 h10 env
  unfold fT_holdsFor
  refine Sp_neg (by rw [h10 10 (by omega) (by omega), e10]; decide) (Sp_bind (holds_sp H1 H2 (ST_h st h15) (by rw [h10 9 (by omega) (by omega)]; exact e9) hl hk (by rw [h10 13 (by omega) (by omega)]; exact e13)) (fun p _ q => ?_))
  obtain ⟨q1, q2⟩ := q
  refine Sp_neg (by rw [q2 10 (by decide), h10 10 (by omega) (by omega), e10]; decide) ?_
  rw [q2 10 (by decide), h10 12 (by omega) (by omega), e12, clampn (by omega), q2 9 (by decide), q1]
  refine Sp_gg (gin_t (by omega) (by omega)) ?_
  unfold fT_holdsFor_44
  cases hq : qcm k (f1 (h' 9)) (f2 (h' 9)) with
  | true =>
    refine Sp_neg (by decide) (Sp_if (fun w => Sp_some ⟨?_, q2⟩) (fun w => Sp_some ⟨?_, q2⟩))
    · dsimp only; rw [hq, decide_eq_true w]; rfl
    · dsimp only
      rw [hq, decide_eq_false w]
      cases decide (h' 9 b = 0) <;> rfl
  | false =>
    refine Sp_pos rfl (Sp_if (fun w => Sp_some ⟨?_, q2⟩) (fun w => Sp_some ⟨?_, q2⟩))
    · dsimp only
      rw [hq, decide_eq_true w]
      cases decide (h' 9 b = 1) <;> rfl
    · dsimp only
      rw [hq, decide_eq_false w]
      cases decide (h' 9 b = 1) <;> rfl
def rfx (h h1 : gH) : Prop := (∀ b, b ≠ 10 → ¬ (12 ≤ b ∧ b ≤ 15) → h1 b = h b) ∧ ∀ k, k < 7 → h1 10 k = h 10 k
theorem rfx_tr {a b c : gH} (h1 : rfx a b) (h2 : rfx b c) : rfx a c := ⟨fun o ho hp => (h2.1 o ho hp).trans (h1.1 o ho hp), fun k hk => (h2.2 k hk).trans (h1.2 k hk)⟩
theorem rfx_7 {a b : gH} (h : xfr7 a b) : rfx a b := ⟨fun o ho hp => h.1 o ho (by omega), fun k hk => h.2 k (by omega)⟩
theorem rfx_x {a b : gH} (h : xfr a b) : rfx a b := ⟨fun o ho hp => h.1 o ho (by omega), fun k hk => h.2 k (by omega) (by omega) (by omega)⟩
theorem rfx_hu (h : gH) {k : Nat} (v : Int32) (w : 7 ≤ k) : rfx h (hu h 10 k v) := ⟨fun _ ho _ => hu_ne ho, fun j hj => hu_k _ _ _ _ (by omega)⟩
def XRd (h : gH) (r : rdR) (p : Int32 × gH) : Prop := rfx h p.2 ∧ (r.1 = true → p.1 = -1 ∧ p.2 10 10 = nI r.2.2.1 ∧ p.2 10 11 = mkn 8 r.2.2.2.1 ∧ XHo p.2 r.2.2.2.1 r.2.2.2.2) ∧ (r.1 = false → p.1 = nI r.2.1)
theorem read54 {T : qTp} {c : Nat} (C : C0 T c) {h0 h : gH} {q : Nat} (H : CP T c h q) (f : rfx h0 h) : Sp (fT_read_54 h) (XRd h0 (rno q)) := by
  obtain ⟨H1, i, hi, e, et⟩ := H
  have := C.1
  unfold fT_read_54
  rw [e, clampn (by omega), (H1.2 i (by omega)).2.1, et]
  exact Sp_gg (gin_t (by omega) (by omega)) (Sp_some ⟨f, (fun z => by cases z), fun _ => rfl⟩)
theorem read38_no {T : qTp} {c : Nat} (C : C0 T c) {h0 h : gH} {q : Nat} (H : CP T c h q) (f : rfx h0 h) : Sp (fT_read_38 0 h) (XRd h0 (rno q)) := by
  unfold fT_read_38
  exact Sp_pos rfl (read54 C H f)
theorem read38 {T : qTp} {c : Nat} (C : C0 T c) {h0 h : gH} {q k : Nat} {V : Nat → Bool} {x : (Nat → Int32) → Bool} (H : CP T c h q) (f : rfx h0 h) (e10 : h 10 10 = nI k) (e11 : h 10 11 = mkn 8 V) (hx : XHo h V x) : Sp (fT_read_38 1 h) (XRd h0 (if qkd T q = 0 then (true, q, k, V, x) else rno q)) := by
  have hkd := qkd_cases T q
  unfold fT_read_38
  refine Sp_neg (by decide) (Sp_eq (tok_eq C H) ?_)
  dsimp only
  by_cases c : qkd T q = 0
  · rw [if_pos c]
    exact Sp_pos (by rw [c]; rfl) (Sp_some ⟨f, fun _ => ⟨rfl, e10, e11, hx⟩, (fun z => by cases z)⟩)
  · rw [if_neg c]
    exact Sp_neg (fun z => c ((nI_eq (b := 0) (by omega) (by omega)).mp z)) (read54 C H f)
theorem dist44 {T : qTp} {c : Nat} (C : C0 T c) {h0 h : gH} {q j : Nat} {V : Nat → Bool} (H : CP T c h q) (f : rfx h0 h) (e10 : h 10 10 = 2) (e11 : h 10 11 = mkn 8 V) (hj : j < 3) (nf : qfr T q V = false) : Sp ((fT_distinct_44 (nI j) h).bind fun p => fT_read_38 p.1 p.2) (XRd h0 (if j = 2 ∧ qkd T q = 0 then (true, q, 2, V, qun V) else rno q)) := by
  have hkd := qkd_cases T q
  unfold fT_distinct_44
  by_cases c2 : j = 2
  · refine Sp_bind (R := fun p => p = ((if qkd T q = 0 then 1 else 0 : Int32), h)) (Sp_pos (by rw [c2]; rfl) (Sp_eq (tok_eq C H) ?_)) (fun p _ e => ?_)
    · dsimp only
      by_cases k0 : qkd T q = 0
      · rw [if_pos k0]; exact Sp_pos (by rw [k0]; rfl) (Sp_some rfl)
      · rw [if_neg k0]; exact Sp_neg (fun z => k0 ((nI_eq (b := 0) (by omega) (by omega)).mp z)) (Sp_some rfl)
    · rw [e]
      dsimp only
      by_cases k0 : qkd T q = 0
      · rw [if_pos k0, if_pos ⟨c2, k0⟩]
        have := read38 C H f (k := 2) e10 e11 (XHo_un e10 e11)
        rw [if_pos k0] at this
        exact this
      · rw [if_neg k0, if_neg (fun z => k0 z.2)]
        exact read38_no C H f
  · have e : (if j = 2 ∧ qkd T q = 0 then (true, q, 2, V, qun V) else rno q) = rno q := if_neg (fun z => c2 z.1)
    rw [e]
    exact Sp_bind (R := fun p => p = ((0 : Int32), h)) (Sp_neg (fun z => c2 ((nI_eq (b := 2) (by omega) (by omega)).mp z)) (Sp_some rfl)) (fun p _ e => by rw [e]; exact read38_no C H f)
/-- a name of a distinct rule, and on -/
theorem dist_step {T : qTp} {c : Nat} (C : C0 T c) {h0 h : gH} {q j fu : Nat} {V : Nat → Bool} {r : rdR} (H : CP T c h q) (f : rfx h0 h) (e10 : h 10 10 = 2) (e11 : h 10 11 = mkn 8 V) (hj : j < 3)
    (ha : qfr T q V = true → ∀ h1, CP T c h1 (qnt T q) → rfx h0 h1 → h1 10 10 = 2 → h1 10 11 = mkn 8 (padd V (qvl T q)) → Sp ((fT_distinct_11 fu (nI (j + 1)) h1).bind fun p => fT_read_38 p.1 p.2) (XRd h0 r)) (hb : qfr T q V = false → r = if j = 2 ∧ qkd T q = 0 then (true, q, 2, V, qun V) else rno q) : Sp ((fT_distinct_11 (fu + 1) (nI j) h).bind fun p => fT_read_38 p.1 p.2) (XRd h0 r) := by
  have hkd := qkd_cases T q
  have hc90 := C.1
  have no : qfr T q V = false → Sp ((fT_distinct_44 (nI j) h).bind fun p => fT_read_38 p.1 p.2) (XRd h0 r) := fun z => by rw [hb z]; exact dist44 C H f e10 e11 hj z
  have e0 : fT_distinct_11 (fu + 1) (nI j) h = (fT_token h).bind fun p5 => if p5.1 = (2 : Int32) then gg (gin (p5.2 10 8) 91) <| if (((p5.2 10 11) >>> ((p5.2 14 (p5.2 10 8).toNatClampNeg) &&& 31)) &&& (1 : Int32)) = (1 : Int32) then fT_distinct_44 (nI j) p5.2 else gg (gin (p5.2 10 8) 91) <| glet (hu p5.2 10 11 ((p5.2 10 11) ||| ((1 : Int32) <<< ((p5.2 14 (p5.2 10 8).toNatClampNeg) &&& 31)))) fun h11 => (fT_pass h11).bind fun h13 => fT_distinct_11 fu (nI j + (1 : Int32)) h13 else fT_distinct_44 (nI j) p5.2 := by
    show (if nI j < (3 : Int32) then _ else _) = _
    rw [if_pos (show nI j < 3 from (nI_ltI (b := 3) (by omega) (by decide)).mpr hj)]
  rw [e0, tok_eq C H, Option.bind_some]
  dsimp only
  by_cases k2 : qkd T q = 2
  · have v8 := qvl8 k2
    obtain ⟨H1, i, hi, e, et⟩ := H
    have e14 := (H1.2 i (by omega)).2.2 (by rw [et]; exact Or.inr k2)
    rw [et] at e14
    have c1 : ((h 10 11) >>> ((h 14 (h 10 8).toNatClampNeg) &&& 31)) &&& (1 : Int32) = if V (qvl T q) then 1 else 0 := by rw [e, clampn (show i < 2 ^ 31 by omega), e14, e11, mkn_test (by decide) v8]
    have c2 : (h 10 11) ||| ((1 : Int32) <<< ((h 14 (h 10 8).toNatClampNeg) &&& 31)) = mkn 8 (padd V (qvl T q)) := by rw [e, clampn (show i < 2 ^ 31 by omega), e14, e11, mkn_ins (by decide) v8]; rfl
    have g8 : gin (h 10 8) 91 = true := by rw [e]; exact gin_t (by omega) (by omega)
    rw [if_pos (show nI (qkd T q) = 2 by rw [k2]; rfl), gg_t g8]
    cases cv : V (qvl T q)
    · have qf : qfr T q V = true := by unfold qfr; rw [decide_eq_true k2, cv]; rfl
      rw [if_neg (show ¬ ((h 10 11) >>> ((h 14 (h 10 8).toNatClampNeg) &&& 31)) &&& (1 : Int32) = 1 by rw [c1, cv]; decide), gg_t g8]
      have f1 : xfr h (hu h 10 11 (mkn 8 (padd V (qvl T q)))) := xfr_hu h _ (Or.inr (Or.inr rfl))
      have H2 : CP T c (hu h 10 11 (mkn 8 (padd V (qvl T q)))) q := ⟨TK_fr H1 f1, i, hi, by rw [hu_k _ _ _ _ (by decide)]; exact e, et⟩
      obtain ⟨h2, e2, g1, g2, g3, g4, g5⟩ := pass_sp C H2
      have e3 : (glet (hu h 10 11 ((h 10 11) ||| ((1 : Int32) <<< ((h 14 (h 10 8).toNatClampNeg) &&& 31)))) fun h11 => (fT_pass h11).bind fun h13 => fT_distinct_11 fu (nI j + (1 : Int32)) h13) = fT_distinct_11 fu (nI (j + 1)) h2 := by
        unfold glet
        dsimp only
        rw [c2, e2, Option.bind_some, nadd_l j 1]
      rw [e3]
      refine ha qf h2 g1 (rfx_tr f (rfx_tr (rfx_x f1) (rfx_x g2))) ?_ ?_
      · rw [g2.2 10 (by decide) (by decide) (by decide), hu_k _ _ _ _ (by decide)]; exact e10
      · rw [g4, hu_same]
    · rw [if_pos (show ((h 10 11) >>> ((h 14 (h 10 8).toNatClampNeg) &&& 31)) &&& (1 : Int32) = 1 by rw [c1, cv]; rfl)]
      exact no (by unfold qfr; rw [cv, Bool.not_true, Bool.and_false])
  · rw [if_neg (show ¬ nI (qkd T q) = 2 from fun z => k2 ((nI_eq (b := 2) (by omega) (by omega)).mp z))]
    exact no (by unfold qfr; rw [decide_eq_false k2]; rfl)
theorem xdist {T : qTp} {c : Nat} (C : C0 T c) {h0 h : gH} {q : Nat} (H : CP T c h q) (f : rfx h0 h) (e10 : h 10 10 = 2) (e11 : h 10 11 = mkn 8 qne) : Sp ((fT_distinct_11 gfu (nI 0) h).bind fun p => fT_read_38 p.1 p.2) (XRd h0 (qds T q)) := by
  obtain ⟨g, hg⟩ : ∃ g, gfu = g + 1 + 1 + 1 + 1 := ⟨gfu - 4, rfl⟩
  rw [hg]
  refine dist_step C H f e10 e11 (by omega) (fun q1 h1 H1 f1 a1 b1 => ?_) (fun z => ?_)
  · unfold qds
    rw [if_pos q1]
    refine dist_step C H1 f1 a1 b1 (by omega) (fun q2 h2 H2 f2 a2 b2 => ?_) (fun z => ?_)
    · unfold qds3
      rw [if_pos q2]
      refine dist_step C H2 f2 a2 b2 (by omega) (fun q3 h3 H3 f3 a3 b3 => ?_) (fun z => ?_)
      · have k0 : ¬ qkd T (qnt T (qnt T q)) = 0 := fun z => by unfold qfr at q3; rw [z] at q3; cases q3
        unfold qds2
        rw [if_neg k0, if_pos q3]
        unfold fT_distinct_11 qds1
        exact Sp_bind (R := fun p => p = ((1 : Int32), h3)) (Sp_neg (by decide) (Sp_some rfl)) (fun p _ e => by rw [e]; exact read38 C H3 f3 (k := 2) a3 b3 (XHo_un a3 b3))
      · by_cases k0 : qkd T (qnt T (qnt T q)) = 0
        · have e1 : qds2 T (qnt T (qnt T q)) (padd (padd qne (qvl T q)) (qvl T (qnt T q))) = (true, qnt T (qnt T q), 2, padd (padd qne (qvl T q)) (qvl T (qnt T q)), qun (padd (padd qne (qvl T q)) (qvl T (qnt T q)))) := if_pos k0
          rw [e1]; exact (if_pos ⟨rfl, k0⟩).symm
        · have e1 : qds2 T (qnt T (qnt T q)) (padd (padd qne (qvl T q)) (qvl T (qnt T q))) = rno (qnt T (qnt T q)) := by unfold qds2; rw [if_neg k0, if_neg (by rw [z]; decide)]
          rw [e1]; exact (if_neg (fun w => k0 w.2)).symm
    · unfold qds3
      rw [z, if_neg (by decide), if_neg (fun z => absurd z.1 (by decide))]
  · unfold qds
    rw [z, if_neg (by decide), if_neg (fun z => absurd z.1 (by decide))]
/-- a test, read into steps -/
theorem xtest {T : qTp} (B : TpB T) {c : Nat} (C : C0 T c) {h0 h : gH} {q : Nat} {V : Nat → Bool} (H : CP T c h q) (hq : q ≤ T.1) (f : rfx h0 h) (e11 : h 10 11 = mkn 8 V) (e9 : h 10 9 = nI 0) {r : rdR} (hr : r = if tok T q V = true ∧ qkd T (tpl T q V) = 0 then r else rno (tpl T q V))
    (hk : ∀ h1, (∀ k, k ≠ 8 → k ≠ 9 → k ≠ 11 → k ≠ 13 → h1 10 k = h 10 k) → tok T q V = true → CP T c h1 (tpl T q V) → rfx h0 h1 → h1 10 11 = mkn 8 (ts2 T q V).2.2.1 → EVs (ts1 T q V).2.2.2.1 (ts1 T q V).2.2.2.2 → EVs (ts2 T q V).2.2.2.1 (ts2 T q V).2.2.2.2 → ST h1 0 ((ts1 T q V).2.2.2.1 ++ (ts2 T q V).2.2.2.1) → h1 10 9 = nI ((ts1 T q V).2.2.2.1 ++ (ts2 T q V).2.2.2.1).length → ((ts1 T q V).2.2.2.1 ++ (ts2 T q V).2.2.2.1).length ≤ 90 → isop (qkd T (ts1 T q V).2.1) = true → h1 10 13 = nI (qkd T (ts1 T q V).2.1) → Sp (fT_read_38 1 h1) (XRd h0 r)) : Sp ((fT_tested_65 h).bind fun p => fT_read_38 p.1 p.2) (XRd h0 r) := by
  have hn := B.1
  have hkd := qkd_cases T (ts1 T q V).2.1
  have pg1 := PG_sum (PG_lv T 5) q V hq
  have pe1 := PE_sum (PE_lv T 5) q V
  have no : tok T q V = false → ∀ h2, CP T c h2 (tpl T q V) → rfx h0 h2 → Sp (fT_read_38 0 h2) (XRd h0 r) := by
    intro z h2 a b
    rw [hr, if_neg (fun w => by rw [w.1] at z; cases z)]
    exact read38_no C a b
  unfold fT_tested_65
  obtain ⟨p, ep, g1, g2, g3, ⟨j, hj, g4⟩, g5⟩ := xsum_all B C h q V 0 H hq e11 e9 (Nat.zero_le _)
  rw [nI_0] at ep
  rw [ep, Option.bind_some]
  have fr1 : rfx h0 p.2 := rfx_tr f (rfx_x g1)
  by_cases w : (ts1 T q V).1 = true
  · have w' : (pSum T (pLv T 5) q V).1 = true := w
    rw [if_neg (show ¬ p.1 = 0 by rw [g2, w']; decide), tok_eq C g3, Option.bind_some]
    obtain ⟨s1, s2, s3, s4⟩ := g5 w'
    obtain ⟨t1, t2, t3⟩ := pg1.2.2 w'
    have f2 : rfx p.2 (hu p.2 10 13 (nI (qkd T (ts1 T q V).2.1))) := rfx_hu _ _ (by omega)
    have ek : ∀ s : Nat, s < 100 → (nI (qkd T (ts1 T q V).2.1) = nI s ↔ qkd T (ts1 T q V).2.1 = s) := fun s hs => nI_eq (by omega) (by omega)
    generalize hh : hu p.2 10 13 (nI (qkd T (ts1 T q V).2.1)) = h2 at f2
    have k13 : h2 10 13 = nI (qkd T (ts1 T q V).2.1) := by rw [← hh, hu_same]
    have kk : ∀ k, k ≠ 13 → h2 10 k = p.2 10 k := fun k hk => by rw [← hh, hu_k _ _ _ _ hk]
    have kb : ∀ b, b ≠ 10 → h2 b = p.2 b := fun b hb => by rw [← hh, hu_ne hb]
    have H2 : CP T c h2 (ts1 T q V).2.1 := by
      obtain ⟨H1, i, hi, e, et⟩ := g3
      exact ⟨⟨by rw [kk 7 (by decide)]; exact H1.1, fun i hi => by rw [kb 12 (by decide), kb 13 (by decide), kb 14 (by decide)]; exact H1.2 i hi⟩, i, hi, by rw [kk 8 (by decide)]; exact e, et⟩
    have go : isop (qkd T (ts1 T q V).2.1) = true → Sp ((fT_tested_121 h2).bind fun p => fT_read_38 p.1 p.2) (XRd h0 r) := by
      intro ho
      have cg : tgo T q V = true := by unfold tgo; rw [w, ho]; rfl
      have tp : tpl T q V = (ts2 T q V).2.1 := by unfold tpl; rw [if_pos cg]
      have kn0 : ¬ qkd T (ts1 T q V).2.1 = 0 := fun z => by rw [z] at ho; cases ho
      have nx := qnt_gt (qkd_lt kn0)
      have pg2 := PG_sum (PG_lv T 5) (qnt T (ts1 T q V).2.1) (ts1 T q V).2.2.1 nx.2
      unfold fT_tested_121
      obtain ⟨h3, e3, m1, m2, m3, m4, m5⟩ := pass_sp C H2
      rw [e3, Option.bind_some]
      have t2' : (ts1 T q V).2.2.2.1.length ≤ (ts1 T q V).2.1 := Nat.le_trans (Nat.le_add_left _ _) t2
      obtain ⟨p2, ep2, u1, u2, u3, ⟨j2, hj2, u4⟩, u5⟩ := xsum_all B C h3 (qnt T (ts1 T q V).2.1) (ts1 T q V).2.2.1 ((ts1 T q V).2.2.2.1.length) m1 nx.2 (by rw [m4, kk 11 (by decide)]; exact s1) (by rw [m3, kk 9 (by decide), s2, Nat.zero_add]; rfl) (by omega)
      rw [nI_0] at ep2
      rw [ep2, Option.bind_some, gg_t (by rw [u2]; exact gbo_b _), Option.bind_some]
      have fr3 : rfx h0 p2.2 := rfx_tr fr1 (rfx_tr f2 (rfx_tr (rfx_x m2) (rfx_x u1)))
      dsimp only
      rw [u2]
      have u3 : CP T c p2.2 (tpl T q V) := by rw [tp]; exact u3
      cases w2 : (pSum T (pLv T 5) (qnt T (ts1 T q V).2.1) (ts1 T q V).2.2.1).1 with
      | false =>
        have w2' : (ts2 T q V).1 = false := w2
        exact no (by unfold tok; rw [w2', Bool.and_false]) p2.2 u3 fr3
      | true =>
        have w2' : (ts2 T q V).1 = true := w2
        obtain ⟨v1, v2, v3, v4⟩ := u5 w2
        obtain ⟨x1, x2, x3⟩ := pg2.2.2 w2
        have x4 := pg2.2.1
        have ct : tok T q V = true := by unfold tok; rw [cg, w2']; rfl
        have v3' : ST p2.2 (ts1 T q V).2.2.2.1.length (ts2 T q V).2.2.2.1 := v3
        have ln : ((ts1 T q V).2.2.2.1 ++ (ts2 T q V).2.2.2.1).length = (ts1 T q V).2.2.2.1.length + (ts2 T q V).2.2.2.1.length := List.length_append
        have x2' : qnt T (ts1 T q V).2.1 + (ts2 T q V).2.2.2.1.length ≤ T.1 := Nat.le_trans x2 x4
        refine hk p2.2 (fun k a b d e => ?_) ct u3 fr3 v1 (pe1 w') (PE_sum (PE_lv T 5) _ _ w2) (ST_app (fun i hi => ?_) (by rw [Nat.zero_add]; exact v3')) ?_ (by omega) ho ?_
        · rw [u1.2 k a b d, m2.2 k a b d, kk k e, g1.2 k a b d]
        · rw [v4 _ (by omega), m5, kb 15 (by decide)]; exact s3 i hi
        · rw [v2, ln]; rfl
        · rw [u1.2 13 (by decide) (by decide) (by decide), m2.2 13 (by decide) (by decide) (by decide)]; exact k13
    unfold glet
    dsimp only
    rw [show hu p.2 10 13 (nI (qkd T (pSum T (pLv T 5) q V).2.1)) = h2 from hh]
    by_cases d0 : qkd T (ts1 T q V).2.1 = 60
    · rw [if_pos (show h2 10 13 = 60 by rw [k13]; exact (ek 60 (by omega)).mpr d0)]; exact go (by rw [d0]; rfl)
    rw [if_neg (show ¬ h2 10 13 = 60 by rw [k13]; exact fun z => d0 ((ek 60 (by omega)).mp z))]
    by_cases d1 : qkd T (ts1 T q V).2.1 = 61
    · rw [if_pos (show h2 10 13 = 61 by rw [k13]; exact (ek 61 (by omega)).mpr d1)]; exact go (by rw [d1]; rfl)
    rw [if_neg (show ¬ h2 10 13 = 61 by rw [k13]; exact fun z => d1 ((ek 61 (by omega)).mp z))]
    by_cases d2 : qkd T (ts1 T q V).2.1 = 62
    · rw [if_pos (show h2 10 13 = 62 by rw [k13]; exact (ek 62 (by omega)).mpr d2)]; exact go (by rw [d2]; rfl)
    rw [if_neg (show ¬ h2 10 13 = 62 by rw [k13]; exact fun z => d2 ((ek 62 (by omega)).mp z))]
    by_cases d3 : qkd T (ts1 T q V).2.1 = 33
    · rw [if_pos (show h2 10 13 = 33 by rw [k13]; exact (ek 33 (by omega)).mpr d3)]; exact go (by rw [d3]; rfl)
    rw [if_neg (show ¬ h2 10 13 = 33 by rw [k13]; exact fun z => d3 ((ek 33 (by omega)).mp z)), Option.bind_some]
    have ng : tgo T q V = false := by unfold tgo isop; rw [decide_eq_false d0, decide_eq_false d1, decide_eq_false d2, decide_eq_false d3]; simp
    have tp : tpl T q V = (ts1 T q V).2.1 := by unfold tpl; rw [ng]; rfl
    exact no (by unfold tok; rw [ng]; rfl) h2 (by rw [tp]; exact H2) (rfx_tr fr1 f2)
  · have tp : tpl T q V = (ts1 T q V).2.1 := by unfold tpl tgo; rw [Bool.eq_false_iff.mpr w]; rfl
    have w' : (pSum T (pLv T 5) q V).1 = false := Bool.eq_false_iff.mpr w
    rw [if_pos (show p.1 = 0 by rw [g2, w']; rfl), Option.bind_some]
    exact no (by unfold tok tgo; rw [Bool.eq_false_iff.mpr w]; rfl) p.2 (by rw [tp]; exact g3) fr1
theorem CP_hu {T : qTp} {c : Nat} {h : gH} {q k : Nat} (H : CP T c h q) (v : Int32) (w : 8 < k) : CP T c (hu h 10 k v) q := by
  obtain ⟨H1, i, hi, e, et⟩ := H
  exact ⟨⟨by rw [hu_k _ _ _ _ (by omega)]; exact H1.1, fun i hi => by rw [hu_ne (by decide), hu_ne (by decide), hu_ne (by decide)]; exact H1.2 i hi⟩, i, hi, by rw [hu_k _ _ _ _ (by omega)]; exact e, et⟩
theorem xplain {T : qTp} (B : TpB T) {c : Nat} (C : C0 T c) {h0 h : gH} {q : Nat} (H : CP T c h q) (hq : q ≤ T.1) (f : rfx h0 h) (e10 : h 10 10 = 0) (e11 : h 10 11 = mkn 8 qne) (e9 : h 10 9 = nI 0) : Sp ((fT_tested_65 h).bind fun p => fT_read_38 p.1 p.2) (XRd h0 (qpl T q)) := by
  refine xtest B C H hq f e11 e9 ?_ (fun h1 g ct H1 f1 g11 v1 v2 st g9 hl ho g13 => ?_)
  · by_cases w : tok T q qne = true ∧ qkd T (tpl T q qne) = 0
    · exact (if_pos w).symm
    · rw [if_neg w]; exact if_neg w
  · have := read38 C H1 f1 (k := 0) (by rw [g 10 (by decide) (by decide) (by decide) (by decide)]; exact e10) g11 (XHo_0 v1 v2 st g9 hl ho g13 (by rw [g 10 (by decide) (by decide) (by decide) (by decide)]; exact e10))
    unfold qpl
    by_cases w : qkd T (tpl T q qne) = 0
    · rw [if_pos w] at this; rw [if_pos ⟨ct, w⟩]; exact this
    · rw [if_neg w] at this; rw [if_neg (fun z => w z.2)]; exact this
theorem xbound {T : qTp} (B : TpB T) {c : Nat} (C : C0 T c) {h0 h : gH} {q b : Nat} (hb : b < 8) (H : CP T c h q) (hq : q ≤ T.1) (f : rfx h0 h) (e10 : h 10 10 = 1) (e12 : h 10 12 = nI b) (e11 : h 10 11 = mkn 8 (padd qne b)) (e9 : h 10 9 = nI 0) : Sp ((fT_tested_65 h).bind fun p => fT_read_38 p.1 p.2) (XRd h0 (qrf T b q)) := by
  refine xtest B C H hq f e11 e9 ?_ (fun h1 g ct H1 f1 g11 v1 v2 st g9 hl ho g13 => ?_)
  · by_cases w : tok T q (padd qne b) = true ∧ qkd T (tpl T q (padd qne b)) = 0
    · exact (if_pos w).symm
    · rw [if_neg w]; exact if_neg w
  · have := read38 C H1 f1 (k := 1) (by rw [g 10 (by decide) (by decide) (by decide) (by decide)]; exact e10) g11 (XHo_1 hb v1 v2 st g9 hl ho g13 (by rw [g 10 (by decide) (by decide) (by decide) (by decide)]; exact e10) (by rw [g 12 (by decide) (by decide) (by decide) (by decide)]; exact e12))
    by_cases w : qkd T (tpl T q (padd qne b)) = 0
    · rw [if_pos w] at this; rw [qrf_t ⟨ct, w⟩]; exact this
    · rw [if_neg w] at this; rw [qrf_f (fun z => w z.2)]; exact this
theorem xread {T : qTp} (B : TpB T) {h : gH} (HT : XTp h T) : Sp (fT_read h) (XRd h (qrd T)) := by
  unfold fT_read
  refine Sp_bind (split_sp B HT) (fun h1 _ g => ?_)
  obtain ⟨f1, c, K, hc, ec, hl⟩ := g
  have C : C0 T c := ⟨hc, ec, hl⟩
  refine Sp_let (Sp_let (Sp_let ?_))
  generalize hh : hu (hu (hu h1 10 8 0) 10 9 0) 10 11 0 = h2
  have f2 : rfx h h2 := by rw [← hh]; exact rfx_tr (rfx_7 f1) (rfx_tr (rfx_hu _ _ (by omega)) (rfx_tr (rfx_hu _ _ (by omega)) (rfx_hu _ _ (by omega))))
  have H2 : CP T c h2 (qskip T 0) := by
    refine ⟨⟨?_, fun i hi => ?_⟩, 0, Nat.zero_le _, ?_, rfl⟩
    · rw [← hh, hu_k _ _ _ _ (by decide), hu_k _ _ _ _ (by decide), hu_k _ _ _ _ (by decide)]; exact K.1
    · rw [← hh, hu_ne (by decide), hu_ne (by decide), hu_ne (by decide), hu_ne (by decide), hu_ne (by decide), hu_ne (by decide), hu_ne (by decide), hu_ne (by decide), hu_ne (by decide)]; exact K.2 i hi
    · rw [← hh, hu_k _ _ _ _ (by decide), hu_k _ _ _ _ (by decide), hu_same]; rfl
  have e9 : h2 10 9 = nI 0 := by rw [← hh, hu_k _ _ _ _ (by decide), hu_same]; rfl
  have e11 : h2 10 11 = mkn 8 qne := by rw [← hh, hu_same]; exact mkn_0 8 (by decide)
  have hq : qskip T 0 ≤ T.1 := (qskip_ge (Nat.zero_le _)).2
  have hkd := qkd_cases T (qskip T 0)
  have ek : ∀ s : Nat, s < 100 → (nI (qkd T (qskip T 0)) = nI s ↔ qkd T (qskip T 0) = s) := fun s hs => nI_eq (by omega) (by omega)
  refine Sp_eq (tok_eq C H2) ?_
  dsimp only
  unfold qrd
  by_cases k3 : qkd T (qskip T 0) = 3
  · rw [if_pos k3]
    refine Sp_pos ((ek 3 (by omega)).mpr k3) ?_
    unfold fT_distinct
    have H3 : CP T c (hu h2 10 10 2) (qskip T 0) := CP_hu H2 _ (by decide)
    obtain ⟨h4, e4, g1, g2, g3, g4, g5⟩ := pass_sp C H3
    have e5 : (glet (hu h2 10 10 (2 : Int32)) fun h1 => (fT_pass h1).bind fun h3 => fT_distinct_11 gfu (0 : Int32) h3) = fT_distinct_11 gfu (nI 0) h4 := by
      unfold glet
      dsimp only
      rw [e4, Option.bind_some, nI_0]
    rw [e5]
    exact xdist C g1 (rfx_tr f2 (rfx_tr (rfx_hu h2 _ (by omega)) (rfx_x g2))) (by rw [g2.2 10 (by decide) (by decide) (by decide), hu_same]) (by rw [g4, hu_k _ _ _ _ (by decide)]; exact e11)
  · rw [if_neg k3]
    refine Sp_neg (fun z => k3 ((ek 3 (by omega)).mp z)) ?_
    unfold fT_tested glet
    dsimp only
    have H3 : CP T c (hu h2 10 10 0) (qskip T 0) := CP_hu H2 _ (by decide)
    have f3 : rfx h (hu h2 10 10 0) := rfx_tr f2 (rfx_hu h2 _ (by omega))
    have g9 : hu h2 10 10 0 10 9 = nI 0 := by rw [hu_k _ _ _ _ (by decide)]; exact e9
    have g11 : hu h2 10 10 0 10 11 = mkn 8 qne := by rw [hu_k _ _ _ _ (by decide)]; exact e11
    have g10 : hu h2 10 10 0 10 10 = 0 := hu_same _ _ _ _
    generalize hu h2 10 10 0 = h3 at H3 f3 g9 g11 g10
    have pl := xplain B C H3 hq f3 g10 g11 g9
    rw [tok_eq C H3, Option.bind_some]
    dsimp only
    by_cases k2 : qkd T (qskip T 0) = 2
    · have hlt := qkd_lt (T := T) (q := qskip T 0) (by omega)
      have v8 := qvl8 k2
      obtain ⟨H1, i, hi, e, et⟩ := H3
      have hkd2 := qkd_cases T (qnt T (qskip T 0))
      have ic : i < c := by
        by_cases w : i < c
        · exact w
        · have : i = c := by omega
          rw [this, ec] at et
          omega
      have e12 : h3 12 (i + 1) = nI (qkd T (qnt T (qskip T 0))) := by
        rw [(H1.2 (i + 1) (by omega)).1]
        show nI (qkd T (qnt T (tkp T i))) = _
        rw [et]
      have e14 := (H1.2 i (by omega)).2.2 (by rw [et]; exact Or.inr k2)
      rw [et] at e14
      have ei : h3 10 8 + (1 : Int32) = nI (i + 1) := by rw [e]; exact nI_add i 1
      have e12' : h3 12 (h3 10 8 + (1 : Int32)).toNatClampNeg = nI (qkd T (qnt T (qskip T 0))) := by rw [ei, clampn (show i + 1 < 2 ^ 31 by omega)]; exact e12
      rw [if_pos (show nI (qkd T (qskip T 0)) = 2 from (ek 2 (by omega)).mpr k2), gg_t (show gin (h3 10 8 + (1 : Int32)) 91 = true by rw [ei]; exact gin_t (by omega) (by omega))]
      by_cases k58 : qkd T (qnt T (qskip T 0)) = 58
      · rw [if_pos (show h3 12 (h3 10 8 + (1 : Int32)).toNatClampNeg = 58 by rw [e12', k58]; rfl), if_pos ⟨k2, k58⟩]
        have a8 : hu h3 10 10 1 10 8 = nI i := by rw [hu_k _ _ _ _ (by decide)]; exact e
        have a14 : hu h3 10 10 1 14 (hu h3 10 10 1 10 8).toNatClampNeg = nI (qvl T (qskip T 0)) := by rw [a8, clampn (by omega), hu_ne (by decide)]; exact e14
        have a12 : hu (hu h3 10 10 1) 10 12 (nI (qvl T (qskip T 0))) 10 12 = nI (qvl T (qskip T 0)) := hu_same _ _ _ _
        rw [gg_t (show gin (hu h3 10 10 1 10 8) 91 = true by rw [a8]; exact gin_t (by omega) (by omega)), a14, a12, mkn_one (n := 8) (by decide) v8]
        have H4 : CP T c (hu (hu (hu h3 10 10 1) 10 12 (nI (qvl T (qskip T 0)))) 10 11 (mkn 8 fun i => decide (i = qvl T (qskip T 0)))) (qskip T 0) := CP_hu (CP_hu (CP_hu ⟨H1, i, hi, e, et⟩ _ (by decide)) _ (by decide)) _ (by decide)
        have f4 : rfx h (hu (hu (hu h3 10 10 1) 10 12 (nI (qvl T (qskip T 0)))) 10 11 (mkn 8 fun i => decide (i = qvl T (qskip T 0)))) := rfx_tr f3 (rfx_tr (rfx_hu _ _ (by omega)) (rfx_tr (rfx_hu _ _ (by omega)) (rfx_hu _ _ (by omega))))
        obtain ⟨h5, e5, m1, m2, m3, m4, m5⟩ := pass_sp C H4
        obtain ⟨h6, e6, n1, n2, n3, n4, n5⟩ := pass_sp C m1
        rw [e5, Option.bind_some, e6, Option.bind_some]
        refine xbound B C v8 n1 (qnt_le _) (rfx_tr f4 (rfx_tr (rfx_x m2) (rfx_x n2))) ?_ ?_ ?_ ?_
        · rw [n2.2 10 (by decide) (by decide) (by decide), m2.2 10 (by decide) (by decide) (by decide), hu_k _ _ _ _ (by decide), hu_k _ _ _ _ (by decide), hu_same]
        · rw [n2.2 12 (by decide) (by decide) (by decide), m2.2 12 (by decide) (by decide) (by decide), hu_k _ _ _ _ (by decide), hu_same]
        · rw [n4, m4, hu_same]
          exact mkn_congr (fun i _ => by unfold padd qne; rw [Bool.false_or])
        · rw [n3, m3, hu_k _ _ _ _ (by decide), hu_k _ _ _ _ (by decide), hu_k _ _ _ _ (by decide)]; exact g9
      · rw [if_neg (show ¬ h3 12 (h3 10 8 + (1 : Int32)).toNatClampNeg = 58 by rw [e12']; exact fun z => k58 ((nI_eq (b := 58) (by omega) (by omega)).mp z)), if_neg (show ¬ (qkd T (qskip T 0) = 2 ∧ qkd T (qnt T (qskip T 0)) = 58) from fun z => k58 z.2)]
        exact pl
    · rw [if_neg (show ¬ nI (qkd T (qskip T 0)) = 2 from fun z => k2 ((ek 2 (by omega)).mp z)), if_neg (show ¬ (qkd T (qskip T 0) = 2 ∧ qkd T (qnt T (qskip T 0)) = 58) from fun z => k2 z.1)]
      exact pl

