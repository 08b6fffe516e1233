/-! the reference learns -/
def MPth (h : gH) (pth : List (Nat × Nat)) : Prop := ∀ i, i < pth.length → h 84 i = nI (pth.getD i (0, 0)).1 ∧ h 85 i = nI (pth.getD i (0, 0)).2
/-- what a thought leaves alone -/
def MLn (c : sC) (kd : Nat → Nat) (t0 : qT) (h : gH) (E : qE) (pth : List (Nat × Nat)) : Prop := ME h E kd ∧ h 65 36 = 1 ∧ MT h t0 ∧ MD h (cd c) (cdec c) ∧ MPth h pth
theorem getD_mem {pth : List (Nat × Nat)} {i : Nat} (hi : i < pth.length) : pth.getD i (0, 0) ∈ pth := by
  rw [List.getD_eq_getElem?_getD, List.getElem?_eq_getElem hi]
  exact List.getElem_mem hi
/-- once more from the start, with some of the tries -/
theorem mtrial {c : sC} {kd : Nat → Nat} {t0 : qT} {h : gH} {E : qE} {pth : List (Nat × Nat)} (H : MLn c kd t0 h E pth) (hp : ∀ a ∈ pth, a.1 < 8) {mk : Int32} (hm : ∀ i, bt mk i = true → i < pth.length) : Sp (fM_starts (allm (cd c)) mk (-1) h) (fun h1 => MLn c kd t0 h1 E pth ∧ h1 65 2 = b2i (strf c E pth mk)) := by
  obtain ⟨g1, g2, g3, g4, g5⟩ := H
  refine Sp_mono (Sp_and (starts_sp (b := none) (fun _ z => by cases z) (mk := allm (cd c)) (mk2 := mk) (tr := fun i => pth.getD i (0, 0)) g2 g3 g1 g4 (fun i hi hb => ?_)) (fun _ e => fM_starts_fr e)) (fun h1 q => ?_)
  · have hl := hm i hb
    exact ⟨(g5 i hl).1, hp _ (getD_mem hl), (g5 i hl).2⟩
  · obtain ⟨⟨q1, q2, q3, q4⟩, fr⟩ := q
    have w : ∀ b, b ≠ 66 → b ≠ 71 → b ≠ 74 → b ≠ 75 → b ≠ 81 → b ≠ 65 → h1 b = h b := fun b b1 b2 b3 b4 b5 b6 => funext fun k => fr b k (by simp; omega) (by simp; omega)
    have w65 : ∀ k, k ≠ 2 → k ≠ 35 → k ≠ 15 → k ≠ 9 → k ≠ 34 → h1 65 k = h 65 k := fun k k1 k2 k3 k4 k5 => fr 65 k (by simp) (by simp; omega)
    refine ⟨⟨ME_fr g1 (w65 8 (by decide) (by decide) (by decide) (by decide) (by decide)) (q2.trans g1.2.2.2.1.symm) (w 67 (by decide) (by decide) (by decide) (by decide) (by decide) (by decide)) (w 68 (by decide) (by decide) (by decide) (by decide) (by decide) (by decide)) (w 69 (by decide) (by decide) (by decide) (by decide) (by decide) (by decide)) (w 70 (by decide) (by decide) (by decide) (by decide) (by decide) (by decide)), q3, q4, MD_fr g4 (w65 12 (by decide) (by decide) (by decide) (by decide) (by decide)) (w 72 (by decide) (by decide) (by decide) (by decide) (by decide) (by decide)) (w 73 (by decide) (by decide) (by decide) (by decide) (by decide) (by decide)), fun i hi => ?_⟩, q1.2.2⟩
    rw [w 84 (by decide) (by decide) (by decide) (by decide) (by decide) (by decide), w 85 (by decide) (by decide) (by decide) (by decide) (by decide) (by decide)]
    exact g5 i hi
/-- the pairs are written down -/
theorem ml108 {c : sC} {kd : Nat → Nat} {t0 : qT} {E : qE} {pth : List (Nat × Nat)} {P0 : qP} (hp : sPC pth P0) {mk : Int32} (h8 : El E < 8) {h0 : gH} (H0 : MLn c kd t0 h0 E pth) : ∀ (m k fu : Nat) (h : gH), k + m = pth.length → m < fu → (∀ b, b ≠ 67 → b ≠ 68 → b ≠ 70 → h b = h0 b) → (∀ i, i ≠ 16 + El E → h 67 i = h0 67 i ∧ h 68 i = h0 68 i) → h 67 (16 + El E) = 3 → (∀ q, q < 8 * El E → h 70 q = h0 70 q) → h 68 (16 + El E) = mkn 8 (fun x => (List.range k).any fun i => bt mk i && decide ((pth.getD i (0, 0)).1 = x)) → (∀ i, i < k → bt mk i = true → h 70 (8 * El E + (pth.getD i (0, 0)).1) = nI (pth.getD i (0, 0)).2) → Sp (fM_learns_108 (nI pth.length) mk (nI (16 + El E)) fu (nI k) h) (fun p => p.1 = 1 ∧ MLn c kd t0 p.2 (sEln E pth mk) pth) := by
  have hl8 := sI_len hp
  intro m
  induction m with
  | zero =>
    intro k fu h hk hfu a b d e f g
    obtain ⟨fu, rfl⟩ : ∃ f, fu = f + 1 := ⟨fu - 1, by omega⟩
    have : k = pth.length := by omega
    subst this
    obtain ⟨g1, g2, g3, g4, g5⟩ := H0
    unfold fM_learns_108
    refine Sp_neg (nI_nlt (Nat.le_refl _) (by omega)) (Sp_let (Sp_some ⟨rfl, ?_⟩))
    have e9 : h 65 9 = nI (El E) := by rw [a 65 (by decide) (by decide) (by decide)]; exact g1.2.2.2.1
    rw [e9, nadd_l (El E) 1]
    dsimp only
    have w65 : ∀ k, k ≠ 9 → hu h 65 9 (nI (El E + 1)) 65 k = h0 65 k := fun k hk => by rw [hu_k _ _ _ _ hk, a 65 (by decide) (by decide) (by decide)]
    have w : ∀ b, b ≠ 65 → hu h 65 9 (nI (El E + 1)) b = h b := fun b hb => hu_ne hb
    have w9 : hu h 65 9 (nI (El E + 1)) 65 9 = nI (El E + 1) := hu_same _ _ _ _
    generalize hu h 65 9 (nI (El E + 1)) = h1 at w65 w w9
    have w0 : ∀ b, b ≠ 65 → b ≠ 67 → b ≠ 68 → b ≠ 70 → h1 b = h0 b := fun b b0 b1 b2 b3 => by rw [w b b0]; exact a b b1 b2 b3
    obtain ⟨m1, m2, m3, m4, m5, m6⟩ := g1
    refine ⟨⟨m1, by show El E + 1 ≤ 8; omega, by rw [w65 8 (by decide)]; exact m3, w9, fun r hr => ?_, fun j hj => ?_⟩, by rw [w65 36 (by decide)]; exact g2, MT_of g3 (w65 15 (by decide)) (w0 74 (by decide) (by decide) (by decide) (by decide)) (w0 75 (by decide) (by decide) (by decide) (by decide)), MD_fr g4 (w65 12 (by decide)) (w0 72 (by decide) (by decide) (by decide) (by decide)) (w0 73 (by decide) (by decide) (by decide) (by decide)), fun i hi => ?_⟩
    · have hr : r < En E := hr
      obtain ⟨n1, n2, n3, n4, n5, n6⟩ := m5 r hr
      show h1 68 r = mkn 8 (updg (Ev E) (16 + El E) (slV pth mk) r) ∧ h1 67 r = nI (kd r) ∧ kd r < 3 ∧ (vls (updg (Ev E) (16 + El E) (slV pth mk) r)).length ≤ 3 ∧ updg (Er E) (16 + El E) 9 r = (vls (updg (Ev E) (16 + El E) (slV pth mk) r)).length + kd r ∧ TB h1 r (ET E r)
      rw [updg_o _ _ (by omega), updg_o _ _ (by omega), w 68 (by decide), w 67 (by decide), (b r (by omega)).1, (b r (by omega)).2]
      refine ⟨n1, n2, n3, n4, n5, fun x hx y hy z hz => ?_⟩
      rw [w0 69 (by decide) (by decide) (by decide) (by decide)]; exact n6 x hx y hy z hz
    · have hj : j < El E + 1 := hj
      show h1 68 (16 + j) = mkn 8 (updg (Ev E) (16 + El E) (slV pth mk) (16 + j)) ∧ h1 67 (16 + j) = 3 ∧ updg (Er E) (16 + El E) 9 (16 + j) = 9 ∧ ∀ x, x < 8 → updg (Ev E) (16 + El E) (slV pth mk) (16 + j) x = true → h1 70 (8 * j + x) = nI (updg (Ep E) (16 + El E) (slp pth) (16 + j) x) ∧ updg (Ep E) (16 + El E) (slp pth) (16 + j) x < 10
      rw [w 68 (by decide), w 67 (by decide), w 70 (by decide)]
      by_cases ej : j = El E
      · subst ej
        rw [updg_n, updg_n, updg_n]
        refine ⟨f, d, rfl, fun x hx hv => ?_⟩
        unfold slV at hv
        obtain ⟨i, hi, hb⟩ := List.any_eq_true.mp hv
        rw [Bool.and_eq_true] at hb
        have hi := List.mem_range.mp hi
        have ex := of_decide_eq_true hb.2
        have := g i hi hb.1
        rw [← slp_at hp.1 hi, ex] at this
        exact ⟨this, slp_lt (fun a ha => (hp.2 a ha).2.1) x⟩
      · have ej2 : 16 + j ≠ 16 + El E := by omega
        rw [updg_o _ _ ej2, updg_o _ _ ej2, updg_o _ _ ej2, (b _ ej2).1, (b _ ej2).2]
        obtain ⟨n1, n2, n3, n4⟩ := m6 j (by omega)
        refine ⟨n1, n2, n3, fun x hx hv => ?_⟩
        rw [e _ (by omega)]; exact n4 x hx hv
    · rw [w0 84 (by decide) (by decide) (by decide) (by decide), w0 85 (by decide) (by decide) (by decide) (by decide)]; exact g5 i hi
  | succ m ih =>
    intro k fu h hk hfu a b d e f g
    obtain ⟨fu, rfl⟩ : ∃ f, fu = f + 1 := ⟨fu - 1, by omega⟩
    have g5 := H0.2.2.2.2 k (by omega)
    have hx := (hp.2 _ (getD_mem (show k < pth.length by omega))).1
    have rs : ∀ x, ((List.range (k + 1)).any fun i => bt mk i && decide ((pth.getD i (0, 0)).1 = x)) = (((List.range k).any fun i => bt mk i && decide ((pth.getD i (0, 0)).1 = x)) || (bt mk k && decide ((pth.getD k (0, 0)).1 = x))) := fun x => by rw [List.range_succ, List.any_append, List.any_cons, List.any_nil, Bool.or_false]
    unfold fM_learns_108
    refine Sp_pos ((nlt (by omega) (by omega)).mpr (by omega)) ?_
    rw [bt_test mk (show k < 32 by omega)]
    cases hb : bt mk k
    · refine Sp_neg (by decide) ?_
      rw [nadd_l k 1]
      refine ih (k + 1) fu h (by omega) (by omega) a b d e ?_ (fun i hi hbi => ?_)
      · rw [f]
        exact mkn_congr (fun x _ => by rw [rs x, hb, Bool.false_and, Bool.or_false])
      · by_cases ei : i = k
        · rw [ei, hb] at hbi; cases hbi
        · exact g i (by omega) hbi
    · refine Sp_pos rfl (Sp_gg (gin_t (by omega) (by omega)) (Sp_gg (gin_t (by omega) (by omega)) (Sp_gg (gin_t (by omega) (by omega)) (Sp_let ?_))))
      have e84 : h 84 k = nI (pth.getD k (0, 0)).1 := by rw [a 84 (by decide) (by decide) (by decide)]; exact g5.1
      have e85 : h 85 k = nI (pth.getD k (0, 0)).2 := by rw [a 85 (by decide) (by decide) (by decide)]; exact g5.2
      have e9 : h 65 9 = nI (El E) := by rw [a 65 (by decide) (by decide) (by decide)]; exact H0.1.2.2.2.1
      rw [clampn (show 16 + El E < 2 ^ 31 by omega), clampn (show k < 2 ^ 31 by omega), e84, f, mkn_ins (by decide) hx]
      refine Sp_gg (gin_t (by omega) (by omega)) (Sp_gg (gin_t (by omega) (by omega)) ?_)
      rw [hu_ne (show (65 : Nat) ≠ 68 by decide), hu_ne (show (84 : Nat) ≠ 68 by decide), hu_ne (show (85 : Nat) ≠ 68 by decide), e9, e84, e85, show (8 : Int32) * nI (El E) = nI (8 * El E) from nmul 8 _, nI_add]
      refine Sp_gg (gin_t (by omega) (by omega)) (Sp_let ?_)
      rw [clampn (by omega), nadd_l k 1]
      refine ih (k + 1) fu _ (by omega) (by omega) (fun b b1 b2 b3 => by rw [hu_ne b3, hu_ne b2]; exact a b b1 b2 b3) (fun i hi => ?_) ?_ (fun q hq => ?_) ?_ (fun i hi hbi => ?_)
      · rw [hu_ne (by decide), hu_ne (by decide), hu_ne (by decide), hu_k _ _ _ _ hi]; exact b i hi
      · rw [hu_ne (by decide), hu_ne (by decide)]; exact d
      · rw [hu_k _ _ _ _ (by omega), hu_ne (by decide)]; exact e q hq
      · rw [hu_ne (by decide), hu_same]
        exact mkn_congr (fun x _ => by rw [rs x, hb, Bool.true_and, decide_eq_decide.mpr (eq_comm : x = (pth.getD k (0, 0)).1 ↔ _)])
      · by_cases ei : i = k
        · rw [ei, hu_same]
        · by_cases ex : (pth.getD i (0, 0)).1 = (pth.getD k (0, 0)).1
          · have v1 := slp_at hp.1 (show i < pth.length by omega)
            have v2 := slp_at hp.1 (show k < pth.length by omega)
            rw [ex] at v1 ⊢
            rw [hu_same, ← v2, v1]
          · rw [hu_k _ _ _ _ (by omega), hu_ne (by decide)]; exact g i (by omega) hbi
theorem ml34 {c : sC} {kd : Nat → Nat} {t0 : qT} {E : qE} {pth : List (Nat × Nat)} {P0 : qP} (hp : sPC pth P0) (h8 : El E < 8) : ∀ (m k fu : Nat) (a : Int32) (h : gH), k + m = pth.length → m < fu → MLn c kd t0 h E pth → (∀ i, bt a i = true → i < pth.length) → Sp (fM_learns_34 (nI pth.length) (allm (cd c)) fu a (nI k) h) (fun p => p.1 = 1 ∧ MLn c kd t0 p.2 (sEln E pth (slsh (strf c E pth) m k a)) pth) := by
  have hl8 := sI_len hp
  intro m
  induction m with
  | zero =>
    intro k fu a h hk hfu H ha
    obtain ⟨fu, rfl⟩ : ∃ f, fu = f + 1 := ⟨fu - 1, by omega⟩
    have : k = pth.length := by omega
    subst this
    have e9 : h 65 9 = nI (El E) := H.1.2.2.2.1
    unfold fM_learns_34 slsh
    refine Sp_neg (nI_nlt (Nat.le_refl _) (by omega)) ?_
    rw [e9, show (16 : Int32) + nI (El E) = nI (16 + El E) from nI_add 16 _]
    refine Sp_gg (gin_t (by omega) (by omega)) (Sp_let ?_)
    rw [clampn (by omega)]
    refine Sp_gg (gin_t (by omega) (by omega)) (Sp_let ?_)
    rw [← nI_0]
    refine ml108 (mk := a) hp h8 H pth.length 0 gfu _ (by omega) (by unfold gfu; omega) (fun b b1 b2 _ => by rw [hu_ne b2, hu_ne b1]) (fun i hi => ⟨?_, ?_⟩) ?_ (fun q _ => ?_) ?_ (fun i hi => absurd hi (Nat.not_lt_zero _))
    · rw [hu_ne (by decide), hu_k _ _ _ _ hi]
    · rw [hu_k _ _ _ _ hi, hu_ne (by decide)]
    · rw [hu_ne (by decide), hu_same]
    · rw [hu_ne (by decide), hu_ne (by decide)]
    · rw [hu_same, nI_0]; exact mkn_0 8 (by decide)
  | succ m ih =>
    intro k fu a h hk hfu H ha
    obtain ⟨fu, rfl⟩ : ∃ f, fu = f + 1 := ⟨fu - 1, by omega⟩
    unfold fM_learns_34 fM_learns_73 slsh
    refine Sp_pos ((nlt (by omega) (by omega)).mpr (by omega)) (Sp_bind (mtrial (mk := bitoff a k) H (fun a ha => (hp.2 a ha).1) (fun i hb => ha i (bt_off (by omega) hb))) (fun h1 _ q => ?_))
    obtain ⟨q1, q2⟩ := q
    rw [nadd_l k 1]
    cases hf : strf c E pth (bitoff a k) with
    | false =>
      rw [if_neg (show ¬ false = true by decide)]
      exact Sp_pos (by rw [q2, hf]; rfl) (ih (k + 1) fu a h1 (by omega) (by omega) q1 ha)
    | true =>
      rw [if_pos (show true = true from rfl)]
      exact Sp_neg (by rw [q2, hf]; decide) (ih (k + 1) fu (bitoff a k) h1 (by omega) (by omega) q1 (fun i hb => ha i (bt_off (by omega) hb)))
theorem mlearns {c : sC} {kd : Nat → Nat} {t0 : qT} {h : gH} {E : qE} {pth : List (Nat × Nat)} {P0 : qP} (hp : sPC pth P0) (h8 : El E < 8) (H : MLn c kd t0 h E pth) : Sp (fM_learns (nI pth.length) h) (fun p => match slearn c E pth with
    | none => p.1 = 0 ∧ MLn c kd t0 p.2 E pth
    | some E2 => p.1 = 1 ∧ MLn c kd t0 p.2 E2 pth) := by
  have hl8 := sI_len hp
  have ed : ((1 : Int32) <<< ((h 65 12) &&& 31)) - (1 : Int32) = allm (cd c) := by rw [H.2.2.2.1.2.1]; rfl
  unfold fM_learns slearn
  rw [ed, if_pos h8]
  refine Sp_bind (mtrial (mk := allm pth.length) H (fun a ha => (hp.2 a ha).1) (fun i hb => by rw [bt_allm (by omega)] at hb; exact of_decide_eq_true hb)) (fun h1 _ q => ?_)
  obtain ⟨q1, q2⟩ := q
  cases hf : strf c E pth (allm pth.length) with
  | false =>
    rw [if_neg (show ¬ false = true by decide)]
    exact Sp_pos (by rw [q2, hf]; rfl) (Sp_some ⟨rfl, q1⟩)
  | true =>
    rw [if_pos (show true = true from rfl)]
    refine Sp_neg (by rw [q2, hf]; decide) ?_
    have x0 := ml34 hp h8 pth.length 0 gfu (allm pth.length) h1 (by omega) (by unfold gfu; omega) q1 (fun i hb => by rw [bt_allm (by omega)] at hb; exact of_decide_eq_true hb)
    rw [nI_0] at x0
    exact x0
