/-! rule, on the class's side -/
theorem enter17 {n : Nat} (hn : n < 24) {V : Nat → Bool} {h0 : gH} (h5 : ∀ x, x < 8 → h0 5 x = mkn 24 (bt (h0 5 x))) : ∀ (m k fu : Nat) (h : gH), k + m = 8 → m < fu → (∀ x, x < k → h 5 x = mkn 24 (fun i => if i = n then V x else bt (h0 5 x) i)) → (∀ x, k ≤ x → h 5 x = h0 5 x) → (∀ b, b ≠ 5 → h b = h0 b) → Sp (fR_enter_17 (nI n) (mkn 8 V) fu (nI k) h) (fun h1 => (∀ x, x < 8 → h1 5 x = mkn 24 (fun i => if i = n then V x else bt (h0 5 x) i)) ∧ ∀ b, b ≠ 5 → h1 b = h0 b) := by
  intro m
  induction m with
  | zero =>
    intro k fu h hk hfu a b c
    obtain ⟨fu, rfl⟩ : ∃ f, fu = f + 1 := ⟨fu - 1, by omega⟩
    have : k = 8 := by omega
    subst this
    unfold fR_enter_17
    exact Sp_neg (by decide) (Sp_some ⟨a, c⟩)
  | succ m ih =>
    intro k fu h hk hfu a b c
    obtain ⟨fu, rfl⟩ : ∃ f, fu = f + 1 := ⟨fu - 1, by omega⟩
    unfold fR_enter_17
    refine Sp_pos (nltT (show k < 8 by omega) (by decide)) (Sp_gg (gin_t (by omega) (by omega)) (Sp_gg (gin_t (by omega) (by omega)) (Sp_let ?_)))
    have e : ((h 5 k) &&& (((1 : Int32) <<< (nI n &&& 31)) ^^^ (-1 : Int32))) ||| ((((mkn 8 V) >>> (nI k &&& 31)) &&& (1 : Int32)) <<< (nI n &&& 31)) = mkn 24 (fun i => if i = n then V k else bt (h0 5 k) i) := by
      rw [b k (Nat.le_refl _), h5 k (by omega), mkn_del (by decide) (by omega), mkn_test (by decide) (show k < 8 by omega)]
      cases hv : V k
      · rw [if_neg (show ¬ false = true by decide), show (0 : Int32) <<< (nI n &&& 31) = 0 by simp, mkn_0 24 (by decide), mkn_or (by decide)]
        refine mkn_congr (fun i hi => ?_)
        rw [Bool.or_false, bt_mkn (by decide), decide_eq_true hi, Bool.true_and]
        by_cases ei : i = n
        · rw [if_pos ei, decide_eq_true ei]; simp
        · rw [if_neg ei, decide_eq_false ei]; simp
      · rw [if_pos rfl, mkn_one (n := 24) (by decide) (by omega), mkn_or (by decide)]
        refine mkn_congr (fun i hi => ?_)
        rw [bt_mkn (by decide), decide_eq_true hi, Bool.true_and]
        by_cases ei : i = n
        · rw [if_pos ei, decide_eq_true ei]; simp
        · rw [if_neg ei, decide_eq_false ei]; simp
    rw [clampn (by omega), e, nadd_l k 1]
    refine ih (k + 1) fu _ (by omega) (by omega) (fun x hx => ?_) (fun x hx => ?_) (fun o ho => by rw [hu_ne ho]; exact c o ho)
    · by_cases ex : x = k
      · rw [ex, hu_same]
      · rw [hu_k _ _ _ _ ex]; exact a x (by omega)
    · rw [hu_k _ _ _ _ (by omega)]; exact b x (by omega)
theorem slots42 {n : Nat} (hn : n < 16) {V : Nat → Bool} {h0 : gH} (h3 : h0 3 n = mkn 8 V) : ∀ (m k a fu : Nat) (h : gH), k + m = 8 → m < fu → a + (rmv V k m).length = 3 * n + 3 → h 3 = h0 3 → Sp (fR_fillSlots_42 (nI n) (nI (3 * n + 3)) fu (nI a) (nI k) h) (fun h1 => (∀ i, i < (rmv V k m).length → h1 6 (a + i) = nI ((rmv V k m).getD i 8)) ∧ (∀ q, q < a ∨ 3 * n + 3 ≤ q → h1 6 q = h 6 q) ∧ ∀ b, b ≠ 6 → h1 b = h b) := by
  intro m
  induction m with
  | zero =>
    intro k a fu h hk hfu ha e3
    obtain ⟨fu, rfl⟩ : ∃ f, fu = f + 1 := ⟨fu - 1, by omega⟩
    have : k = 8 := by omega
    subst this
    unfold fR_fillSlots_42
    exact Sp_neg (by decide) (Sp_some ⟨fun i hi => absurd hi (Nat.not_lt_zero _), fun _ _ => rfl, fun _ _ => rfl⟩)
  | succ m ih =>
    intro k a fu h hk hfu ha e3
    obtain ⟨fu, rfl⟩ : ∃ f, fu = f + 1 := ⟨fu - 1, by omega⟩
    unfold fR_fillSlots_42
    refine Sp_pos (nltT (show k < 8 by omega) (by decide)) ?_
    rw [rmv_succ] at ha ⊢
    by_cases w : a < 3 * n + 3
    · refine Sp_pos ((nlt (by omega) (by omega)).mpr w) (Sp_gg (gin_t (by omega) (by omega)) ?_)
      have et : (((h 3 (nI n).toNatClampNeg) >>> (nI k &&& 31)) &&& (1 : Int32)) = if V k then 1 else 0 := by rw [clampn (by omega), e3, h3, mkn_test (by decide) (show k < 8 by omega)]
      cases hv : V k
      · rw [hv] at ha et
        refine Sp_neg (by rw [et]; decide) ?_
        rw [nadd_l k 1, if_neg (show ¬ false = true by decide)]
        rw [if_neg (show ¬ false = true by decide)] at ha
        exact ih (k + 1) a fu h (by omega) (by omega) ha e3
      · rw [hv] at ha et
        rw [if_pos (show true = true from rfl)] at ha ⊢
        have ha : a + ((rmv V (k + 1) m).length + 1) = 3 * n + 3 := ha
        refine Sp_pos (by rw [et]; rfl) (Sp_gg (gin_t (by omega) (by omega)) (Sp_let ?_))
        rw [nadd_l a 1, nadd_l k 1, clampn (by omega)]
        refine Sp_mono (ih (k + 1) (a + 1) fu (hu h 6 a (nI k)) (by omega) (by omega) (by omega) (by rw [hu_ne (by decide)]; exact e3)) (fun h1 q => ?_)
        obtain ⟨q1, q2, q3⟩ := q
        refine ⟨fun i hi => ?_, fun p hp => ?_, fun b hb => by rw [q3 b hb, hu_ne hb]⟩
        · cases i with
          | zero => rw [Nat.add_zero, q2 a (by omega), hu_same]; rfl
          | succ i =>
            have := q1 i (by have hi : i + 1 < (rmv V (k + 1) m).length + 1 := hi; omega)
            rw [show a + (i + 1) = a + 1 + i by omega, this]; rfl
        · rw [q2 p (by omega), hu_k _ _ _ _ (by omega)]
    · refine Sp_neg (nI_nlt (by omega) (by omega)) (Sp_some ⟨fun i hi => ?_, fun _ _ => rfl, fun _ _ => rfl⟩)
      have : (if V k = true then k :: rmv V (k + 1) m else rmv V (k + 1) m).length = 0 := by omega
      rw [this] at hi
      exact absurd hi (Nat.not_lt_zero _)
theorem slots17 {n : Nat} (hn : n < 16) {V : Nat → Bool} (hc : (vls V).length ≤ 3) {h0 : gH} (h3 : h0 3 n = mkn 8 V) : ∀ (m a fu : Nat) (h : gH), a + m + (vls V).length = 3 * n + 3 → m < fu → 3 * n ≤ a → (∀ q, 3 * n ≤ q → q < a → h 6 q = 8) → (∀ q, q < 3 * n ∨ 3 * n + 3 ≤ q → h 6 q = h0 6 q) → (∀ b, b ≠ 6 → h b = h0 b) → Sp (fR_fillSlots_17 (nI n) (nI (3 * n + 3)) fu (nI a) (nI m) h) (fun h1 => (∀ j, j < 3 → h1 6 (3 * n + j) = nI (slt V j)) ∧ (∀ q, q < 3 * n ∨ 3 * n + 3 ≤ q → h1 6 q = h0 6 q) ∧ ∀ b, b ≠ 6 → h1 b = h0 b) := by
  intro m
  induction m with
  | zero =>
    intro a fu h ha hfu ha3 a1 a2 a3
    obtain ⟨fu, rfl⟩ : ∃ f, fu = f + 1 := ⟨fu - 1, by omega⟩
    unfold fR_fillSlots_17
    refine Sp_neg (by decide) ?_
    have x0 := slots42 hn h3 8 0 a gfu h (by omega) (by unfold gfu; omega) (by rw [← vls_rmv]; omega) (a3 3 (by decide))
    rw [← vls_rmv, nI_0] at x0
    refine Sp_mono x0 (fun h1 q => ?_)
    obtain ⟨q1, q2, q3⟩ := q
    refine ⟨fun j hj => ?_, fun p hp => ?_, fun b hb => by rw [q3 b hb]; exact a3 b hb⟩
    · unfold slt
      by_cases w : j + (vls V).length < 3
      · rw [if_pos w, q2 _ (by omega), a1 _ (by omega) (by omega)]; rfl
      · rw [if_neg w]
        have := q1 (j + (vls V).length - 3) (by omega)
        rw [show a + (j + (vls V).length - 3) = 3 * n + j by omega] at this
        exact this
    · rw [q2 p (by omega)]; exact a2 p hp
  | succ m ih =>
    intro a fu h ha hfu ha3 a1 a2 a3
    obtain ⟨fu, rfl⟩ : ∃ f, fu = f + 1 := ⟨fu - 1, by omega⟩
    unfold fR_fillSlots_17
    refine Sp_pos ((nI_ltI (a := 0) (by decide) (by omega)).mpr (by omega)) (Sp_gg (gin_t (by omega) (by omega)) (Sp_let ?_))
    have m1 : nI (m + 1) + (-1 : Int32) = nI m := by
      rw [show nI (m + 1) + (-1 : Int32) = nI (m + 1) - 1 by rw [Int32.sub_eq_add_neg]]
      exact nI_pred m
    rw [m1, nadd_l a 1, clampn (by omega)]
    refine ih (a + 1) fu _ (by omega) (by omega) (by omega) (fun q h1 h2 => ?_) (fun q hq => ?_) (fun b hb => by rw [hu_ne hb]; exact a3 b hb)
    · by_cases e : q = a
      · rw [e, hu_same]
      · rw [hu_k _ _ _ _ e]; exact a1 q h1 (by omega)
    · rw [hu_k _ _ _ _ (by omega)]; exact a2 q hq
theorem fillSlots_sp {n : Nat} (hn : n < 16) {V : Nat → Bool} (hc : (vls V).length ≤ 3) {h : gH} (h3 : h 3 n = mkn 8 V) : Sp (fR_fillSlots (nI n) h) (fun h1 => (∀ j, j < 3 → h1 6 (3 * n + j) = nI (slt V j)) ∧ (∀ q, q < 3 * n ∨ 3 * n + 3 ≤ q → h1 6 q = h 6 q) ∧ ∀ b, b ≠ 6 → h1 b = h b) := by
  unfold fR_fillSlots
  refine Sp_eq (howMany_eq (by omega) h3) ?_
  dsimp only
  rw [show nI n * (3 : Int32) = nI (3 * n) by rw [show nI n * (3 : Int32) = nI (n * 3) from nmul n 3, Nat.mul_comm], show nI (3 * n) + (3 : Int32) = nI (3 * n + 3) from nI_add _ 3, show (3 : Int32) - nI (vls V).length = nI (3 - (vls V).length) from nsub (a := 3) hc]
  exact slots17 hn hc h3 (3 - (vls V).length) (3 * n) gfu h (by omega) (by unfold gfu; omega) (Nat.le_refl _) (fun q h1 h2 => by omega) (fun _ _ => rfl) (fun _ _ => rfl)
/-- the ways by slots, of a table by variables -/
theorem Wof_tab {V : Nat → Bool} (hc : (vls V).length ≤ 3) (f : (Nat → Int32) → Bool) (Ts : Nat → Nat → Nat → Bool) (x y z : Nat) : Wof (vls V).length (tabW f V Ts) x y z = ((!decide (slt V 0 = 8) || decide (x = 0)) && ((!decide (slt V 1 = 8) || decide (y = 0)) && ((!decide (slt V 2 = 8) || decide (z = 0)) && f (envW V x y z)))) := by
  have hs : ∀ j, j < 3 → (slt V j = 8 ↔ j + (vls V).length < 3) := by
    intro j hj
    unfold slt
    by_cases w : j + (vls V).length < 3
    · rw [if_pos w]; exact ⟨fun _ => w, fun _ => rfl⟩
    · rw [if_neg w]
      refine ⟨fun e => ?_, fun e => absurd e w⟩
      have hl : j + (vls V).length - 3 < (vls V).length := by omega
      rw [List.getD_eq_getElem?_getD, List.getElem?_eq_getElem hl] at e
      have : (vls V)[j + (vls V).length - 3] < 8 := ((mem_vls V _).mp (List.getElem_mem hl)).1
      simp at e; omega
  have h0 := hs 0 (by omega)
  have h1 := hs 1 (by omega)
  have h2 := hs 2 (by omega)
  unfold Wof tabW rel sl3
  have : (vls V).length = 0 ∨ (vls V).length = 1 ∨ (vls V).length = 2 ∨ (vls V).length = 3 := by omega
  rcases this with e | e | e | e <;> rw [e] at h0 h1 h2 ⊢
  · rw [decide_eq_true (h0.mpr (by omega)), decide_eq_true (h1.mpr (by omega)), decide_eq_true (h2.mpr (by omega))]
    by_cases x0 : x = 0 <;> by_cases y0 : y = 0 <;> by_cases z0 : z = 0 <;> simp [x0, y0, z0]
  · rw [decide_eq_true (h0.mpr (by omega)), decide_eq_true (h1.mpr (by omega)), decide_eq_false (fun q => absurd (h2.mp q) (by omega))]
    by_cases x0 : x = 0 <;> by_cases y0 : y = 0 <;> simp [x0, y0]
  · rw [decide_eq_true (h0.mpr (by omega)), decide_eq_false (fun q => absurd (h1.mp q) (by omega)), decide_eq_false (fun q => absurd (h2.mp q) (by omega))]
    by_cases x0 : x = 0 <;> simp [x0]
  · rw [decide_eq_false (fun q => absurd (h0.mp q) (by omega)), decide_eq_false (fun q => absurd (h1.mp q) (by omega)), decide_eq_false (fun q => absurd (h2.mp q) (by omega))]
    simp
def wfx (h h1 : gH) : Prop := ∀ b, b ≠ 7 → b ≠ 9 → b ≠ 16 → h1 b = h b
/-- the values of the last slot with which it holds -/
theorem last31 {V : Nat → Bool} {f : (Nat → Int32) → Bool} {h0 : gH} (hx : XHo h0 V f) (hag : ∀ e e2, agr V e e2 → f e = f e2) {x y N : Nat} (hc : (vls V).length ≤ 3) (xl : x < 10) (yl : y < 10) (hN : N ≤ 10) : ∀ (m z fu : Nat) (h : gH) (S : Nat → Bool), z + m = N → m < fu → wfx h0 h → (slt V 0 ≠ 8 → h 9 (slt V 0) = nI x) → (slt V 1 ≠ 8 → h 9 (slt V 1) = nI y) → (∀ i, S i = true → i < z) → (∀ i, i < z → S i = f (envW V x y i)) → Sp (fR_lastValues_31 (nI (slt V 2)) (nI N) fu (mkn 10 S) (nI z) h) (fun p => p.1 = mkn 10 (fun i => decide (i < N) && f (envW V x y i)) ∧ wfx h0 p.2 ∧ p.2 7 = h 7) := by
  have s0 := slt_le V 0
  have s1 := slt_le V 1
  have s2 := slt_le V 2
  intro m
  induction m with
  | zero =>
    intro z fu h S hz hfu w a b hS hS2
    obtain ⟨fu, rfl⟩ : ∃ f, fu = f + 1 := ⟨fu - 1, by omega⟩
    have : z = N := by omega
    subst this
    unfold fR_lastValues_31
    refine Sp_neg (nI_nlt (Nat.le_refl _) (by omega)) (Sp_some ⟨mkn_congr (fun i hi => ?_), w, rfl⟩)
    by_cases q : i < z
    · rw [decide_eq_true q, Bool.true_and]; exact hS2 i q
    · rw [decide_eq_false q, Bool.false_and, Bool.eq_false_iff]; exact fun e => q (hS i e)
  | succ m ih =>
    intro z fu h S hz hfu w a b hS hS2
    obtain ⟨fu, rfl⟩ : ∃ f, fu = f + 1 := ⟨fu - 1, by omega⟩
    unfold fR_lastValues_31
    refine Sp_pos ((nlt (by omega) (by omega)).mpr (by omega)) (Sp_gg (gin_t (by omega) (by omega)) (Sp_let ?_))
    rw [clampn (by omega)]
    have r2 : hu h 9 (slt V 2) (nI z) 9 (slt V 2) = nI z := hu_same _ _ _ _
    have r0 : slt V 0 ≠ 8 → hu h 9 (slt V 2) (nI z) 9 (slt V 0) = nI x := fun n8 => by
      have n2 : slt V 0 ≠ slt V 2 := fun q => by have := slt_inj (by omega) (by omega) n8 q; omega
      rw [hu_k _ _ _ _ n2]; exact a n8
    have r1 : slt V 1 ≠ 8 → hu h 9 (slt V 2) (nI z) 9 (slt V 1) = nI y := fun n8 => by
      have n2 : slt V 1 ≠ slt V 2 := fun q => by have := slt_inj (by omega) (by omega) n8 q; omega
      rw [hu_k _ _ _ _ n2]; exact b n8
    have w1 : wfx h0 (hu h 9 (slt V 2) (nI z)) := fun o o1 o2 o3 => by rw [hu_ne o2]; exact w o o1 o2 o3
    have e7 : hu h 9 (slt V 2) (nI z) 7 = h 7 := hu_ne (by decide)
    generalize hu h 9 (slt V 2) (nI z) = h1 at r2 r0 r1 w1 e7
    -- the values are those of the slots
    have ag : agr V (h1 9) (envW V x y z) ∧ vals9 V h1 := by
      have key : ∀ v, v < 8 → V v = true → h1 9 v = envW V x y z v ∧ ∃ u, u < 10 ∧ h1 9 v = nI u := by
        intro v hv vv
        have cl : v = slt V 0 ∨ v = slt V 1 ∨ v = slt V 2 := slt_of hc hv vv
        unfold envW
        rcases cl with e | e | e
        · have n8 : slt V 0 ≠ 8 := by omega
          rw [if_pos e.symm, e, r0 n8]; exact ⟨rfl, x, xl, rfl⟩
        · have n8 : slt V 1 ≠ 8 := by omega
          have n0 : slt V 0 ≠ slt V 1 := fun q => by have := slt_inj (by omega) (by omega) n8 q.symm; omega
          rw [e, if_neg n0, if_pos rfl, r1 n8]; exact ⟨rfl, y, yl, rfl⟩
        · have n8 : slt V 2 ≠ 8 := by omega
          have n0 : slt V 0 ≠ slt V 2 := fun q => by have := slt_inj (by omega) (by omega) n8 q.symm; omega
          have n1 : slt V 1 ≠ slt V 2 := fun q => by have := slt_inj (by omega) (by omega) n8 q.symm; omega
          rw [e, if_neg n0, if_neg n1, r2]; exact ⟨rfl, z, by omega, rfl⟩
      exact ⟨fun v hv vv => (key v hv vv).1, fun v hv vv => (key v hv vv).2⟩
    refine Sp_bind (hx h1 (w1 15 (by decide) (by decide) (by decide)) (fun k _ _ => by rw [w1 10 (by decide) (by decide) (by decide)]) ag.2) (fun p _ q => ?_)
    obtain ⟨q1, q2⟩ := q
    rw [hag _ _ ag.1] at q1
    have w2 : wfx h0 p.2 := fun o o1 o2 o3 => by rw [q2 o o3]; exact w1 o o1 o2 o3
    have f7 : p.2 7 = h 7 := by rw [q2 7 (by decide)]; exact e7
    rw [nadd_l z 1]
    cases hf : f (envW V x y z) with
    | false =>
      rw [hf] at q1
      refine Sp_pos (by rw [q1]; rfl) (Sp_mono (ih (z + 1) fu p.2 S (by omega) (by omega) w2 (fun q => by rw [q2 9 (by decide)]; exact r0 q) (fun q => by rw [q2 9 (by decide)]; exact r1 q) (fun i hi => Nat.lt_succ_of_lt (hS i hi)) (fun i hi => ?_)) (fun p3 k => ⟨k.1, k.2.1, by rw [k.2.2]; exact f7⟩))
      by_cases e : i = z
      · rw [e, hf, Bool.eq_false_iff]; exact fun t => Nat.lt_irrefl _ (hS z t)
      · exact hS2 i (by omega)
    | true =>
      rw [hf] at q1
      refine Sp_neg (by rw [q1]; decide) ?_
      rw [mkn_ins (by decide) (show z < 10 by omega)]
      refine Sp_mono (ih (z + 1) fu p.2 _ (by omega) (by omega) w2 (fun q => by rw [q2 9 (by decide)]; exact r0 q) (fun q => by rw [q2 9 (by decide)]; exact r1 q) (fun i hi => ?_) (fun i hi => ?_)) (fun p3 k => ⟨k.1, k.2.1, by rw [k.2.2]; exact f7⟩)
      · rw [Bool.or_eq_true] at hi
        rcases hi with hi | hi
        · exact Nat.lt_succ_of_lt (hS i hi)
        · have := of_decide_eq_true hi; omega
      · by_cases e : i = z
        · rw [e, hf, decide_eq_true rfl, Bool.or_true]
        · rw [decide_eq_false e, Bool.or_false]; exact hS2 i (by omega)
theorem last_sp {n : Nat} (hn : n < 16) {V : Nat → Bool} {f : (Nat → Int32) → Bool} {h0 h : gH} (hx : XHo h0 V f) (hag : ∀ e e2, agr V e e2 → f e = f e2) (hc : (vls V).length ≤ 3) {x y : Nat} (xl : x < 10) (yl : y < 10) (w : wfx h0 h) (h6 : h0 6 (3 * n + 2) = nI (slt V 2)) (a : slt V 0 ≠ 8 → h 9 (slt V 0) = nI x) (b : slt V 1 ≠ 8 → h 9 (slt V 1) = nI y) : Sp (fR_lastValues (nI n) h) (fun p => p.1 = mkn 10 (fun i => (!decide (slt V 2 = 8) || decide (i = 0)) && f (envW V x y i)) ∧ wfx h0 p.2 ∧ p.2 7 = h 7) := by
  have s2 := slt_le V 2
  unfold fR_lastValues
  rw [show nI n * (3 : Int32) = nI (3 * n) by rw [show nI n * (3 : Int32) = nI (n * 3) from nmul n 3, Nat.mul_comm], show nI (3 * n) + (2 : Int32) = nI (3 * n + 2) from nI_add _ 2]
  refine Sp_gg (gin_t (by omega) (by omega)) ?_
  rw [clampn (by omega), w 6 (by decide) (by decide) (by decide), h6]
  unfold fR_lastValues_23
  have go : ∀ N, N ≤ 10 → Sp (fR_lastValues_31 (nI (slt V 2)) (nI N) gfu (mkn 10 fun _ => false) (nI 0) h) (fun p => p.1 = mkn 10 (fun i => decide (i < N) && f (envW V x y i)) ∧ wfx h0 p.2 ∧ p.2 7 = h 7) := fun N hN => last31 hx hag hc xl yl hN N 0 gfu h _ (by omega) (by unfold gfu; omega) w a b (fun i hi => by cases hi) (fun i hi => absurd hi (Nat.not_lt_zero _))
  rw [← mkn_0 10 (by decide), nI_0] at go
  by_cases e : slt V 2 = 8
  · refine Sp_pos (by rw [e]; rfl) (Sp_mono (go 1 (by omega)) (fun p q => ⟨?_, q.2⟩))
    rw [q.1]
    refine mkn_congr (fun i _ => ?_)
    rw [decide_eq_true e, Bool.not_true, Bool.false_or, decide_eq_decide.mpr (by omega : i < 1 ↔ i = 0)]
  · refine Sp_neg (fun z => e ((nI_eq (b := 8) (by omega) (by omega)).mp z)) (Sp_mono (go 10 (by omega)) (fun p q => ⟨?_, q.2⟩))
    rw [q.1]
    refine mkn_congr (fun i hi => ?_)
    rw [decide_eq_false e, decide_eq_true hi]; rfl
theorem ways24 {n : Nat} (hn : n < 16) {V : Nat → Bool} {f : (Nat → Int32) → Bool} {h0 : gH} (hx : XHo h0 V f) (hag : ∀ e e2, agr V e e2 → f e = f e2) (hc : (vls V).length ≤ 3) (Ts : Nat → Nat → Nat → Bool) (h6 : h0 6 (3 * n + 2) = nI (slt V 2)) : ∀ (m k fu : Nat) (h : gH), k + m = 100 → m < fu → wfx h0 h → (∀ i, i < k → h 7 (100 * n + i) = mkn 10 (Wof (vls V).length (tabW f V Ts) (i / 10) (i % 10))) → (∀ i, i < 100 * n ∨ 100 * n + 100 ≤ i → h 7 i = h0 7 i) → Sp (fR_fillWays_24 (nI n) (nI (slt V 0)) (nI (slt V 1)) fu (nI k) h) (fun h1 => wfx h0 h1 ∧ (∀ i, i < 100 → h1 7 (100 * n + i) = mkn 10 (Wof (vls V).length (tabW f V Ts) (i / 10) (i % 10))) ∧ ∀ i, i < 100 * n ∨ 100 * n + 100 ≤ i → h1 7 i = h0 7 i) := by
  have s0 := slt_le V 0
  have s1 := slt_le V 1
  intro m
  induction m with
  | zero =>
    intro k fu h hk hfu w a b
    obtain ⟨fu, rfl⟩ : ∃ f, fu = f + 1 := ⟨fu - 1, by omega⟩
    have : k = 100 := by omega
    subst this
    unfold fR_fillWays_24
    exact Sp_neg (by decide) (Sp_some ⟨w, a, b⟩)
  | succ m ih =>
    intro k fu h hk hfu w a b
    obtain ⟨fu, rfl⟩ : ∃ f, fu = f + 1 := ⟨fu - 1, by omega⟩
    have d1 : nI k / 10 = nI (k / 10) := pk_div (a := k) (d := 10) (by omega) (by omega) (by omega)
    have d2 : nI k - nI k / 10 * 10 = nI (k % 10) := pk_rem (a := k) (d := 10) (by omega) (by omega) (by omega)
    unfold fR_fillWays_24
    refine Sp_pos ((nI_ltI (b := 100) (by omega) (by decide)).mpr (by omega)) (Sp_gg (gin_t (by omega) (by omega)) (Sp_let (Sp_gg (gin_t (by omega) (by omega)) (Sp_let ?_))))
    rw [d2, d1, clampn (show slt V 0 < 2 ^ 31 by omega), clampn (show slt V 1 < 2 ^ 31 by omega)]
    have w1 : wfx h0 (hu (hu h 9 (slt V 0) (nI (k / 10))) 9 (slt V 1) (nI (k % 10))) := fun o o1 o2 o3 => by rw [hu_ne o2, hu_ne o2]; exact w o o1 o2 o3
    have e7 : hu (hu h 9 (slt V 0) (nI (k / 10))) 9 (slt V 1) (nI (k % 10)) 7 = h 7 := by rw [hu_ne (by decide), hu_ne (by decide)]
    have r0 : slt V 0 ≠ 8 → hu (hu h 9 (slt V 0) (nI (k / 10))) 9 (slt V 1) (nI (k % 10)) 9 (slt V 0) = nI (k / 10) := fun n8 => by
      have n2 : slt V 0 ≠ slt V 1 := fun q => by have := slt_inj (by omega) (by omega) n8 q; omega
      rw [hu_k _ _ _ _ n2, hu_same]
    have r1 : slt V 1 ≠ 8 → hu (hu h 9 (slt V 0) (nI (k / 10))) 9 (slt V 1) (nI (k % 10)) 9 (slt V 1) = nI (k % 10) := fun _ => hu_same _ _ _ _
    generalize hu (hu h 9 (slt V 0) (nI (k / 10))) 9 (slt V 1) (nI (k % 10)) = h1 at w1 e7 r0 r1 ⊢
    -- the entry is written
    have fin : ∀ (h2 : gH) (v : Int32), wfx h0 h2 → h2 7 = h 7 → v = mkn 10 (Wof (vls V).length (tabW f V Ts) (k / 10) (k % 10)) → Sp (fR_fillWays_115 (fR_fillWays_24 (nI n) (nI (slt V 0)) (nI (slt V 1)) fu) (nI n) (nI (slt V 0)) (nI (slt V 1)) (nI k) ((nI n * (100 : Int32)) + nI k) v h2) (fun h1 => wfx h0 h1 ∧ (∀ i, i < 100 → h1 7 (100 * n + i) = mkn 10 (Wof (vls V).length (tabW f V Ts) (i / 10) (i % 10))) ∧ ∀ i, i < 100 * n ∨ 100 * n + 100 ≤ i → h1 7 i = h0 7 i) := by
      intro h2 v w2 f7 hv
      unfold fR_fillWays_115
      rw [show nI n * (100 : Int32) = nI (100 * n) by rw [show nI n * (100 : Int32) = nI (n * 100) from nmul n 100, Nat.mul_comm], nI_add]
      refine Sp_gg (gin_t (by omega) (by omega)) (Sp_let ?_)
      rw [nadd_l k 1, clampn (by omega)]
      refine ih (k + 1) fu _ (by omega) (by omega) (fun o o1 o2 o3 => by rw [hu_ne o1]; exact w2 o o1 o2 o3) (fun i hi => ?_) (fun i hi => ?_)
      · by_cases e : i = k
        · rw [e, hu_same]; exact hv
        · rw [hu_k _ _ _ _ (by omega), f7]; exact a i (by omega)
      · rw [hu_k _ _ _ _ (by omega), f7]; exact b i hi
    have wt := Wof_tab hc f Ts (k / 10) (k % 10)
    have no : (slt V 0 = 8 ∧ ¬ k / 10 = 0 ∨ slt V 1 = 8 ∧ ¬ k % 10 = 0) → Sp (fR_fillWays_86 (fR_fillWays_24 (nI n) (nI (slt V 0)) (nI (slt V 1)) fu) (nI n) (nI (slt V 0)) (nI (slt V 1)) (nI k) h1) (fun h1 => wfx h0 h1 ∧ (∀ i, i < 100 → h1 7 (100 * n + i) = mkn 10 (Wof (vls V).length (tabW f V Ts) (i / 10) (i % 10))) ∧ ∀ i, i < 100 * n ∨ 100 * n + 100 ≤ i → h1 7 i = h0 7 i) := by
      intro e
      unfold fR_fillWays_86 fR_fillWays_87
      refine Sp_pos rfl (fin h1 0 w1 e7 ?_)
      rw [mkn_0 10 (by decide)]
      refine mkn_congr (fun z _ => ?_)
      rw [wt z]
      rcases e with ⟨e1, e2⟩ | ⟨e1, e2⟩
      · rw [decide_eq_true e1, decide_eq_false e2]; rfl
      · rw [decide_eq_true e1, decide_eq_false e2]
        simp
    have yes : (slt V 0 ≠ 8 ∨ k / 10 = 0) → (slt V 1 ≠ 8 ∨ k % 10 = 0) → Sp (fR_fillWays_82 (fR_fillWays_24 (nI n) (nI (slt V 0)) (nI (slt V 1)) fu) (nI n) (nI (slt V 0)) (nI (slt V 1)) (nI k) h1) (fun h1 => wfx h0 h1 ∧ (∀ i, i < 100 → h1 7 (100 * n + i) = mkn 10 (Wof (vls V).length (tabW f V Ts) (i / 10) (i % 10))) ∧ ∀ i, i < 100 * n ∨ 100 * n + 100 ≤ i → h1 7 i = h0 7 i) := by
      intro c1 c2
      unfold fR_fillWays_82 fR_fillWays_87
      refine Sp_neg (by decide) (Sp_bind (last_sp hn hx hag hc (x := k / 10) (y := k % 10) (by omega) (by omega) w1 h6 r0 r1) (fun p _ q => ?_))
      obtain ⟨q1, q2, q3⟩ := q
      refine fin p.2 p.1 q2 (by rw [q3]; exact e7) ?_
      rw [q1]
      refine mkn_congr (fun z _ => ?_)
      rw [wt z]
      have t1 : (!decide (slt V 0 = 8) || decide (k / 10 = 0)) = true := by
        rcases c1 with c | c
        · rw [decide_eq_false c]; rfl
        · rw [decide_eq_true c, Bool.or_true]
      have t2 : (!decide (slt V 1 = 8) || decide (k % 10 = 0)) = true := by
        rcases c2 with c | c
        · rw [decide_eq_false c]; rfl
        · rw [decide_eq_true c, Bool.or_true]
      rw [t1, t2]; rfl
    have t67 : (slt V 0 ≠ 8 ∨ k / 10 = 0) → Sp (fR_fillWays_67 (fR_fillWays_24 (nI n) (nI (slt V 0)) (nI (slt V 1)) fu) (nI n) (nI (slt V 0)) (nI (slt V 1)) (nI k) h1) (fun h1 => wfx h0 h1 ∧ (∀ i, i < 100 → h1 7 (100 * n + i) = mkn 10 (Wof (vls V).length (tabW f V Ts) (i / 10) (i % 10))) ∧ ∀ i, i < 100 * n ∨ 100 * n + 100 ≤ i → h1 7 i = h0 7 i) := by
      intro c1
      unfold fR_fillWays_67
      rw [d2]
      by_cases e1 : slt V 1 = 8
      · refine Sp_pos (by rw [e1]; rfl) ?_
        by_cases e2 : k % 10 = 0
        · exact Sp_pos (by rw [e2]; rfl) (yes c1 (Or.inr e2))
        · exact Sp_neg (fun z => e2 ((nI_eq (b := 0) (by omega) (by omega)).mp z)) (no (Or.inr ⟨e1, e2⟩))
      · exact Sp_neg (fun z => e1 ((nI_eq (b := 8) (by omega) (by omega)).mp z)) (yes c1 (Or.inl e1))
    by_cases e1 : slt V 0 = 8
    · refine Sp_pos (by rw [e1]; rfl) ?_
      by_cases e2 : k < 10
      · exact Sp_pos ((nI_ltI (b := 10) (by omega) (by decide)).mpr e2) (t67 (Or.inr (by omega)))
      · exact Sp_neg (fun z => e2 ((nI_ltI (b := 10) (by omega) (by decide)).mp z)) (no (Or.inl ⟨e1, by omega⟩))
    · exact Sp_neg (fun z => e1 ((nI_eq (b := 8) (by omega) (by omega)).mp z)) (t67 (Or.inl e1))

