/-! tells -/
def tall (f : Nat → Int32) : Nat → Nat → Bool
  | 0, _ => true
  | m + 1, k => vis 10 (f k) && tall f m (k + 1)
def teq (sol : Nat → Nat) (f : Nat → Int32) : Nat → Nat → Bool
  | 0, _ => true
  | m + 1, k => decide (nI (sol k) = f k) && teq sol f m (k + 1)
def tor (p : Nat → Bool) : Nat → Nat → Int32 → Int32
  | 0, _, a => a
  | m + 1, k, a => tor p m (k + 1) (if p k = true then a ||| ((1 : Int32) <<< (nI k &&& 31)) else a)
def tin (p : Nat → Bool) : Nat → Nat → Nat → Nat
  | 0, _, c => c
  | m + 1, k, c => tin p m (k + 1) (c + n1 (p k))
def tfnd (S : qW) (f : Nat → Int32) (i : Nat) : Bool := decide ((s_go S S.2.1.1 (i / 3) (i % 3) 100 false false).1 = 1) && teq (s_go S S.2.1.1 (i / 3) (i % 3) 100 false false).2.2.2.2.2 f 8 0
/-- the value of the j-th variable; of one that there isn't 0 -/
def wat (vs : Nat → Bool) (f : Nat → Int32) (j : Nat) : Nat := match (vls vs)[j]? with
  | none => 0
  | some u => vN (f u)
def tso (S : qW) (f : Nat → Int32) (r : Nat) : Bool := S.1.2.2.1 r (wat (S.1.2.1 r) f 0) (wat (S.1.2.1 r) f 1) (wat (S.1.2.1 r) f 2)
def s_tells (S : qW) (v1 v2 : Int32) : Int32 := match vin 4 v1 with
  | none => -2
  | some i => if vis 3 v2 = false then -2 else if (S.2.2.2.2 i).1 = -1 then -11 else if (S.2.2.2.2 i).2.1 = 8 then (if tall (S.2.2.2.2 i).2.2 8 0 = false then -2 else if v2 = 0 then tor (tfnd S (S.2.2.2.2 i).2.2) 12 0 0 else if v2 = 1 then tor (fun r => !tso S (S.2.2.2.2 i).2.2 r) S.1.1 0 0 else nI (tin (fun x => S.2.1.1.1 x (vN ((S.2.2.2.2 i).2.2 x))) 8 0 0)) else -2
theorem tall_at {f : Nat → Int32} : ∀ (m k : Nat), tall f m k = true → ∀ x, k ≤ x → x < k + m → vis 10 (f x) = true := by
  intro m
  induction m with
  | zero => intro k _ x h1 h2; omega
  | succ m ih =>
    intro k h x h1 h2
    unfold tall at h
    rw [Bool.and_eq_true] at h
    by_cases e : x = k
    · rw [e]; exact h.1
    · exact ih (k + 1) h.2 x (by omega) (by omega)
theorem tall_v {f : Nat → Int32} (h : tall f 8 0 = true) {x : Nat} (hx : x < 8) : vN (f x) < 10 ∧ f x = nI (vN (f x)) := by
  obtain ⟨v, hv, e⟩ := vis_some (by decide) (tall_at 8 0 h x (Nat.zero_le _) (by omega))
  rw [e, vN_nI (by omega)]; exact ⟨hv, rfl⟩
theorem teq_at {sol : Nat → Nat} {f : Nat → Int32} : ∀ (m k : Nat), teq sol f m k = true → ∀ x, k ≤ x → x < k + m → nI (sol x) = f x := by
  intro m
  induction m with
  | zero => intro k _ x h1 h2; omega
  | succ m ih =>
    intro k h x h1 h2
    unfold teq at h
    rw [Bool.and_eq_true] at h
    by_cases e : x = k
    · rw [e]; exact of_decide_eq_true h.1
    · exact ih (k + 1) h.2 x (by omega) (by omega)
theorem tor_no {p : Nat → Bool} : ∀ (m k : Nat) (a : Int32), (∀ i, k ≤ i → i < k + m → p i = false) → tor p m k a = a := by
  intro m
  induction m with
  | zero => intro k a _; rfl
  | succ m ih =>
    intro k a h
    unfold tor
    rw [if_neg (by rw [h k (Nat.le_refl _) (by omega)]; decide)]
    exact ih (k + 1) a (fun i a b => h i (by omega) (by omega))
theorem tin_all {p : Nat → Bool} : ∀ (m k c : Nat), (∀ i, k ≤ i → i < k + m → p i = true) → tin p m k c = c + m := by
  intro m
  induction m with
  | zero => intro k c _; rfl
  | succ m ih =>
    intro k c h
    unfold tin
    rw [ih (k + 1) _ (fun i a b => h i (by omega) (by omega)), h k (Nat.le_refl _) (by omega)]
    unfold n1
    rw [if_pos rfl]; omega
theorem tin_le (p : Nat → Bool) : ∀ (m k c : Nat), tin p m k c ≤ c + m := by
  intro m
  induction m with
  | zero => intro k c; exact Nat.le_refl _
  | succ m ih =>
    intro k c
    unfold tin
    have := ih (k + 1) (c + n1 (p k))
    have : n1 (p k) ≤ 1 := by unfold n1; split <;> omega
    omega
/-- what is told outside the picture is not found -/
theorem tfnd_no {S : qW} (W : WI S) {f : Nat → Int32} (ht : tall f 8 0 = true) (h : tin (fun x => S.2.1.1.1 x (vN (f x))) 8 0 0 < 8) (i : Nat) : tfnd S f i = false := by
  cases c : tfnd S f i with
  | false => rfl
  | true =>
    exfalso
    unfold tfnd at c
    rw [Bool.and_eq_true] at c
    have fd := (go_fnd S (KI_PI W.2.1) W.2.1.2.1 (i / 3) (i % 3) 100 false).2.1 (of_decide_eq_true c.1)
    rw [tin_all 8 0 0 (fun x _ hx => ?_)] at h
    · omega
    · have hx : x < 8 := by omega
      obtain ⟨d1, d2⟩ := fd x hx
      have e := teq_at 8 0 c.2 x (Nat.zero_le _) (by omega)
      rw [← e, vN_nI (by omega)]; exact d2
/-! .. the class -/
theorem rdv13 {o : Nat} (ho : o + 1 ≠ 64) {f : Nat → Int32} {h0 : gH} (hf : ∀ j, j < 8 → h0 (o + 1) j = f j) : ∀ (m k fu : Nat) (h : gH), k + m = 8 → m < fu → (∀ b, b ≠ 64 → h b = h0 b) → (∀ j, j < k → h 64 j = f j) → h 64 8 = h0 64 8 → Sp (fX_readValues_13 o fu (nI k) h) (fun p => p.1 = b2i (tall f m k) ∧ (∀ b, b ≠ 64 → p.2 b = h0 b) ∧ p.2 64 8 = h0 64 8 ∧ (tall f m k = true → ∀ j, j < 8 → p.2 64 j = f j)) := by
  intro m
  induction m with
  | zero =>
    intro k fu h hk hfu a b c
    obtain ⟨fu, rfl⟩ : ∃ g, fu = g + 1 := ⟨fu - 1, by omega⟩
    have : k = 8 := by omega
    subst this
    unfold fX_readValues_13
    exact Sp_neg (by decide) (Sp_some ⟨rfl, a, c, fun _ => b⟩)
  | succ m ih =>
    intro k fu h hk hfu a b c
    obtain ⟨fu, rfl⟩ : ∃ g, fu = g + 1 := ⟨fu - 1, by omega⟩
    unfold fX_readValues_13
    refine Sp_pos (nltT (show k < 8 by omega) (by decide)) (Sp_gg (gin_t (by omega) (by omega)) (Sp_gg (gin_t (by omega) (by omega)) (Sp_let (Sp_gg (gin_t (by omega) (by omega)) ?_))))
    rw [clampn (show k < 2 ^ 31 by omega), a (o + 1) ho, hf k (by omega), hu_same]
    refine Sp_eq (fX_isValue_eq (f k) _) ?_
    dsimp only
    have w : ∀ b, b ≠ 64 → hu h 64 k (f k) b = h0 b := fun b hb => by rw [hu_ne hb]; exact a b hb
    have w8 : hu h 64 k (f k) 64 8 = h0 64 8 := by rw [hu_k _ _ _ _ (by omega)]; exact c
    unfold tall
    cases hv : vis 10 (f k) with
    | false => exact Sp_pos rfl (Sp_some ⟨rfl, w, w8, fun z => by rw [Bool.false_and] at z; cases z⟩)
    | true =>
      refine Sp_neg (by decide) ?_
      rw [nadd_l k 1, Bool.true_and]
      refine ih (k + 1) fu _ (by omega) (by omega) w (fun j hj => ?_) w8
      by_cases e : j = k
      · rw [e, hu_same]
      · rw [hu_k _ _ _ _ e]; exact b j (by omega)
theorem issol {sol : Nat → Nat} {f : Nat → Int32} {h : gH} (hs : ∀ x, x < 8 → h 43 x = nI (sol x)) (hf : ∀ j, j < 8 → h 64 j = f j) : ∀ (m k fu : Nat), k + m = 8 → m < fu → fS_isSolution_2 fu (nI k) h = some (b2i (teq sol f m k), h) := by
  intro m
  induction m with
  | zero =>
    intro k fu hk hfu
    obtain ⟨fu, rfl⟩ : ∃ g, fu = g + 1 := ⟨fu - 1, by omega⟩
    have : k = 8 := by omega
    subst this
    unfold fS_isSolution_2
    rw [if_neg (by decide)]; rfl
  | succ m ih =>
    intro k fu hk hfu
    obtain ⟨fu, rfl⟩ : ∃ g, fu = g + 1 := ⟨fu - 1, by omega⟩
    unfold fS_isSolution_2 teq
    rw [if_pos (nltT (show k < 8 by omega) (by decide)), gg_t (gin_t (by omega) (by omega)), gg_t (gin_t (by omega) (by omega)), clampn (show k < 2 ^ 31 by omega), hs k (by omega), hf k (by omega)]
    by_cases e : nI (sol k) = f k
    · rw [if_pos e, decide_eq_true e, Bool.true_and, nadd_l k 1]
      exact ih (k + 1) fu (by omega) (by omega)
    · rw [if_neg e, decide_eq_false e]; rfl
theorem hmin4 {S : qW} {f : Nat → Int32} (ht : tall f 8 0 = true) {h : gH} (hd : ∀ x, x < 8 → h 18 x = mkn 10 (S.2.1.1.1 x)) (hf : ∀ j, j < 8 → h 64 j = f j) : ∀ (m k fu c : Nat), k + m = 8 → m < fu → c ≤ k → fH_howManyIn_4 17 fu (nI c) (nI k) h = some (nI (tin (fun x => S.2.1.1.1 x (vN (f x))) m k c), h) := by
  intro m
  induction m with
  | zero =>
    intro k fu c hk hfu hc
    obtain ⟨fu, rfl⟩ : ∃ g, fu = g + 1 := ⟨fu - 1, by omega⟩
    have : k = 8 := by omega
    subst this
    unfold fH_howManyIn_4
    rw [if_neg (by decide)]; rfl
  | succ m ih =>
    intro k fu c hk hfu hc
    obtain ⟨fu, rfl⟩ : ∃ g, fu = g + 1 := ⟨fu - 1, by omega⟩
    obtain ⟨t1, t2⟩ := tall_v ht (show k < 8 by omega)
    unfold fH_howManyIn_4 tin
    rw [if_pos (nltT (show k < 8 by omega) (by decide)), gg_t (gin_t (by omega) (by omega)), gg_t (gin_t (by omega) (by omega)), clampn (show k < 2 ^ 31 by omega), hd k (by omega), hf k (by omega), t2, mkn_test (by decide) t1, vN_nI (by omega), nadd_l k 1]
    have e : (nI c + if S.2.1.1.1 k (vN (f k)) = true then (1 : Int32) else 0) = nI (c + n1 (S.2.1.1.1 k (vN (f k)))) := by
      unfold n1
      cases S.2.1.1.1 k (vN (f k)) with
      | false => exact Int32.add_zero _
      | true => exact nadd_l c 1
    rw [e]
    refine ih (k + 1) fu _ (by omega) (by omega) ?_
    have : n1 (S.2.1.1.1 k (vN (f k))) ≤ 1 := by unfold n1; split <;> omega
    omega
theorem div3 {k : Nat} (hk : k < 12) : nI k / 3 = nI (k / 3) ∧ nI k - nI k / 3 * 3 = nI (k % 3) := ⟨pk_div (a := k) (d := 3) (by omega) (by omega) (by omega), pk_rem (a := k) (d := 3) (by omega) (by omega) (by omega)⟩
theorem ctf22 {S : qW} (W : WI S) {f : Nat → Int32} : ∀ (m k fu : Nat) (a : Int32) (h : gH), k + m = 12 → m < fu → AX h S → (∀ j, j < 8 → h 64 j = f j) → Sp (fX_choicesThatFind_22 fu a (nI k) h) (fun p => p.1 = tor (tfnd S f) m k a ∧ AX p.2 S) := by
  intro m
  induction m with
  | zero =>
    intro k fu a h hk hfu H hf
    obtain ⟨fu, rfl⟩ : ∃ g, fu = g + 1 := ⟨fu - 1, by omega⟩
    have : k = 12 := by omega
    subst this
    unfold fX_choicesThatFind_22
    exact Sp_neg (by decide) (Sp_some ⟨rfl, H⟩)
  | succ m ih =>
    intro k fu a h hk hfu H hf
    obtain ⟨fu, rfl⟩ : ∃ g, fu = g + 1 := ⟨fu - 1, by omega⟩
    unfold fX_choicesThatFind_22 tor
    refine Sp_pos (nltT (show k < 12 by omega) (by decide)) (Sp_bind (X_become H) (fun h3 _ q => ?_))
    obtain ⟨q1, q2, q3⟩ := q
    have dv := div3 (show k < 12 by omega)
    rw [dv.2, dv.1]
    have fd := go_fnd S (KI_PI W.2.1) W.2.1.2.1 (k / 3) (k % 3) 100 false
    unfold tfnd
    refine Sp_bind (X_goes (mo := 100) (ln := false) (al := false) (show k / 3 < 4 by omega) (show k % 3 < 3 by omega) (by decide) q2 q1 (KI_PI W.2.1) W.2.1.2.1) (fun h5 _ g => ?_)
    generalize s_go S S.2.1.1 (k / 3) (k % 3) 100 false false = r at g fd
    obtain ⟨g1, w, -, -, -, g2, g3, g4, g5, g6, g7⟩ := g
    have hf5 : ∀ j, j < 8 → h5 64 j = f j := fun j hj => by rw [w 64 (by omega), q3 64 (by omega)]; exact hf j hj
    rcases fd.2.2 with r0 | r1 | r2
    · rw [decide_eq_false (show ¬ r.1 = 1 by rw [r0]; decide), Bool.false_and, if_neg (show ¬ false = true by decide)]
      refine Sp_pos (by rw [g6, r0]; rfl) (Sp_neg (by rw [g5, fd.1.2 (by rw [r0]; decide)]; decide) ?_)
      rw [nadd_l k 1]
      exact ih (k + 1) fu a h5 (by omega) (by omega) g1 hf5
    · rw [decide_eq_true r1, Bool.true_and]
      refine Sp_pos (by rw [g6, r1]; rfl) (Sp_pos (by rw [g5, fd.1.1 r1]; decide) ?_)
      have x0 := issol (sol := r.2.2.2.2.2) (fun x hx => g7 (by rw [fd.1.1 r1]; decide) x hx) hf5 8 0 gfu rfl (by unfold gfu; omega)
      rw [nI_0] at x0
      refine Sp_eq (show fS_isSolution h5 = _ from x0) ?_
      dsimp only
      rw [nadd_l k 1]
      cases c : teq r.2.2.2.2.2 f 8 0 with
      | false =>
        rw [if_neg (show ¬ false = true by decide)]
        exact Sp_pos rfl (ih (k + 1) fu a h5 (by omega) (by omega) g1 hf5)
      | true =>
        rw [if_pos (show true = true from rfl)]
        exact Sp_neg (by decide) (ih (k + 1) fu _ h5 (by omega) (by omega) g1 hf5)
    · rw [decide_eq_false (show ¬ r.1 = 1 by rw [r2]; decide), Bool.false_and, if_neg (show ¬ false = true by decide)]
      refine Sp_neg (by rw [g6, r2]; decide) ?_
      rw [nadd_l k 1]
      exact ih (k + 1) fu a h5 (by omega) (by omega) g1 hf5
/-- the value at a slot -/
def svl (f : Nat → Int32) (s : Nat) : Nat := if s = 8 then 0 else vN (f s)
theorem so_slots {vs : Nat → Bool} (hc : (vls vs).length ≤ 3) (f : Nat → Int32) (T : Nat → Nat → Nat → Bool) : Wof (vls vs).length T (svl f (slt vs 0)) (svl f (slt vs 1)) (svl f (slt vs 2)) = T (wat vs f 0) (wat vs f 1) (wat vs f 2) := by
  have hm : ∀ a, a ∈ vls vs → a < 8 := fun a ha => ((mem_vls vs a).mp ha).1
  have hs : ∀ a, a ∈ vls vs → svl f a = vN (f a) := fun a ha => by unfold svl; rw [if_neg (by have := hm a ha; omega)]
  have h8 : svl f 8 = 0 := rfl
  unfold slt wat
  generalize vls vs = l at hc hm hs ⊢
  match l, hc with
  | [], _ => simp [h8, Wof]
  | [a], _ => simp [h8, Wof, hs a (by simp)]
  | [a, b], _ => simp [h8, Wof, hs a (by simp), hs b (by simp)]
  | [a, b, c], _ => simp [Wof, hs a (by simp), hs b (by simp), hs c (by simp)]
theorem nhold4 {S : qW} (W : WI S) {f : Nat → Int32} (ht : tall f 8 0 = true) {h : gH} (H : AX h S) (hf : ∀ j, j < 8 → h 64 j = f j) (h8 : h 64 8 = 0) : ∀ (m k fu : Nat) (a : Int32), k + m = S.1.1 → m < fu → fR_notHolding_4 fu a (nI k) h = some (tor (fun r => !tso S f r) m k a, h) := by
  have e18 : h 1 8 = nI S.1.1 := H.1.1.2.2.1
  have h16 := W.1
  intro m
  induction m with
  | zero =>
    intro k fu a hk hfu
    obtain ⟨fu, rfl⟩ : ∃ g, fu = g + 1 := ⟨fu - 1, by omega⟩
    have : k = S.1.1 := by omega
    subst this
    unfold fR_notHolding_4
    rw [e18, if_neg (fun z => absurd ((nI_ltI (by omega) (by omega)).mp z) (Nat.lt_irrefl _))]; rfl
  | succ m ih =>
    intro k fu a hk hfu
    obtain ⟨fu, rfl⟩ : ∃ g, fu = g + 1 := ⟨fu - 1, by omega⟩
    have R := XR_of H (show k < S.1.1 by omega)
    have sv : ∀ s, s < 9 → h 64 s = nI (svl f s) ∧ svl f s < 10 := by
      intro s hs
      unfold svl
      by_cases e : s = 8
      · rw [if_pos e, e]; exact ⟨h8, by omega⟩
      · rw [if_neg e]
        obtain ⟨t1, t2⟩ := tall_v ht (show s < 8 by omega)
        exact ⟨(hf s (by omega)).trans t2, t1⟩
    have s0 := R.2.2.1 0 (by omega)
    have s1 := R.2.2.1 1 (by omega)
    have s2 := R.2.2.1 2 (by omega)
    rw [Nat.add_zero] at s0
    have l0 := slt_le (S.1.2.1 k) 0
    have l1 := slt_le (S.1.2.1 k) 1
    have l2 := slt_le (S.1.2.1 k) 2
    unfold fR_notHolding_4 tor
    rw [e18, if_pos ((nI_ltI (by omega) (by omega)).mpr (show k < S.1.1 by omega)), nmul_l, show k * 3 = 3 * k by omega, nadd_l, nadd_l, gg_t (gin_t (by omega) (by omega)), clampn (show 3 * k < 2 ^ 31 by omega), s0, gg_t (gin_t (by omega) (by omega)), gg_t (gin_t (by omega) (by omega)), clampn (show 3 * k + 1 < 2 ^ 31 by omega), s1, gg_t (gin_t (by omega) (by omega)), gg_t (gin_t (by omega) (by omega)), clampn (show 3 * k + 2 < 2 ^ 31 by omega), s2, gg_t (gin_t (by omega) (by omega)), clampn (by omega), clampn (by omega), clampn (by omega), (sv _ l0).1, (sv _ l1).1, (sv _ l2).1, isWay_eq (by omega) (sv _ l0).2 (sv _ l1).2 (sv _ l2).2 R, so_slots R.2.1, Option.bind_some, nadd_l k 1]
    dsimp only
    show (if b2i (tso S f k) = 0 then _ else _) = _
    cases c : tso S f k with
    | false =>
      rw [if_pos (show b2i false = 0 from rfl), if_pos (show (!false) = true from rfl)]
      exact ih (k + 1) fu _ (by omega) (by omega)
    | true =>
      rw [if_neg (show ¬ b2i true = 0 by decide), if_neg (show ¬ (!true) = true by decide)]
      exact ih (k + 1) fu _ (by omega) (by omega)
theorem X_tells {h : gH} {S : qW} (H : AX h S) (W : WI S) (h8 : h 64 8 = 0) (v1 v2 : Int32) : Sp (fX_tells v1 v2 h) (fun p => p.1 = s_tells S v1 v2 ∧ AX p.2 S ∧ p.2 64 8 = 0) := by
  unfold fX_tells s_tells
  refine Sp_eq (fX_isSheet_eq v1 h) ?_
  dsimp only
  rcases vin_cases 4 (by decide) v1 with ⟨i, hi, e1, e⟩ | ⟨e, -⟩
  · subst e1
    rw [e, vis_nI hi (by decide)]
    dsimp only
    refine Sp_neg (by decide) ?_
    have l2 : (2 : Int32).toInt = 2 := by decide
    cases c : vis 3 v2 with
    | false =>
      rw [if_pos (show false = false from rfl)]
      rw [vis_iff] at c
      have c := of_decide_eq_false c
      by_cases a : v2 < 0
      · exact Sp_pos a (Sp_some ⟨rfl, H, h8⟩)
      · refine Sp_neg a (Sp_pos ?_ (Sp_some ⟨rfl, H, h8⟩))
        rw [Int32.lt_iff_toInt_lt, Int32.toInt_zero] at a
        rw [Int32.lt_iff_toInt_lt, l2]; omega
    | true =>
      obtain ⟨w, hw, e2⟩ := vis_some (by decide) c
      subst e2
      rw [if_neg (show ¬ true = false by decide)]
      obtain ⟨z1, z2, z3⟩ := H.2.2.2.2.1 i hi
      have hs := W.2.2.2.2.2.2 i hi
      refine Sp_neg (nI_pos (by omega)) (Sp_neg (fun z => ?_) (Sp_gg (gin_t hi (by omega)) ?_))
      · rw [Int32.lt_iff_toInt_lt, l2, nI_toInt (by omega)] at z; omega
      rw [gsh_nI hi]
      refine Sp_eq (E_missing z1) ?_
      dsimp only
      by_cases q : (S.2.2.2.2 i).1 = -1
      · rw [if_pos q]
        exact Sp_neg (b2i_ne _ (decide_eq_true q)) (Sp_some ⟨rfl, H, h8⟩)
      · rw [if_neg q]
        refine Sp_pos (by rw [decide_eq_false q]; rfl) ?_
        unfold fX_readValues
        by_cases n8 : (S.2.2.2.2 i).2.1 = 8
        · rw [n8] at z2 z3
          rw [if_pos n8, if_pos (show h (56 + 2 * i) 2 = 8 from z2)]
          generalize (S.2.2.2.2 i).2.2 = f at z3 ⊢
          have x0 := rdv13 (o := 56 + 2 * i) (by omega) (f := f) (h0 := h) (fun j hj => by rw [show 56 + 2 * i + 1 = 57 + 2 * i by omega]; exact z3 j hj) 8 0 gfu h rfl (by unfold gfu; omega) (fun _ _ => rfl) (fun j hj => absurd hj (Nat.not_lt_zero _)) rfl
          rw [nI_0] at x0
          refine Sp_bind x0 (fun p _ r => ?_)
          obtain ⟨r1, r2, r3, r4⟩ := r
          have H2 : AX p.2 S := AX_fr H (fun b _ _ _ _ hb => r2 b hb) (by rw [r2 10 (by decide)]) (r2 11 (by decide)) ⟨by rw [r2 28 (by decide)]; exact H.2.2.2.2.2.2.1, by rw [r2 33 (by decide)]; exact H.2.2.2.2.2.2.2.1, by rw [r2 29 (by decide)]; exact H.2.2.2.2.2.2.2.2.1, by rw [r2 34 (by decide)]; exact H.2.2.2.2.2.2.2.2.2⟩
          rw [r1]
          cases ct : tall f 8 0 with
          | false =>
            rw [if_pos (show false = false from rfl)]
            exact Sp_pos rfl (Sp_some ⟨rfl, H2, r3.trans h8⟩)
          | true =>
            rw [if_neg (show ¬ true = false by decide)]
            refine Sp_neg (by decide) ?_
            have hf := r4 ct
            have x1 := hmin4 ct (h := p.2) (S := S) (f := f) H2.2.1.1.1 hf 8 0 gfu 0 rfl (by unfold gfu; omega) (Nat.le_refl _)
            rw [nI_0] at x1
            have x1 : fH_howManyIn 17 p.2 = _ := x1
            have w3 : w = 0 ∨ w = 1 ∨ w = 2 := by omega
            rcases w3 with e | e | e <;> subst e
            · have e0 : nI 0 = 0 := rfl
              rw [if_pos e0, if_pos e0]
              unfold fX_choicesThatFind
              refine Sp_bind (R := fun p9 : Int32 × gH => p9.1 = tor (tfnd S f) 12 0 0 ∧ AX p9.2 S) (Sp_eq x1 ?_) (fun p9 e9 g => Sp_some ⟨g.1, g.2, (fX_choicesThatFind_fr e9 64 8 (by simp) (by simp)).trans (r3.trans h8)⟩)
              dsimp only
              have tl := tin_le (fun x => S.2.1.1.1 x (vN (f x))) 8 0 0
              by_cases c8 : tin (fun x => S.2.1.1.1 x (vN (f x))) 8 0 0 < 8
              · refine Sp_pos (nltT (c := 8) c8 (by decide)) (Sp_some ⟨?_, H2⟩)
                exact (tor_no 12 0 0 (fun j _ _ => tfnd_no W ct c8 j)).symm
              · refine Sp_neg (nltF (c := 8) (Nat.not_lt.mp c8) (by omega) (by decide)) ?_
                have x2 := ctf22 W (f := f) 12 0 gfu 0 p.2 rfl (by unfold gfu; omega) H2 hf
                rw [nI_0] at x2
                exact x2
            · have e0 : ¬ nI 1 = 0 := by decide
              have e1 : nI 1 = 1 := rfl
              rw [if_neg e0, if_neg e0, if_pos e1, if_pos e1]
              have x2 := nhold4 W ct H2 hf (r3.trans h8) S.1.1 0 gfu 0 (Nat.zero_add _) (by have := W.1; unfold gfu; omega)
              rw [nI_0] at x2
              exact Sp_eq (show fR_notHolding p.2 = _ from x2) (Sp_some ⟨rfl, H2, r3.trans h8⟩)
            · have e0 : ¬ nI 2 = 0 := by decide
              have e1 : ¬ nI 2 = 1 := by decide
              rw [if_neg e0, if_neg e0, if_neg e1, if_neg e1]
              exact Sp_eq x1 (Sp_some ⟨rfl, H2, r3.trans h8⟩)
        · rw [if_neg n8, if_neg (show ¬ h (56 + 2 * i) 2 = 8 from fun z => n8 ((nI_eq (b := 8) (by omega) (by decide)).mp (z2.symm.trans z)))]
          exact Sp_eq (x := ((0 : Int32), h)) rfl (Sp_pos rfl (Sp_some ⟨rfl, H, h8⟩))
  · rw [e, vis_none e]
    exact Sp_pos rfl (Sp_some ⟨rfl, H, h8⟩)
