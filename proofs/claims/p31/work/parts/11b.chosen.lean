/-! which variable, which value: on both sides -/
theorem nthb_lt (D : Nat → Bool) : ∀ (m k n : Nat), k + m = 10 → nthb D m k n < 10 := by
  intro m
  induction m with
  | zero => intro k n _; show 0 < 10; omega
  | succ m ih =>
    intro k n hk
    unfold nthb
    split
    · split
      · omega
      · exact ih (k + 1) _ (by omega)
    · exact ih (k + 1) _ (by omega)
theorem spick_lt (pk : Nat) (D : Nat → Bool) : spick pk D < 10 := nthb_lt D 10 0 _ rfl
def cntf (D : Nat → Bool) : Nat → Nat → Nat
  | 0, _ => 0
  | m + 1, k => (if D k = true then 1 else 0) + cntf D m (k + 1)
theorem cntf_10 (D : Nat → Bool) : cntf D 10 0 = qcnt D 10 := by
  simp [cntf, qcnt]
  omega
theorem nthb_in (D : Nat → Bool) : ∀ (m k n : Nat), n < cntf D m k → D (nthb D m k n) = true := by
  intro m
  induction m with
  | zero => intro k n h; exact absurd h (Nat.not_lt_zero _)
  | succ m ih =>
    intro k n h
    unfold cntf at h
    unfold nthb
    by_cases c : D k = true
    · rw [if_pos c] at h ⊢
      by_cases c0 : n = 0
      · rw [if_pos c0]; exact c
      · rw [if_neg c0]; exact ih (k + 1) (n - 1) (by omega)
    · rw [if_neg c] at h ⊢
      exact ih (k + 1) n (by omega)
theorem cntf_qany (D : Nat → Bool) (h : qany D = true) : 0 < qcnt D 10 := by
  obtain ⟨v, hv, hd⟩ := (qany_iff D).mp h
  have : ∀ n, v < n → 0 < qcnt D n := by
    intro n
    induction n with
    | zero => intro h; omega
    | succ n ih =>
      intro h
      show 0 < qcnt D n + (if D n then 1 else 0)
      by_cases e : v = n
      · rw [← e, hd, if_pos rfl]; omega
      · have := ih (by omega); omega
  exact this 10 hv
def spn (pk : Nat) (D : Nat → Bool) : Nat := if pk = 1 then qcnt D 10 - 1 else if pk = 2 then qcnt D 10 / 2 else 0
theorem spick_n (pk : Nat) (D : Nat → Bool) : spick pk D = nthb D 10 0 (spn pk D) := rfl
/-- on the class's side -/
theorem least_eq (D : Nat → Bool) (h : gH) : ∀ (m k n fu : Nat), k + m = 10 → m < fu → n < 2 ^ 31 → fS_least_4 (mkn 10 D) fu (nI n) (nI k) h = some (nI (nthb D m k n), h) := by
  intro m
  induction m with
  | zero =>
    intro k n fu hk hfu hn
    obtain ⟨fu, rfl⟩ : ∃ f, fu = f + 1 := ⟨fu - 1, by omega⟩
    have : k = 10 := by omega
    subst this
    unfold fS_least_4
    rw [if_neg (by decide)]; rfl
  | succ m ih =>
    intro k n fu hk hfu hn
    obtain ⟨fu, rfl⟩ : ∃ f, fu = f + 1 := ⟨fu - 1, by omega⟩
    unfold fS_least_4 nthb
    rw [if_pos (nltT (show k < 10 by omega) (by decide)), mkn_test (by decide) (show k < 10 by omega), nadd_l k 1]
    cases c : D k
    · rw [if_neg (show ¬ false = true by decide), if_neg (show ¬ nI n - (0 : Int32) < 0 by rw [Int32.sub_zero]; exact nI_pos hn), if_neg (show ¬ false = true by decide), Int32.sub_zero]
      exact ih (k + 1) n fu (by omega) (by omega) hn
    · rw [if_pos (show true = true from rfl), if_pos (show true = true from rfl)]
      by_cases c0 : n = 0
      · subst c0
        rw [if_pos (show nI 0 - (1 : Int32) < 0 by decide), if_pos rfl]
      · rw [show nI n - (1 : Int32) = nI (n - 1) from nsub (a := n) (b := 1) (by omega), if_neg (show ¬ nI (n - 1) < 0 from nI_pos (by omega)), if_neg c0]
        exact ih (k + 1) (n - 1) fu (by omega) (by omega) (by omega)
theorem leastX (D : Nat → Bool) {n : Nat} (hn : n < 2 ^ 31) (h : gH) : fS_least (mkn 10 D) (nI n) h = some (nI (nthb D 10 0 n), h) := by
  unfold fS_least
  rw [← nI_0]
  exact least_eq D h 10 0 n gfu rfl (by unfold gfu; omega) hn
theorem pickX (D : Nat → Bool) {pk : Nat} (hp : pk < 3) (hd : qany D = true) (h : gH) : fS_picked (mkn 10 D) (nI pk) h = some (nI (spick pk D), h) := by
  have hq : qcnt D 10 ≤ 10 := qcnt_le _ _
  have h0 := cntf_qany D hd
  unfold fS_picked
  rw [bitCount_eq, bc_mkn (by decide), Option.bind_some, spick_n]
  dsimp only
  unfold spn
  have : pk = 0 ∨ pk = 1 ∨ pk = 2 := by omega
  rcases this with rfl | rfl | rfl
  · rw [if_neg (show ¬ nI 0 = 1 by decide), if_neg (show ¬ nI 0 = 2 by decide), if_neg (by decide), if_neg (by decide), ← nI_0, leastX D (by omega)]; rfl
  · rw [if_pos (show nI 1 = 1 from rfl), if_pos rfl, show nI (qcnt D 10) - (1 : Int32) = nI (qcnt D 10 - 1) from nsub (a := qcnt D 10) (b := 1) (by omega), leastX D (by omega)]; rfl
  · rw [if_neg (show ¬ nI 2 = 1 by decide), if_pos (show nI 2 = 2 from rfl), if_neg (by decide), if_pos rfl, show nI (qcnt D 10) / (2 : Int32) = nI (qcnt D 10 / 2) from pk_div (a := qcnt D 10) (d := 2) (by omega) (by omega) (by omega), leastX D (by omega)]; rfl
theorem stlX {h : gH} {o : Nat} {D : Nat → Nat → Bool} (hD : ∀ x, x < 8 → h (o + 1) x = mkn 10 (D x)) {x : Nat} (hx : x < 8) : fH_isSettled o (nI x) h = some (b2i (decide (qcnt (D x) 10 = 1)), h) := by
  have hq : qcnt (D x) 10 ≤ 10 := qcnt_le _ _
  unfold fH_isSettled
  rw [gg_t (gin_t (by omega) (by omega)), clampn (by omega), hD x hx, bitCount_eq, bc_mkn (by decide), Option.bind_some]
  dsimp only
  by_cases c : qcnt (D x) 10 = 1
  · rw [if_pos (by rw [c]; rfl), decide_eq_true c]; rfl
  · rw [if_neg (show ¬ nI (qcnt (D x) 10) = 1 from fun z => c ((nI_eq (b := 1) (by omega) (by omega)).mp z)), decide_eq_false c]; rfl
theorem worthX {h : gH} {E : qE} {D : Nat → Nat → Bool} (hE : XE h E) (hA : Eall E) (hD : ∀ x, x < 8 → h 29 x = mkn 10 (D x)) {ch x : Nat} (hc : ch < 4) (hx : x < 8) : fS_worthOf (nI ch) (nI x) h = some (swo ch E D x, h) := by
  obtain ⟨e1, e2, e3, -, -, -, e7⟩ := hE
  unfold fS_worthOf swo
  have : ch = 0 ∨ ch = 1 ∨ ch = 2 ∨ ch = 3 := by omega
  rcases this with rfl | rfl | rfl | rfl
  · rw [if_neg (show ¬ nI 0 = 1 by decide), if_neg (show ¬ nI 0 = 2 by decide), if_neg (show ¬ nI 0 = 3 by decide), if_neg (by decide), if_neg (by decide), if_neg (by decide)]
  · rw [if_pos (show nI 1 = 1 from rfl), gg_t (gin_t (by omega) (by omega)), clampn (by omega), hD x hx, bitCount_eq, bc_mkn (by decide), Option.bind_some, if_pos rfl]
  · rw [if_neg (show ¬ nI 2 = 1 by decide), if_pos (show nI 2 = 2 from rfl), gg_t (gin_t (by omega) (by omega)), clampn (by omega), hD x hx, bitCount_eq, bc_mkn (by decide), Option.bind_some, if_neg (by decide), if_pos rfl]
  · rw [if_neg (show ¬ nI 3 = 1 by decide), if_neg (show ¬ nI 3 = 2 by decide), if_pos (show nI 3 = 3 from rfl), gg_t (gin_t hx (by omega)), clampn (by omega), if_neg (by decide), if_neg (by decide), if_pos rfl]
    have all : fR_all h = some (mkn 24 (fun i => decide (i < En E)), h) := by unfold fR_all; rw [e3, all_mask _ (by omega)]
    rw [all, Option.bind_some]
    dsimp only
    have e : h 5 x &&& mkn 24 (fun i => decide (i < En E)) = mkn 16 (fun i => decide (i < En E) && Ev E i x) := by
      rw [(e7 x hx).1, mkn_and (by decide)]
      refine (mkn_ext (by decide) (fun i hi => ?_))
      rw [bt_mkn (by decide)]
      by_cases ci : i < En E
      · have ha : Eact E i = true := by
          unfold Eact qact
          rw [hA i, decide_eq_true (show 0 ≤ i ∧ i < En E from ⟨Nat.zero_le _, ci⟩)]; rfl
        rw [(e7 x hx).2 i ha, decide_eq_true ci, decide_eq_true (show i < 24 by omega), decide_eq_true (show i < 16 by omega)]
        simp
      · rw [decide_eq_false ci]; simp
    rw [e, bitCount_eq, bc_mkn16, Option.bind_some]
    have f : ∀ n, n ≤ En E → qcnt (fun i => decide (i < En E) && Ev E i x) n = qcnt (fun r => Ev E r x) n := fun n hn => qcnt_congr n (fun i hi => by rw [decide_eq_true (show i < En E by omega), Bool.true_and])
    have g := qcnt_more (f := fun i => decide (i < En E) && Ev E i x) (n := En E) (16 - En E) (fun i hi => by rw [decide_eq_false (by omega)]; rfl)
    rw [show En E + (16 - En E) = 16 by omega] at g
    rw [g, f _ (Nat.le_refl _)]; rfl
theorem chosenX {h : gH} {E : qE} {D : Nat → Nat → Bool} (hE : XE h E) (hA : Eall E) (hD : ∀ x, x < 8 → h 29 x = mkn 10 (D x)) {ch : Nat} (hc : ch < 4) : ∀ (m k fu : Nat) (b : Option Nat) (bw : Int32), k + m = 8 → m < fu → (∀ y, b = some y → y < 8) → fS_chosen_7 (nI ch) fu (oI b) bw (nI k) h = some (oI (sch (swo ch E D) D m k b bw), h) := by
  intro m
  induction m with
  | zero =>
    intro k fu b bw hk hfu hb
    obtain ⟨fu, rfl⟩ : ∃ f, fu = f + 1 := ⟨fu - 1, by omega⟩
    have : k = 8 := by omega
    subst this
    unfold fS_chosen_7 sch
    rw [if_neg (by decide)]
  | succ m ih =>
    intro k fu b bw hk hfu hb
    obtain ⟨fu, rfl⟩ : ∃ f, fu = f + 1 := ⟨fu - 1, by omega⟩
    unfold fS_chosen_7 sch
    rw [if_pos (nltT (show k < 8 by omega) (by decide)), stlX (o := 28) hD (by omega), Option.bind_some, nadd_l k 1]
    dsimp only
    by_cases c1 : qcnt (D k) 10 = 1
    · rw [decide_eq_true c1, if_neg (show ¬ b2i true = 0 by decide), if_pos c1]
      exact ih (k + 1) fu b bw (by omega) (by omega) hb
    · rw [decide_eq_false c1, if_pos (show b2i false = 0 from rfl), if_neg c1, worthX hE hA hD hc (by omega), Option.bind_some]
      dsimp only
      have go : fS_chosen_49 (fS_chosen_7 (nI ch) fu) (nI ch) (nI k) (swo ch E D k) h = some (oI (sch (swo ch E D) D m (k + 1) (some k) (swo ch E D k)), h) := by
        unfold fS_chosen_49
        rw [nadd_l k 1]
        exact ih (k + 1) fu (some k) _ (by omega) (by omega) (fun y e => by rw [← Option.some.inj e]; omega)
      cases b with
      | none => rw [if_pos (show oI none = -1 from rfl), if_pos (Or.inl rfl)]; exact go
      | some y =>
        have := hb y rfl
        rw [if_neg (show ¬ oI (some y) = -1 from neq_m1 (by omega))]
        by_cases c2 : bw < swo ch E D k
        · rw [if_pos c2, if_pos (Or.inr c2)]; exact go
        · rw [if_neg c2, if_neg (by rintro (z | z); · cases z
                                    · exact c2 z)]
          exact ih (k + 1) fu (some y) bw (by omega) (by omega) hb
theorem chosen_eqX {h : gH} {E : qE} {D : Nat → Nat → Bool} (hE : XE h E) (hA : Eall E) (hD : ∀ x, x < 8 → h 29 x = mkn 10 (D x)) {ch : Nat} (hc : ch < 4) : fS_chosen (nI ch) h = some (oI (schosen ch E D), h) := by
  unfold fS_chosen
  have := chosenX hE hA hD hc 8 0 gfu none 0 rfl (by unfold gfu; omega) (fun y e => by cases e)
  rw [nI_0] at this
  exact this
/-- who is chosen isn't settled; if nobody is, all are -/
theorem sch_some {w : Nat → Int32} {D : Nat → Nat → Bool} : ∀ (m k : Nat) (b : Option Nat) (bw : Int32), k + m = 8 → (∀ y, b = some y → y < 8 ∧ ¬ qcnt (D y) 10 = 1) → (∀ y, sch w D m k b bw = some y → y < 8 ∧ ¬ qcnt (D y) 10 = 1) ∧ (sch w D m k b bw = none → b = none ∧ ∀ x, k ≤ x → x < 8 → qcnt (D x) 10 = 1) := by
  intro m
  induction m with
  | zero => intro k b bw hk hb; exact ⟨hb, fun h => ⟨h, fun x h1 h2 => by omega⟩⟩
  | succ m ih =>
    intro k b bw hk hb
    unfold sch
    by_cases c1 : qcnt (D k) 10 = 1
    · rw [if_pos c1]
      have := ih (k + 1) b bw (by omega) hb
      refine ⟨this.1, fun h => ⟨(this.2 h).1, fun x h1 h2 => ?_⟩⟩
      by_cases e : x = k
      · rw [e]; exact c1
      · exact (this.2 h).2 x (by omega) h2
    · rw [if_neg c1]
      have s2 := ih (k + 1) (some k) (w k) (by omega) (fun y e => by rw [← Option.some.inj e]; exact ⟨by omega, c1⟩)
      by_cases c2 : b = none ∨ bw < w k
      · rw [if_pos c2]; exact ⟨s2.1, fun h => by have := (s2.2 h).1; cases this⟩
      · rw [if_neg c2]
        have := ih (k + 1) b bw (by omega) hb
        refine ⟨this.1, fun h => ?_⟩
        exact absurd (Or.inl (this.2 h).1) c2
theorem schosen_some {ch : Nat} {E : qE} {D : Nat → Nat → Bool} {x : Nat} (h : schosen ch E D = some x) : x < 8 ∧ ¬ qcnt (D x) 10 = 1 := (sch_some 8 0 none 0 rfl (fun y e => by cases e)).1 x h
theorem schosen_none {ch : Nat} {E : qE} {D : Nat → Nat → Bool} (h : schosen ch E D = none) : ∀ x, x < 8 → qcnt (D x) 10 = 1 := fun x hx => ((sch_some 8 0 none 0 rfl (fun y e => by cases e)).2 h).2 x (Nat.zero_le _) hx

