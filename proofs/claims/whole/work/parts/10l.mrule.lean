/-! the reference takes a rule -/
def rel (c x y z : Nat) : Bool := (decide (0 < c) || decide (x = 0)) && ((decide (1 < c) || decide (y = 0)) && (decide (2 < c) || decide (z = 0)))
/-- values, one a slot -/
def envW (V : Nat → Bool) (x y z : Nat) : Nat → Int32 := fun v => if slt V 0 = v then nI x else if slt V 1 = v then nI y else nI z
def sl3 (c x y z : Nat) : Nat × Nat × Nat := if c = 3 then (x, y, z) else if c = 2 then (0, x, y) else if c = 1 then (0, 0, x) else (0, 0, 0)
def tabW (f : (Nat → Int32) → Bool) (V : Nat → Bool) (Ts : Nat → Nat → Nat → Bool) (x y z : Nat) : Bool := if rel (vls V).length x y z = true then f (envW V (sl3 (vls V).length x y z).1 (sl3 (vls V).length x y z).2.1 (sl3 (vls V).length x y z).2.2) else Ts x y z
/-- values by variables, and by slots -/
theorem agr_var {V : Nat → Bool} (hc : (vls V).length ≤ 3) {x y z : Nat} {e : Nat → Int32} (he : ∀ i u, (vls V)[i]? = some u → e u = nI ([x, y, z].getD i 0)) : agr V e (envW V (sl3 (vls V).length x y z).1 (sl3 (vls V).length x y z).2.1 (sl3 (vls V).length x y z).2.2) := by
  intro v hv vv
  have hm : v ∈ vls V := (mem_vls V v).mpr ⟨hv, vv⟩
  have hn := vls_nodup V
  unfold envW slt sl3
  generalize vls V = l at hc he hm hn ⊢
  have h8 : ¬ 8 = v := by omega
  match l, hc, hm, hn, he with
  | [], _, hm, _, _ => cases hm
  | [a], _, hm, _, he =>
    have : v = a := by simpa using hm
    subst this
    rw [he 0 v rfl]
    simp [h8]
  | [a, b], _, hm, hn, he =>
    have hn : a ≠ b := by simpa using hn
    have : v = a ∨ v = b := by simpa using hm
    rcases this with rfl | rfl
    · rw [he 0 v rfl]; simp [h8]
    · rw [he 1 v rfl]; simp [h8, hn]
  | [a, b, c], _, hm, hn, he =>
    have hn : (a ≠ b ∧ a ≠ c) ∧ b ≠ c := by simpa using hn
    have : v = a ∨ v = b ∨ v = c := by simpa using hm
    rcases this with rfl | rfl | rfl
    · rw [he 0 v rfl]; simp
    · rw [he 1 v rfl]; simp [hn.1.1]
    · rw [he 2 v rfl]; simp [hn.1.2, hn.2]
  | _ :: _ :: _ :: _ :: _, hc, _, _, _ => simp at hc
def mrf (h h1 : gH) : Prop := (∀ b, b ≠ 65 → b ≠ 69 → b ≠ 80 → h1 b = h b) ∧ ∀ k, k < 24 ∨ 32 < k → h1 65 k = h 65 k
theorem mrf_rf (h : gH) : mrf h h := ⟨fun _ _ _ _ => rfl, fun _ _ => rfl⟩
theorem mrf_tr {a b c : gH} (h1 : mrf a b) (h2 : mrf b c) : mrf a c := ⟨fun o x y z => (h2.1 o x y z).trans (h1.1 o x y z), fun k hk => (h2.2 k hk).trans (h1.2 k hk)⟩
theorem mrf_n {h h1 : gH} (f : nfr 24 32 h h1) : mrf h h1 := ⟨fun o x _ _ => f.1 o x, fun k hk => f.2 k hk⟩
theorem mrf_80 (h : gH) (k : Nat) (v : Int32) : mrf h (hu h 80 k v) := ⟨fun _ _ _ x => hu_ne x, fun _ _ => by rw [hu_ne (by decide)]⟩
theorem mrf_69 (h : gH) (k : Nat) (v : Int32) : mrf h (hu h 69 k v) := ⟨fun _ _ x _ => hu_ne x, fun _ _ => by rw [hu_ne (by decide)]⟩
section
variable {T : qTp} {n : Nat} {r : rdR} {h0 : gH}
/-- what holds in the loops -/
def LJ (T : qTp) (n : Nat) (r : rdR) (h0 h : gH) : Prop := TpB T ∧ MTp h0 T ∧ h0 65 8 = nI n ∧ n < 16 ∧ qrd T = r ∧ r.1 = true ∧ mrf h0 h ∧ h 65 32 = nI r.2.2.1
/-- one entry: the text is read once more, for these values -/
theorem m166 {k80 : Int32 → gH → Option (Int32 × gH)} {v2 v3 : Int32} {x y z : Nat} {h : gH} {Q : Int32 × gH → Prop} (J : LJ T n r h0 h) (hx : x < 10) (hy : y < 10) (hz : z < 10) (hQ : ∀ h1, LJ T n r h0 h1 → h1 69 (1000 * n + 100 * x + 10 * y + z) = b2i (r.2.2.2.2 (h 80)) → (∀ i, i ≠ 1000 * n + 100 * x + 10 * y + z → h1 69 i = h 69 i) → Sp (k80 (nI (z + 1)) h1) Q) : Sp (fM_rule_166 k80 v2 v3 (nI x) (nI y) (nI z) h) Q := by
  obtain ⟨B, HT, e8, hn, er, r1, f, e32⟩ := J
  have HT1 : MTp h T := MTp_fr HT (f.2 22 (by omega)) (f.1 79 (by decide) (by decide) (by decide))
  unfold fM_rule_166
  refine Sp_bind (reads_sp B HT1) (fun p _ g => ?_)
  rw [er] at g
  obtain ⟨g1, g2, -⟩ := g
  obtain ⟨a1, a2, a3, a4⟩ := g2 r1
  have ei : (((1000 : Int32) * (h 65 8)) + ((100 : Int32) * nI x)) + ((10 : Int32) * nI y) + nI z = nI (1000 * n + 100 * x + 10 * y + z) := by
    rw [f.2 8 (by omega), e8, show (1000 : Int32) * nI n = nI (1000 * n) from nmul 1000 n, show (100 : Int32) * nI x = nI (100 * x) from nmul 100 x, show (10 : Int32) * nI y = nI (10 * y) from nmul 10 y, nI_add, nI_add, nI_add]
  rw [ei, a4]
  refine Sp_gg (gin_t (by omega) (by omega)) (Sp_gg (gbo_b _) (Sp_let ?_))
  rw [clampn (by omega), nadd_l z 1]
  refine hQ _ ⟨B, HT, e8, hn, er, r1, mrf_tr f (mrf_tr (mrf_n g1) (mrf_69 _ _ _)), by rw [hu_ne (by decide)]; exact a3⟩ (hu_same _ _ _ _) (fun i hi => ?_)
  rw [hu_k _ _ _ _ hi, g1.1 69 (by decide)]
theorem oI_some (u : Nat) : oI (some u) = nI u := rfl
/-- the values set, then read -/
theorem m107 {k80 : Int32 → gH → Option (Int32 × gH)} {V : Nat → Bool} (hc : (vls V).length ≤ 3) (hV : r.2.2.2.1 = V) (ok : RdOk r) {x y z : Nat} {h : gH} {Q : Int32 × gH → Prop} (J : LJ T n r h0 h) (hx : x < 10) (hy : y < 10) (hz : z < 10) (hQ : ∀ h1, LJ T n r h0 h1 → (rel (vls V).length x y z = true → h1 69 (1000 * n + 100 * x + 10 * y + z) = b2i (r.2.2.2.2 (envW V (sl3 (vls V).length x y z).1 (sl3 (vls V).length x y z).2.1 (sl3 (vls V).length x y z).2.2))) → (∀ i, i ≠ 1000 * n + 100 * x + 10 * y + z → h1 69 i = h 69 i) → Sp (k80 (nI (z + 1)) h1) Q) (hr : rel (vls V).length x y z = true) : Sp (fM_rule_116 k80 (mkn 8 V) (nI (vls V).length) (nI x) (nI y) (nI z) h) Q := by
  have hl8 : ∀ i u : Nat, (vls V)[i]? = some u → u < 8 := fun i u e => ((mem_vls V u).mp (List.mem_of_getElem? e)).1
  have nd := vls_nodup V
  have gt : ∀ i : Nat, i < (vls V).length → ∃ u : Nat, (vls V)[i]? = some u := fun i hi => ⟨_, List.getElem?_eq_getElem hi⟩
  have inj : ∀ i j u : Nat, (vls V)[i]? = some u → (vls V)[j]? = some u → i = j := by
    intro i j u e1 e2
    exact (List.getElem?_inj (List.getElem?_eq_some_iff.mp e1).1 nd).mp (e1.trans e2.symm)
  -- the last step: all values stand
  have fin : ∀ h2, LJ T n r h0 h2 → (∀ i, h2 69 i = h 69 i) → (∀ i u, (vls V)[i]? = some u → h2 80 u = nI ([x, y, z].getD i 0)) → Sp (fM_rule_166 k80 (mkn 8 V) (nI (vls V).length) (nI x) (nI y) (nI z) h2) Q := by
    intro h2 J2 f69 he
    refine m166 J2 hx hy hz (fun h3 J3 a b => hQ h3 J3 (fun _ => ?_) (fun i hi => by rw [b i hi]; exact f69 i))
    rw [a, (ok J.2.2.2.2.2.1).2.2 _ _ (by rw [hV]; exact agr_var hc he)]
  have LJ80 : ∀ h2 (k : Nat) (v : Int32), LJ T n r h0 h2 → LJ T n r h0 (hu h2 80 k v) := by
    intro h2 k v ⟨B, HT, e8, hn, er, r1, f, e32⟩
    exact ⟨B, HT, e8, hn, er, r1, mrf_tr f (mrf_80 _ _ _), by rw [hu_ne (by decide)]; exact e32⟩
  have s2 : ∀ h2, LJ T n r h0 h2 → (∀ i, h2 69 i = h 69 i) → (∀ i u, i < 2 → (vls V)[i]? = some u → h2 80 u = nI ([x, y, z].getD i 0)) → Sp (fM_rule_149 k80 (mkn 8 V) (nI (vls V).length) (nI x) (nI y) (nI z) h2) Q := by
    intro h2 J2 f69 he
    unfold fM_rule_149
    by_cases c : 2 < (vls V).length
    · obtain ⟨u, eu⟩ := gt 2 c
      have u8 := hl8 2 u eu
      refine Sp_pos ((nI_ltI (a := 2) (by decide) (by omega)).mpr c) (Sp_eq (variable_eq (i := 2) (by decide) h2) ?_)
      rw [eu, oI_some, clampn (by omega)]
      refine Sp_gg (gin_t u8 (by decide)) (fin _ (LJ80 h2 _ _ J2) (fun i => by rw [hu_ne (by decide)]; exact f69 i) (fun i w e => ?_))
      by_cases ei : i = 2
      · subst ei
        have : w = u := by rw [eu] at e; exact (Option.some.inj e).symm
        rw [this, hu_same]; rfl
      · have : w ≠ u := fun q => ei (inj i 2 u (by rw [← q]; exact e) eu)
        rw [hu_k _ _ _ _ this]
        have hi : i < (vls V).length := (List.getElem?_eq_some_iff.mp e).1
        exact he i w (by omega) e
    · refine Sp_neg (fun q => c ((nI_ltI (a := 2) (by decide) (by omega)).mp q)) (fin h2 J2 f69 (fun i w e => ?_))
      have hi : i < (vls V).length := (List.getElem?_eq_some_iff.mp e).1
      exact he i w (by omega) e
  have s1 : ∀ h2, LJ T n r h0 h2 → (∀ i, h2 69 i = h 69 i) → (∀ i u, i < 1 → (vls V)[i]? = some u → h2 80 u = nI ([x, y, z].getD i 0)) → Sp (fM_rule_132 k80 (mkn 8 V) (nI (vls V).length) (nI x) (nI y) (nI z) h2) Q := by
    intro h2 J2 f69 he
    unfold fM_rule_132
    by_cases c : 1 < (vls V).length
    · obtain ⟨u, eu⟩ := gt 1 c
      have u8 := hl8 1 u eu
      refine Sp_pos ((nI_ltI (a := 1) (by decide) (by omega)).mpr c) (Sp_eq (variable_eq (i := 1) (by decide) h2) ?_)
      rw [eu, oI_some, clampn (by omega)]
      refine Sp_gg (gin_t u8 (by decide)) (s2 _ (LJ80 h2 _ _ J2) (fun i => by rw [hu_ne (by decide)]; exact f69 i) (fun i w i2 e => ?_))
      by_cases ei : i = 1
      · subst ei
        have : w = u := by rw [eu] at e; exact (Option.some.inj e).symm
        rw [this, hu_same]; rfl
      · have : w ≠ u := fun q => ei (inj i 1 u (by rw [← q]; exact e) eu)
        rw [hu_k _ _ _ _ this]
        exact he i w (by omega) e
    · refine Sp_neg (fun q => c ((nI_ltI (a := 1) (by decide) (by omega)).mp q)) (s2 h2 J2 f69 (fun i w i2 e => ?_))
      have hi : i < (vls V).length := (List.getElem?_eq_some_iff.mp e).1
      exact he i w (by omega) e
  unfold fM_rule_116
  by_cases c : 0 < (vls V).length
  · obtain ⟨u, eu⟩ := gt 0 c
    have u8 := hl8 0 u eu
    refine Sp_pos ((nI_ltI (a := 0) (by decide) (by omega)).mpr c) (Sp_eq (variable_eq (i := 0) (by decide) h) ?_)
    rw [eu, oI_some, clampn (by omega)]
    refine Sp_gg (gin_t u8 (by decide)) (s1 _ (LJ80 h _ _ J) (fun i => by rw [hu_ne (by decide)]) (fun i w i2 e => ?_))
    have ei : i = 0 := by omega
    subst ei
    have : w = u := by rw [eu] at e; exact (Option.some.inj e).symm
    rw [this, hu_same]; rfl
  · refine Sp_neg (fun q => c ((nI_ltI (a := 0) (by decide) (by omega)).mp q)) (s1 h J (fun i => rfl) (fun i w i2 e => ?_))
    have hi : i < (vls V).length := (List.getElem?_eq_some_iff.mp e).1
    omega
theorem mloop80 {k70 : Int32 → gH → Option (Int32 × gH)} {V : Nat → Bool} (hc : (vls V).length ≤ 3) (hV : r.2.2.2.1 = V) (ok : RdOk r) {x y : Nat} (hx : x < 10) (hy : y < 10) {Q : Int32 × gH → Prop} : ∀ (m z fu : Nat) (h : gH), z + m = 10 → m < fu → LJ T n r h0 h → (∀ h1, LJ T n r h0 h1 → (∀ w, z ≤ w → w < 10 → rel (vls V).length x y w = true → h1 69 (1000 * n + 100 * x + 10 * y + w) = b2i (r.2.2.2.2 (envW V (sl3 (vls V).length x y w).1 (sl3 (vls V).length x y w).2.1 (sl3 (vls V).length x y w).2.2))) → (∀ i, i < 1000 * n + 100 * x + 10 * y + z ∨ 1000 * n + 100 * x + 10 * y + 10 ≤ i → h1 69 i = h 69 i) → Sp (k70 (nI (y + 1)) h1) Q) → Sp (fM_rule_80 k70 (mkn 8 V) (nI (vls V).length) (nI x) (nI y) fu (nI z) h) Q := by
  intro m
  induction m with
  | zero =>
    intro z fu h hz hfu J hQ
    obtain ⟨fu, rfl⟩ : ∃ f, fu = f + 1 := ⟨fu - 1, by omega⟩
    have : z = 10 := by omega
    subst this
    unfold fM_rule_80
    refine Sp_neg (by decide) ?_
    rw [nadd_l y 1]
    exact hQ h J (fun w h1 h2 => by omega) (fun i _ => rfl)
  | succ m ih =>
    intro z fu h hz hfu J hQ
    obtain ⟨fu, rfl⟩ : ∃ f, fu = f + 1 := ⟨fu - 1, by omega⟩
    have g0 : nI x = (0 : Int32) ↔ x = 0 := nI_eq (b := 0) (by omega) (by omega)
    have g1 : nI y = (0 : Int32) ↔ y = 0 := nI_eq (b := 0) (by omega) (by omega)
    have g2 : nI z = (0 : Int32) ↔ z = 0 := nI_eq (b := 0) (by omega) (by omega)
    have l0 : (0 : Int32) < nI (vls V).length ↔ 0 < (vls V).length := nI_ltI (a := 0) (by decide) (by omega)
    have l1 : (1 : Int32) < nI (vls V).length ↔ 1 < (vls V).length := nI_ltI (a := 1) (by decide) (by omega)
    have l2 : (2 : Int32) < nI (vls V).length ↔ 2 < (vls V).length := nI_ltI (a := 2) (by decide) (by omega)
    have next : ∀ h1, LJ T n r h0 h1 → (rel (vls V).length x y z = true → h1 69 (1000 * n + 100 * x + 10 * y + z) = b2i (r.2.2.2.2 (envW V (sl3 (vls V).length x y z).1 (sl3 (vls V).length x y z).2.1 (sl3 (vls V).length x y z).2.2))) → (∀ i, i ≠ 1000 * n + 100 * x + 10 * y + z → h1 69 i = h 69 i) → Sp (fM_rule_80 k70 (mkn 8 V) (nI (vls V).length) (nI x) (nI y) fu (nI (z + 1)) h1) Q := by
      intro h1 J1 a b
      refine ih (z + 1) fu h1 (by omega) (by omega) J1 (fun h2 J2 u v => hQ h2 J2 (fun w w1 w2 wr => ?_) (fun i hi => ?_))
      · by_cases e : w = z
        · subst e
          rw [v _ (by omega)]; exact a wr
        · exact u w (by omega) w2 wr
      · rw [v i (by omega)]; exact b i (by omega)
    have skip : rel (vls V).length x y z = false → Sp (fM_rule_80 k70 (mkn 8 V) (nI (vls V).length) (nI x) (nI y) fu (nI z + 1) h) Q := by
      intro hr
      rw [nadd_l z 1]
      exact next h J (fun w => by rw [hr] at w; cases w) (fun i _ => rfl)
    have go : rel (vls V).length x y z = true → Sp (fM_rule_116 (fM_rule_80 k70 (mkn 8 V) (nI (vls V).length) (nI x) (nI y) fu) (mkn 8 V) (nI (vls V).length) (nI x) (nI y) (nI z) h) Q := fun hr => m107 hc hV ok J hx hy (by omega) next hr
    have r0 : ¬ 0 < (vls V).length → ¬ x = 0 → rel (vls V).length x y z = false := fun a b => by unfold rel; rw [decide_eq_false a, decide_eq_false b]; rfl
    have r1 : ¬ 1 < (vls V).length → ¬ y = 0 → rel (vls V).length x y z = false := fun a b => by unfold rel; rw [decide_eq_false a, decide_eq_false b, Bool.or_false, Bool.false_and, Bool.and_false]
    have r2 : ¬ 2 < (vls V).length → ¬ z = 0 → rel (vls V).length x y z = false := fun a b => by unfold rel; rw [decide_eq_false a, decide_eq_false b, Bool.or_false, Bool.and_false, Bool.and_false]
    have rt : (0 < (vls V).length ∨ x = 0) → (1 < (vls V).length ∨ y = 0) → (2 < (vls V).length ∨ z = 0) → rel (vls V).length x y z = true := fun a b c => by unfold rel; simp; exact ⟨a, b, c⟩
    have t107 : (1 < (vls V).length ∨ y = 0) → (2 < (vls V).length ∨ z = 0) → Sp (fM_rule_107 (fM_rule_80 k70 (mkn 8 V) (nI (vls V).length) (nI x) (nI y) fu) (mkn 8 V) (nI (vls V).length) (nI x) (nI y) (nI z) h) Q := by
      intro b c
      unfold fM_rule_107
      by_cases a : 0 < (vls V).length
      · exact Sp_pos (l0.mpr a) (go (rt (Or.inl a) b c))
      · refine Sp_neg (fun w => a (l0.mp w)) ?_
        by_cases a2 : x = 0
        · exact Sp_pos (g0.mpr a2) (go (rt (Or.inr a2) b c))
        · exact Sp_neg (fun w => a2 (g0.mp w)) (skip (r0 a a2))
    have t97 : (2 < (vls V).length ∨ z = 0) → Sp (fM_rule_97 (fM_rule_80 k70 (mkn 8 V) (nI (vls V).length) (nI x) (nI y) fu) (mkn 8 V) (nI (vls V).length) (nI x) (nI y) (nI z) h) Q := by
      intro c
      unfold fM_rule_97
      by_cases a : 1 < (vls V).length
      · exact Sp_pos (l1.mpr a) (t107 (Or.inl a) c)
      · refine Sp_neg (fun w => a (l1.mp w)) ?_
        by_cases a2 : y = 0
        · exact Sp_pos (g1.mpr a2) (t107 (Or.inr a2) c)
        · exact Sp_neg (fun w => a2 (g1.mp w)) (skip (r1 a a2))
    unfold fM_rule_80
    refine Sp_pos (nltT (show z < 10 by omega) (by decide)) ?_
    by_cases a : 2 < (vls V).length
    · exact Sp_pos (l2.mpr a) (t97 (Or.inl a))
    · refine Sp_neg (fun w => a (l2.mp w)) ?_
      by_cases a2 : z = 0
      · exact Sp_pos (g2.mpr a2) (t97 (Or.inr a2))
      · exact Sp_neg (fun w => a2 (g2.mp w)) (skip (r2 a a2))
theorem mloop70 {k60 : Int32 → gH → Option (Int32 × gH)} {V : Nat → Bool} (hc : (vls V).length ≤ 3) (hV : r.2.2.2.1 = V) (ok : RdOk r) {x : Nat} (hx : x < 10) {Q : Int32 × gH → Prop} : ∀ (m y fu : Nat) (h : gH), y + m = 10 → m < fu → LJ T n r h0 h → (∀ h1, LJ T n r h0 h1 → (∀ v w, y ≤ v → v < 10 → w < 10 → rel (vls V).length x v w = true → h1 69 (1000 * n + 100 * x + 10 * v + w) = b2i (r.2.2.2.2 (envW V (sl3 (vls V).length x v w).1 (sl3 (vls V).length x v w).2.1 (sl3 (vls V).length x v w).2.2))) → (∀ i, i < 1000 * n + 100 * x + 10 * y ∨ 1000 * n + 100 * x + 100 ≤ i → h1 69 i = h 69 i) → Sp (k60 (nI (x + 1)) h1) Q) → Sp (fM_rule_70 k60 (mkn 8 V) (nI (vls V).length) (nI x) fu (nI y) h) Q := by
  intro m
  induction m with
  | zero =>
    intro y fu h hy hfu J hQ
    obtain ⟨fu, rfl⟩ : ∃ f, fu = f + 1 := ⟨fu - 1, by omega⟩
    have : y = 10 := by omega
    subst this
    unfold fM_rule_70
    refine Sp_neg (by decide) ?_
    rw [nadd_l x 1]
    exact hQ h J (fun v w h1 h2 => by omega) (fun i _ => rfl)
  | succ m ih =>
    intro y fu h hy hfu J hQ
    obtain ⟨fu, rfl⟩ : ∃ f, fu = f + 1 := ⟨fu - 1, by omega⟩
    unfold fM_rule_70
    refine Sp_pos (nltT (show y < 10 by omega) (by decide)) ?_
    rw [← nI_0]
    refine mloop80 hc hV ok hx (show y < 10 by omega) 10 0 gfu h (by omega) (by unfold gfu; omega) J (fun h1 J1 a b => ?_)
    refine ih (y + 1) fu h1 (by omega) (by omega) J1 (fun h2 J2 u v => hQ h2 J2 (fun v' w v1 v2 w2 wr => ?_) (fun i hi => ?_))
    · by_cases e : v' = y
      · subst e
        rw [v _ (by omega)]; exact a w (Nat.zero_le _) w2 wr
      · exact u v' w (by omega) v2 w2 wr
    · rw [v i (by omega)]; exact b i (by omega)
theorem mloop60 {V : Nat → Bool} (hc : (vls V).length ≤ 3) (hV : r.2.2.2.1 = V) (ok : RdOk r) {Q : Int32 × gH → Prop} : ∀ (m x fu : Nat) (h : gH), x + m = 10 → m < fu → LJ T n r h0 h → (∀ h1, LJ T n r h0 h1 → (∀ u v w, x ≤ u → u < 10 → v < 10 → w < 10 → rel (vls V).length u v w = true → h1 69 (1000 * n + 100 * u + 10 * v + w) = b2i (r.2.2.2.2 (envW V (sl3 (vls V).length u v w).1 (sl3 (vls V).length u v w).2.1 (sl3 (vls V).length u v w).2.2))) → (∀ i, i < 1000 * n + 100 * x ∨ 1000 * n + 1000 ≤ i → h1 69 i = h 69 i) → Sp (fM_rule_60 (mkn 8 V) (nI (vls V).length) 1 (nI 10) h1) Q) → Sp (fM_rule_60 (mkn 8 V) (nI (vls V).length) fu (nI x) h) Q := by
  intro m
  induction m with
  | zero =>
    intro x fu h hx hfu J hQ
    obtain ⟨fu, rfl⟩ : ∃ f, fu = f + 1 := ⟨fu - 1, by omega⟩
    have : x = 10 := by omega
    subst this
    have := hQ h J (fun u v w h1 h2 => by omega) (fun i _ => rfl)
    unfold fM_rule_60 at this ⊢
    rw [if_neg (by decide)] at this ⊢
    exact this
  | succ m ih =>
    intro x fu h hx hfu J hQ
    obtain ⟨fu, rfl⟩ : ∃ f, fu = f + 1 := ⟨fu - 1, by omega⟩
    unfold fM_rule_60
    refine Sp_pos (nltT (show x < 10 by omega) (by decide)) ?_
    rw [← nI_0]
    refine mloop70 hc hV ok (show x < 10 by omega) 10 0 gfu h (by omega) (by unfold gfu; omega) J (fun h1 J1 a b => ?_)
    refine ih (x + 1) fu h1 (by omega) (by omega) J1 (fun h2 J2 u v => hQ h2 J2 (fun u' v' w u1 u2 v2 w2 wr => ?_) (fun i hi => ?_))
    · by_cases e : u' = x
      · subst e
        rw [v _ (by omega)]; exact a v' w (Nat.zero_le _) v2 w2 wr
      · exact u u' v' w (by omega) u2 v2 w2 wr
    · rw [v i (by omega)]; exact b i (by omega)
end
