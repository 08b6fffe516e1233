/-! tells of the reference -/
theorem wat_some {vs : Nat → Bool} (f : Nat → Int32) {j : Nat} (hj : j < (vls vs).length) : ∃ u, u < 8 ∧ (vls vs)[j]? = some u ∧ wat vs f j = vN (f u) := by
  refine ⟨(vls vs)[j], ((mem_vls vs _).mp (List.getElem_mem hj)).1, List.getElem?_eq_getElem hj, ?_⟩
  unfold wat
  rw [List.getElem?_eq_getElem hj]
theorem wat_none {vs : Nat → Bool} (f : Nat → Int32) {j : Nat} (hj : ¬ j < (vls vs).length) : wat vs f j = 0 := by
  unfold wat
  rw [List.getElem?_eq_none (Nat.not_lt.mp hj)]
theorem wat_lt {vs : Nat → Bool} {f : Nat → Int32} (ht : tall f 8 0 = true) (j : Nat) : wat vs f j < 10 := by
  by_cases hj : j < (vls vs).length
  · obtain ⟨u, hu, -, e⟩ := wat_some f hj
    rw [e]; exact (tall_v ht hu).1
  · rw [wat_none f hj]; omega
theorem mso {S : qW} {f : Nat → Int32} (ht : tall f 8 0 = true) {i r : Nat} (hi : i < 4) (hr : r < 16) {h : gH} (hm : h 68 r = mkn 8 (S.1.2.1 r)) (hT : TB h r (S.1.2.2.1 r)) (hf : ∀ j, j < 8 → h 106 (40 * i + j) = f j) : fM_isSo (nI i) (nI r) h = some (b2i (tso S f r), h) := by
  generalize hv : S.1.2.1 r = vs at hm
  have w0 := wat_lt (vs := vs) ht 0
  have w1 := wat_lt (vs := vs) ht 1
  have w2 := wat_lt (vs := vs) ht 2
  have l8 : (vls vs).length ≤ 8 := by rw [vls_len]; exact qcnt_le _ _
  have va : ∀ j u, u < 8 → (vls vs)[j]? = some u → wat vs f j = vN (f u) → gin ((40 : Int32) * nI i + nI u) 160 = true ∧ h 106 ((40 : Int32) * nI i + nI u).toNatClampNeg = nI (wat vs f j) := by
    intro j u hu _ e
    rw [nmul_r, nI_add]
    refine ⟨gin_t (by omega) (by omega), ?_⟩
    rw [clampn (by omega), hf u hu, e]; exact (tall_v ht hu).2
  have s100 : ∀ v2 v3 v4 : Int32, (if 0 < (vls vs).length then v2 = nI (wat vs f 0) else wat vs f 0 = 0) → (if 1 < (vls vs).length then v3 = nI (wat vs f 1) else wat vs f 1 = 0) → (if 2 < (vls vs).length then v4 = nI (wat vs f 2) else wat vs f 2 = 0) → fM_isSo_100 (nI r) v2 v3 v4 h = some (b2i (tso S f r), h) := by
    intro v2 v3 v4 e2 e3 e4
    unfold fM_isSo_100
    rw [isHold_eq hr hm hT rfl v2 v3 v4 w0 w1 w2 e2 e3 e4, Option.bind_some]
    dsimp only
    rw [gg_t (gbo_b _)]
    unfold tso
    rw [hv]
  have s69 : ∀ v2 v3 : Int32, (if 0 < (vls vs).length then v2 = nI (wat vs f 0) else wat vs f 0 = 0) → (if 1 < (vls vs).length then v3 = nI (wat vs f 1) else wat vs f 1 = 0) → fM_isSo_69 (nI i) (nI r) (nI (vls vs).length) v2 v3 h = some (b2i (tso S f r), h) := by
    intro v2 v3 e2 e3
    unfold fM_isSo_69
    by_cases q : 2 < (vls vs).length
    · obtain ⟨u, hu, e5, e6⟩ := wat_some f q
      obtain ⟨g1, g2⟩ := va 2 u hu e5 e6
      have v2e := variable_eq (vs := vs) (i := 2) (by omega) h
      rw [e5] at v2e
      rw [if_pos ((nlt_r (c := 2) (by omega) (by decide)).mpr q), gg_t (gin_t (by omega) (by omega)), clampn (by omega), hm, show (2 : Int32) = nI 2 from rfl, v2e, Option.bind_some]
      dsimp only
      rw [oI_some, gg_t g1, g2]
      exact s100 _ _ _ e2 e3 (by rw [if_pos q])
    · rw [if_neg (fun w => q ((nlt_r (c := 2) (by omega) (by decide)).mp w))]
      exact s100 _ _ _ e2 e3 (by rw [if_neg q]; exact wat_none f q)
  have s38 : ∀ v2 : Int32, (if 0 < (vls vs).length then v2 = nI (wat vs f 0) else wat vs f 0 = 0) → fM_isSo_38 (nI i) (nI r) (nI (vls vs).length) v2 h = some (b2i (tso S f r), h) := by
    intro v2 e2
    unfold fM_isSo_38
    by_cases q : 1 < (vls vs).length
    · obtain ⟨u, hu, e5, e6⟩ := wat_some f q
      obtain ⟨g1, g2⟩ := va 1 u hu e5 e6
      have v2e := variable_eq (vs := vs) (i := 1) (by omega) h
      rw [e5] at v2e
      rw [if_pos ((nlt_r (c := 1) (by omega) (by decide)).mpr q), gg_t (gin_t (by omega) (by omega)), clampn (by omega), hm, show (1 : Int32) = nI 1 from rfl, v2e, Option.bind_some]
      dsimp only
      rw [oI_some, gg_t g1, g2]
      exact s69 _ _ e2 (by rw [if_pos q])
    · rw [if_neg (fun w => q ((nlt_r (c := 1) (by omega) (by decide)).mp w))]
      exact s69 _ _ e2 (by rw [if_neg q]; exact wat_none f q)
  unfold fM_isSo
  rw [gg_t (gin_t (by omega) (by omega)), clampn (by omega), mbits_eq hm, Option.bind_some]
  dsimp only
  by_cases q : 0 < (vls vs).length
  · obtain ⟨u, hu, e5, e6⟩ := wat_some f q
    obtain ⟨g1, g2⟩ := va 0 u hu e5 e6
    have v2e := variable_eq (vs := vs) (i := 0) (by omega) h
    rw [e5, nI_0] at v2e
    rw [if_pos ((nlt_r (c := 0) (by omega) (by decide)).mpr q), gg_t (gin_t (by omega) (by omega)), hm, v2e, Option.bind_some]
    dsimp only
    rw [oI_some, gg_t g1, g2]
    exact s38 _ (by rw [if_pos q])
  · rw [if_neg (fun w => q ((nlt_r (c := 0) (by omega) (by decide)).mp w))]
    exact s38 _ (by rw [if_neg q]; exact wat_none f q)
theorem fnd32a {i : Nat} {h : gH} : ∀ (m k fu : Nat), k + m = 8 → m < fu → fM_isFound_32 (nI i) fu 0 (nI k) h = some (0, h) := by
  intro m
  induction m with
  | zero =>
    intro k fu hk hfu
    obtain ⟨fu, rfl⟩ : ∃ g, fu = g + 1 := ⟨fu - 1, by omega⟩
    have : k = 8 := by omega
    subst this
    unfold fM_isFound_32
    rw [if_neg (by decide)]; rfl
  | succ m ih =>
    intro k fu hk hfu
    obtain ⟨fu, rfl⟩ : ∃ g, fu = g + 1 := ⟨fu - 1, by omega⟩
    unfold fM_isFound_32 fM_isFound_70 fM_isFound_71
    rw [if_pos (nltT (show k < 8 by omega) (by decide)), if_pos rfl, nadd_l k 1]
    exact ih (k + 1) fu (by omega) (by omega)
theorem fnd32b {i : Nat} (hi : i < 4) {sol : Nat → Nat} {f : Nat → Int32} {h : gH} (hs : ∀ x, x < 8 → h 87 x = nI (sol x)) (hf : ∀ j, j < 8 → h 106 (40 * i + j) = f j) : ∀ (m k fu : Nat), k + m = 8 → m < fu → fM_isFound_32 (nI i) fu 1 (nI k) h = some (b2i (teq sol f m k), h) := by
  intro m
  induction m with
  | zero =>
    intro k fu hk hfu
    obtain ⟨fu, rfl⟩ : ∃ g, fu = g + 1 := ⟨fu - 1, by omega⟩
    have : k = 8 := by omega
    subst this
    unfold fM_isFound_32
    rw [if_neg (by decide)]; rfl
  | succ m ih =>
    intro k fu hk hfu
    obtain ⟨fu, rfl⟩ : ∃ g, fu = g + 1 := ⟨fu - 1, by omega⟩
    unfold fM_isFound_32 fM_isFound_70 fM_isFound_71 teq
    rw [if_pos (nltT (show k < 8 by omega) (by decide)), if_neg (by decide), gg_t (gin_t (by omega) (by omega)), nmul_r, nI_add, gg_t (gin_t (by omega) (by omega)), clampn (show k < 2 ^ 31 by omega), clampn (show 40 * i + k < 2 ^ 31 by omega), hs k (by omega), hf k (by omega), nadd_l k 1]
    by_cases e : nI (sol k) = f k
    · rw [if_pos e, decide_eq_true e, Bool.true_and]
      exact ih (k + 1) fu (by omega) (by omega)
    · rw [if_neg e, decide_eq_false e, Bool.false_and]
      exact fnd32a m (k + 1) fu (by omega) (by omega)
theorem msh106 {h : gH} {S : qW} (H : BM h S) {i : Nat} (hi : i < 4) (q : ¬ (S.2.2.2.2 i).1 = -1) (n8 : (S.2.2.2.2 i).2.1 = 8) : ∀ j, j < 8 → h 106 (40 * i + j) = (S.2.2.2.2 i).2.2 j := fun j hj => ((H.2.2.2.1 i hi).2 q).2.2 j (by rw [n8]; exact hj)
theorem M_isFound {h : gH} {S : qW} (H : BM h S) (W : WI S) {i : Nat} (hi : i < 4) (q : ¬ (S.2.2.2.2 i).1 = -1) (n8 : (S.2.2.2.2 i).2.1 = 8) {k : Nat} (hk : k < 12) : Sp (fM_isFound (nI i) (nI (k / 3)) (nI (k % 3)) h) (fun p => p.1 = b2i (tfnd S (S.2.2.2.2 i).2.2 k) ∧ BM p.2 S) := by
  have e : fM_isFound (nI i) (nI (k / 3)) (nI (k % 3)) h = (fM_laysAside2 h).bind fun h1 => (fM_searched (nI (k / 3)) (nI (k % 3)) (b2i false) (b2i false) (nI 100) h1).bind fun p3 => (fM_laysBack2 p3.2).bind fun h5 => if p3.1 = 1 then fM_isFound_32 (nI i) gfu 1 0 h5 else fM_isFound_32 (nI i) gfu 0 0 h5 := by
    unfold fM_isFound fM_isFound_23
    show ((fM_laysAside2 h).bind fun h1 => (fM_searched (nI (k / 3)) (nI (k % 3)) (0 : Int32) (0 : Int32) (100 : Int32) h1).bind fun p3 => _) = ((fM_laysAside2 h).bind fun h1 => (fM_searched (nI (k / 3)) (nI (k % 3)) (0 : Int32) (0 : Int32) (100 : Int32) h1).bind fun p3 => _)
    refine congrArg _ (funext fun h1 => congrArg _ (funext fun p3 => ?_))
    by_cases c : p3.1 = 1
    · rw [if_pos c]; refine congrArg _ (funext fun h5 => ?_); rw [if_pos c]
    · rw [if_neg c]; refine congrArg _ (funext fun h5 => ?_); rw [if_neg c]
  rw [e]
  have fd := go_fnd S (KI_PI W.2.1) W.2.1.2.1 (k / 3) (k % 3) 100 false
  refine M_whole (ch := k / 3) (pk := k % 3) (ln := false) (al := false) (mo := 100) H W (by omega) (by omega) (by decide) (K := fun p h5 => if p = 1 then fM_isFound_32 (nI i) gfu 1 0 h5 else fM_isFound_32 (nI i) gfu 0 0 h5) (fun h2 H2 o => ?_)
  unfold tfnd
  generalize s_go S S.2.1.1 (k / 3) (k % 3) 100 false false = r at o fd
  obtain ⟨o1, o2, o3, o4, o5⟩ := o
  have x0 := fnd32a (i := i) (h := h2) 8 0 gfu rfl (by unfold gfu; omega)
  rw [nI_0] at x0
  rcases fd.2.2 with r0 | r1 | r2
  · rw [decide_eq_false (show ¬ r.1 = 1 by rw [r0]; decide), Bool.false_and, r0]
    refine Sp_neg (by decide) ?_
    rw [x0]; exact Sp_some ⟨rfl, H2⟩
  · rw [decide_eq_true r1, Bool.true_and, r1]
    refine Sp_pos (by decide) ?_
    have x1 := fnd32b hi (sol := r.2.2.2.2.2) (fun x hx => o5 (by rw [fd.1.1 r1]; decide) x hx) (msh106 H2 hi q n8) 8 0 gfu rfl (by unfold gfu; omega)
    rw [nI_0] at x1
    rw [x1]; exact Sp_some ⟨rfl, H2⟩
  · rw [decide_eq_false (show ¬ r.1 = 1 by rw [r2]; decide), Bool.false_and, r2]
    refine Sp_neg (by decide) ?_
    rw [x0]; exact Sp_some ⟨rfl, H2⟩
theorem mt183 {S : qW} {f : Nat → Int32} (ht : tall f 8 0 = true) {i : Nat} (hi : i < 4) {h : gH} (hd : ∀ x, x < 8 → h 66 x = mkn 10 (S.2.1.1.1 x)) (hf : ∀ j, j < 8 → h 106 (40 * i + j) = f j) : ∀ (m k fu c : Nat), k + m = 8 → m < fu → c ≤ k → fM_tells_183 (nI i) 2 fu (nI c) (nI k) h = some (nI (tin (fun x => S.2.1.1.1 x (vN (f x))) m k c), h) := by
  intro m
  induction m with
  | zero =>
    intro k fu c hk hfu hc
    obtain ⟨fu, rfl⟩ : ∃ g, fu = g + 1 := ⟨fu - 1, by omega⟩
    have : k = 8 := by omega
    subst this
    unfold fM_tells_183
    rw [if_neg (by decide)]; rfl
  | succ m ih =>
    intro k fu c hk hfu hc
    obtain ⟨fu, rfl⟩ : ∃ g, fu = g + 1 := ⟨fu - 1, by omega⟩
    obtain ⟨t1, t2⟩ := tall_v ht (show k < 8 by omega)
    unfold fM_tells_183 tin
    rw [if_pos (nltT (show k < 8 by omega) (by decide)), if_pos rfl, gg_t (gin_t (by omega) (by omega)), nmul_r, nI_add, gg_t (gin_t (by omega) (by omega)), clampn (show k < 2 ^ 31 by omega), clampn (show 40 * i + k < 2 ^ 31 by omega), hd k (by omega), hf k (by omega), t2, mkn_test (by decide) t1, vN_nI (by omega), nadd_l k 1]
    have e : (nI c + if S.2.1.1.1 k (vN (f k)) = true then (1 : Int32) else 0) = nI (c + n1 (S.2.1.1.1 k (vN (f k)))) := by
      unfold n1
      cases S.2.1.1.1 k (vN (f k)) with
      | false => exact Int32.add_zero _
      | true => exact nadd_l c 1
    rw [e]
    refine ih (k + 1) fu _ (by omega) (by omega) ?_
    have : n1 (S.2.1.1.1 k (vN (f k))) ≤ 1 := by unfold n1; split <;> omega
    omega
theorem mt183n {v1 v2 a : Int32} (h2 : ¬ v2 = 2) {h : gH} : fM_tells_183 v1 v2 gfu a 0 h = some (a, h) := by
  unfold gfu fM_tells_183
  rw [if_pos (by decide), if_neg h2]
theorem or_shl0 (a b : Int32) : a ||| ((0 : Int32) <<< b) = a := by rw [Int32.zero_shiftLeft, Int32.or_zero]
theorem mt139 {S : qW} (W : WI S) {f : Nat → Int32} (ht : tall f 8 0 = true) {i : Nat} (hi : i < 4) {h : gH} (H : BM h S) (hf : ∀ j, j < 8 → h 106 (40 * i + j) = f j) : ∀ (m k fu : Nat) (a : Int32), k + m = S.1.1 → m < fu → fM_tells_139 (nI i) 1 fu a (nI k) h = some (tor (fun r => !tso S f r) m k a, h) := by
  have h8 : h 65 8 = nI S.1.1 := H.1.1.1.2.2.2.1
  have h16 := W.1
  intro m
  induction m with
  | zero =>
    intro k fu a hk hfu
    obtain ⟨fu, rfl⟩ : ∃ g, fu = g + 1 := ⟨fu - 1, by omega⟩
    have : k = S.1.1 := by omega
    subst this
    unfold fM_tells_139 fM_tells_180
    rw [h8, if_neg (fun z => absurd ((nI_ltI (by omega) (by omega)).mp z) (Nat.lt_irrefl _))]
    exact mt183n (by decide)
  | succ m ih =>
    intro k fu a hk hfu
    obtain ⟨fu, rfl⟩ : ∃ g, fu = g + 1 := ⟨fu - 1, by omega⟩
    have hm := H.1.1.1.2.2.2.2.2.1 k (show k < S.1.1 by omega)
    have hm1 : h 68 k = mkn 8 (S.1.2.1 k) := hm.1
    have hT : TB h k (S.1.2.2.1 k) := hm.2.2.2.2.2
    unfold fM_tells_139 fM_tells_169 tor
    rw [h8, if_pos ((nI_ltI (by omega) (by omega)).mpr (show k < S.1.1 by omega)), if_pos rfl, mso ht hi (by omega) hm1 hT hf, Option.bind_some, or_shl0, nadd_l k 1]
    dsimp only
    cases c : tso S f k with
    | false =>
      rw [if_pos (show b2i false = 0 from rfl), if_pos (show (!false) = true from rfl)]
      exact ih (k + 1) fu _ (by omega) (by omega)
    | true =>
      rw [if_neg (show ¬ b2i true = 0 by decide), if_neg (show ¬ (!true) = true by decide)]
      exact ih (k + 1) fu _ (by omega) (by omega)
theorem mt139n {v1 v2 a : Int32} (h1 : ¬ v2 = 1) {h : gH} : fM_tells_139 v1 v2 gfu a 0 h = fM_tells_183 v1 v2 gfu a 0 h := by
  unfold gfu fM_tells_139 fM_tells_180
  by_cases c : (0 : Int32) < h 65 8
  · rw [if_pos c, if_neg h1]; rfl
  · rw [if_neg c]; rfl
theorem mt92 {S : qW} (W : WI S) {i : Nat} (hi : i < 4) (q : ¬ (S.2.2.2.2 i).1 = -1) (n8 : (S.2.2.2.2 i).2.1 = 8) : ∀ (m k fu : Nat) (a : Int32) (h : gH), k + m = 12 → m < fu → BM h S → Sp (fM_tells_92 (nI i) 0 fu a (nI k) h) (fun p => p.1 = tor (tfnd S (S.2.2.2.2 i).2.2) m k a ∧ BM p.2 S) := by
  intro m
  induction m with
  | zero =>
    intro k fu a h hk hfu H
    obtain ⟨fu, rfl⟩ : ∃ g, fu = g + 1 := ⟨fu - 1, by omega⟩
    have : k = 12 := by omega
    subst this
    unfold fM_tells_92 fM_tells_136
    refine Sp_neg (by decide) ?_
    rw [mt139n (by decide), mt183n (by decide)]
    exact Sp_some ⟨rfl, H⟩
  | succ m ih =>
    intro k fu a h hk hfu H
    obtain ⟨fu, rfl⟩ : ∃ g, fu = g + 1 := ⟨fu - 1, by omega⟩
    unfold fM_tells_92 fM_tells_125 tor
    refine Sp_pos (nltT (show k < 12 by omega) (by decide)) (Sp_pos rfl ?_)
    have dv := div3 (show k < 12 by omega)
    rw [dv.2, dv.1]
    refine Sp_bind (M_isFound H W hi q n8 (show k < 12 by omega)) (fun p _ g => ?_)
    obtain ⟨g1, g2⟩ := g
    rw [g1, or_shl0, nadd_l k 1]
    cases c : tfnd S (S.2.2.2.2 i).2.2 k with
    | false =>
      rw [if_neg (show ¬ false = true by decide)]
      exact Sp_pos rfl (ih (k + 1) fu a p.2 (by omega) (by omega) g2)
    | true =>
      rw [if_pos (show true = true from rfl)]
      exact Sp_neg (by decide) (ih (k + 1) fu _ p.2 (by omega) (by omega) g2)
theorem mt92n {v1 v2 a : Int32} (h0 : ¬ v2 = 0) {h : gH} : fM_tells_92 v1 v2 gfu a 0 h = fM_tells_139 v1 v2 gfu a 0 h := by
  unfold gfu fM_tells_92 fM_tells_136
  rw [if_pos (by decide), if_neg h0]; rfl
theorem mt50 {i : Nat} (hi : i < 4) {v2 : Int32} {f : Nat → Int32} {h : gH} (hf : ∀ j, j < 8 → h 106 (40 * i + j) = f j) : ∀ (m k fu : Nat), k + m = 8 → m < fu → fM_tells_50 (nI i) v2 fu (nI k) h = if tall f m k = true then fM_tells_92 (nI i) v2 gfu 0 0 h else some (-2, h) := by
  intro m
  induction m with
  | zero =>
    intro k fu hk hfu
    obtain ⟨fu, rfl⟩ : ∃ g, fu = g + 1 := ⟨fu - 1, by omega⟩
    have : k = 8 := by omega
    subst this
    unfold fM_tells_50
    rw [if_neg (by decide)]; rfl
  | succ m ih =>
    intro k fu hk hfu
    obtain ⟨fu, rfl⟩ : ∃ g, fu = g + 1 := ⟨fu - 1, by omega⟩
    unfold fM_tells_50 tall
    rw [if_pos (nltT (show k < 8 by omega) (by decide)), nmul_r, nI_add, gg_t (gin_t (by omega) (by omega)), clampn (by omega), hf k (by omega), fM_in_eq (n := 10) (by decide) (f k) h, Option.bind_some, nadd_l k 1]
    dsimp only
    cases c : vis 10 (f k) with
    | false =>
      rw [if_pos (show b2i false = 0 from rfl), Bool.false_and, if_neg (show ¬ false = true by decide)]
    | true =>
      rw [if_neg (show ¬ b2i true = 0 by decide), Bool.true_and]
      exact ih (k + 1) fu (by omega) (by omega)
theorem M_tells {h : gH} {S : qW} (H : BM h S) (W : WI S) (v1 v2 : Int32) : Sp (fM_tells v1 v2 h) (fun p => p.1 = s_tells S v1 v2 ∧ BM p.2 S) := by
  unfold fM_tells s_tells
  refine Sp_eq (mSheet_eq v1 h) ?_
  dsimp only
  rcases vin_cases 4 (by decide) v1 with ⟨i, hi, e1, e⟩ | ⟨e, -⟩
  · subst e1
    rw [e, vis_nI hi (by decide)]
    dsimp only
    refine Sp_neg (by decide) (Sp_eq (fM_in_eq (n := 3) (by decide) v2 h) ?_)
    dsimp only
    cases c : vis 3 v2 with
    | false =>
      rw [if_pos (show false = false from rfl)]
      exact Sp_pos rfl (Sp_some ⟨rfl, H⟩)
    | true =>
      obtain ⟨w, hw, e2⟩ := vis_some (by decide) c
      subst e2
      rw [if_neg (show ¬ true = false by decide)]
      refine Sp_neg (by decide) (Sp_gg (gin_t hi (by omega)) ?_)
      obtain ⟨z1, z2⟩ := H.2.2.2.1 i hi
      have hs := W.2.2.2.2.2.2 i hi
      rw [clampn (show i < 2 ^ 31 by omega)]
      by_cases q : (S.2.2.2.2 i).1 = -1
      · rw [if_pos q]
        exact Sp_pos (by rw [z1, decide_eq_true q]; rfl) (Sp_some ⟨rfl, H⟩)
      · rw [if_neg q]
        refine Sp_neg (by rw [z1, decide_eq_false q]; decide) (Sp_gg (gin_t hi (by omega)) ?_)
        obtain ⟨-, z3, -⟩ := z2 q
        by_cases n8 : (S.2.2.2.2 i).2.1 = 8
        · rw [if_pos n8]
          refine Sp_pos (by rw [z3, n8]; rfl) ?_
          have hf := msh106 H hi q n8
          have x0 := mt50 hi (v2 := nI w) hf 8 0 gfu rfl (by unfold gfu; omega)
          rw [nI_0] at x0
          rw [x0]
          cases ct : tall (S.2.2.2.2 i).2.2 8 0 with
          | false =>
            rw [if_pos (show false = false from rfl), if_neg (show ¬ false = true by decide)]
            exact Sp_some ⟨rfl, H⟩
          | true =>
            rw [if_neg (show ¬ true = false by decide), if_pos (show true = true from rfl)]
            have w3 : w = 0 ∨ w = 1 ∨ w = 2 := by omega
            rcases w3 with e | e | e <;> subst e
            · rw [if_pos (show nI 0 = 0 from rfl)]
              have x2 := mt92 W hi q n8 12 0 gfu 0 h rfl (by unfold gfu; omega) H
              rw [nI_0] at x2
              exact x2
            · rw [if_neg (show ¬ nI 1 = 0 by decide), if_pos (show nI 1 = 1 from rfl), mt92n (by decide)]
              have x2 := mt139 W ct hi H hf S.1.1 0 gfu 0 (Nat.zero_add _) (by have := W.1; unfold gfu; omega)
              rw [nI_0] at x2
              rw [show nI 1 = 1 from rfl, x2]
              exact Sp_some ⟨rfl, H⟩
            · rw [if_neg (show ¬ nI 2 = 0 by decide), if_neg (show ¬ nI 2 = 1 by decide), mt92n (by decide), mt139n (by decide)]
              have x2 := mt183 ct hi (S := S) (f := (S.2.2.2.2 i).2.2) (h := h) (fun x hx => H.1.1.2.1.1 x hx) hf 8 0 gfu 0 rfl (by unfold gfu; omega) (Nat.le_refl _)
              rw [nI_0] at x2
              rw [show nI 2 = 2 from rfl, x2]
              exact Sp_some ⟨rfl, H⟩
        · rw [if_neg n8]
          exact Sp_neg (fun z => n8 ((nI_eq (b := 8) (by omega) (by decide)).mp (z3.symm.trans z))) (Sp_some ⟨rfl, H⟩)
  · rw [e, vis_none e]
    exact Sp_pos rfl (Sp_some ⟨rfl, H⟩)
