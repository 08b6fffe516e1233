/-- the component's learned rule r: variables vs, values pv -/
def XNr (h : gH) (r : Nat) (vs : Nat → Bool) (pv : Nat → Nat) : Prop :=
  h 3 r = mkn 8 vs ∧ (∀ x, x < 8 → h 8 (8 * (r - 16) + x) = mkn 10 (fun v => vs x && decide (v = pv x))) ∧ ∀ x, x < 8 → vs x = true → pv x < 10
theorem setd_iff (D : Nat → Nat → Bool) (pv : Nat → Nat) (y : Nat) : mkn 10 (fun v => decide (v = pv y)) = mkn 10 (D y) ↔ setd D pv y = true := by
  unfold setd
  rw [Bool.not_eq_true', qany_f]
  constructor
  · intro h v hv
    have := mkn_inj (by omega) h v hv
    rw [← this]; cases decide (v = pv y) <;> rfl
  · intro h
    refine mkn_congr (fun v hv => ?_)
    have := h v hv
    revert this
    cases D y v <;> cases decide (v = pv y) <;> simp
theorem aln_iff (vs : Nat → Bool) (pv : Nat → Nat) (D : Nat → Nat → Bool) (u : Nat) : aln vs pv D u = true ↔ ∀ i, i < 8 → ((vs i && !setd D pv i) && !decide (i = u)) = false := by
  unfold aln
  rw [List.all_eq_true]
  constructor
  · intro h i hi
    have := h i (List.mem_range.mpr hi)
    revert this
    cases vs i <;> cases setd D pv i <;> cases decide (i = u) <;> simp
  · intro h i hi
    have := h i (List.mem_range.mp hi)
    revert this
    cases vs i <;> cases setd D pv i <;> cases decide (i = u) <;> simp
theorem pair0 {vs : Nat → Bool} {pv : Nat → Nat} {x : Nat} (hp : vs x = true → pv x < 10) : mkn 10 (fun v => vs x && decide (v = pv x)) = 0 ↔ vs x = false := by
  rw [mkn10_0, qany_f]
  constructor
  · intro h
    cases hv : vs x with
    | false => rfl
    | true =>
      have := h (pv x) (hp hv)
      rw [hv] at this; simp at this
  · intro h v _; rw [h]; rfl
theorem sl71 {o j : Nat} (ho : gHall o) (hj : j < 8) {vs : Nat → Bool} {pv : Nat → Nat} {D : Nat → Nat → Bool} (hpv : ∀ x, x < 8 → vs x = true → pv x < 10) : ∀ (m k fu : Nat) (h : gH), k + m = 8 → m < fu → (∀ x, x < 8 → h (o + 1) x = mkn 10 (D x)) → (∀ x, x < 8 → h 8 (8 * j + x) = mkn 10 (fun v => vs x && decide (v = pv x))) → (∀ u, u < k → vs u = true → h (o + 2) u = mkn 10 (kpN vs pv D u)) →
    Sp (fR_siftLearned_71 o (nI (8 * j)) (nI (qcnt (fun y => vs y && !setd D pv y) 8)) fu (nI k) h) (fun h' => (∀ u, u < 8 → vs u = true → h' (o + 2) u = mkn 10 (kpN vs pv D u)) ∧ ∀ b, b ≠ o + 2 → h' b = h b) := by
  have ho8 : o + 2 ≠ 8 := by rcases ho with rfl | rfl | rfl | rfl <;> omega
  intro m
  induction m with
  | zero =>
    intro k fu h hk hfu hD hp hd
    obtain ⟨fu, rfl⟩ : ∃ f, fu = f + 1 := ⟨fu - 1, by omega⟩
    have hk : k = 8 := by omega
    subst hk
    unfold fR_siftLearned_71
    exact Sp_neg (by decide) (Sp_some ⟨fun u hu hv => hd u hu hv, fun _ _ => rfl⟩)
  | succ m ih =>
    intro k fu h hk hfu hD hp hd
    obtain ⟨fu, rfl⟩ : ∃ f, fu = f + 1 := ⟨fu - 1, by omega⟩
    have hk8 : k < 8 := by omega
    have hcle := qcnt_le (fun y => vs y && !setd D pv y) 8
    unfold fR_siftLearned_71
    refine Sp_pos (nltT hk8 (by decide)) ?_
    rw [nI_add]
    refine Sp_gg (gin_t (by omega) (by omega)) (Sp_gg (gin_t (by omega) (by omega)) ?_)
    rw [clampn (by omega), clampn (by omega), hp k hk8, hD k hk8]
    -- writing anything where the rule has no variable, or the right thing where it has
    have go : ∀ s2 : Int32, (vs k = true → s2 = mkn 10 (kpN vs pv D k)) → Sp (fR_siftLearned_138 o (fR_siftLearned_71 o (nI (8 * j)) (nI (qcnt (fun y => vs y && !setd D pv y) 8)) fu) (nI (8 * j)) (nI (qcnt (fun y => vs y && !setd D pv y) 8)) (nI k) (nI k) s2 h) (fun h' => (∀ u, u < 8 → vs u = true → h' (o + 2) u = mkn 10 (kpN vs pv D u)) ∧ ∀ b, b ≠ o + 2 → h' b = h b) := by
      intro s2 hs2
      unfold fR_siftLearned_138
      refine Sp_gg (gin_t (by omega) (by omega)) (Sp_let ?_)
      rw [clampn (by omega), nadd_l]
      refine Sp_mono (ih (k + 1) fu _ (by omega) (by omega) (fun x hx => ?_) (fun x hx => ?_) (fun u hu hv => ?_)) ?_
      · rw [hu_o _ _ _ _ _ (by omega)]; exact hD x hx
      · rw [hu_o _ _ _ _ _ ho8.symm]; exact hp x hx
      · by_cases e : u = k
        · subst e; rw [hu_same]; exact hs2 hv
        · rw [hu_k _ _ _ _ e]; exact hd u (by omega) hv
      · rintro h' ⟨a1, a2⟩
        exact ⟨a1, fun b hb => (a2 b hb).trans (hu_ne hb)⟩
    have ev0 : vs k = true → aln vs pv D k = true → mkn 10 (D k) &&& (mkn 10 (fun v => vs k && decide (v = pv k)) ^^^ (-1)) = mkn 10 (kpN vs pv D k) := fun hv ha => by
      rw [mkn_dif (by omega)]
      exact mkn_congr (fun v _ => by unfold kpN; rw [hv, ha])
    have ev1 : aln vs pv D k = false → mkn 10 (D k) = mkn 10 (kpN vs pv D k) := fun ha => mkn_congr (fun v _ => by unfold kpN; rw [ha]; simp)
    have l104 : ∀ s0 : Int32, (vs k = true → (s0 = 0 ↔ aln vs pv D k = true)) → Sp (fR_siftLearned_104 o (fR_siftLearned_71 o (nI (8 * j)) (nI (qcnt (fun y => vs y && !setd D pv y) 8)) fu) (nI (8 * j)) (nI (qcnt (fun y => vs y && !setd D pv y) 8)) (nI k) s0 h) (fun h' => (∀ u, u < 8 → vs u = true → h' (o + 2) u = mkn 10 (kpN vs pv D u)) ∧ ∀ b, b ≠ o + 2 → h' b = h b) := by
      intro s0 hs
      unfold fR_siftLearned_104
      refine Sp_if (fun q => ?_) (fun q => ?_)
      · rw [nI_add]
        refine Sp_gg (gin_t (by omega) (by omega)) (Sp_gg (gin_t (by omega) (by omega)) ?_)
        rw [clampn (by omega), clampn (by omega), hp k hk8, hD k hk8]
        exact go _ (fun hv => ev0 hv ((hs hv).mp q))
      · refine Sp_gg (gin_t (by omega) (by omega)) ?_
        rw [clampn (by omega), hD k hk8]
        exact go _ (fun hv => ev1 (by
          cases ha : aln vs pv D k with
          | false => rfl
          | true => exact absurd ((hs hv).mpr ha) q))
    have hz : ∀ n : Nat, n ≤ 8 → (nI n = 0 ↔ n = 0) := fun n hn => nI_eq (a := n) (b := 0) (by omega) (by decide)
    refine Sp_if (fun q => ?_) (fun q => ?_)
    · refine l104 _ (fun hv => ?_)
      rw [hv] at q
      simp only [Bool.true_and] at q
      rw [setd_iff] at q
      rw [hz _ hcle, qcnt_0, aln_iff]
      constructor
      · intro g i hi; rw [g i hi]; rfl
      · intro g i hi
        have := g i hi
        by_cases e : i = k
        · subst e; rw [q]; simp
        · simpa [e] using this
    · refine l104 _ (fun hv => ?_)
      rw [hv] at q
      simp only [Bool.true_and] at q
      rw [setd_iff] at q
      have hg : (fun y => vs y && !setd D pv y) k = true := by
        show (vs k && !setd D pv k) = true
        rw [hv]; simpa using q
      have hdel := qcnt_del (fun y => vs y && !setd D pv y) k hg 8 hk8
      rw [← hdel, nsub_l (by omega)]
      show nI (qcnt (fun i => (vs i && !setd D pv i) && !decide (i = k)) 8 + 1 - 1) = 0 ↔ _
      rw [Nat.add_sub_cancel, hz _ (by omega), qcnt_0, aln_iff]
theorem sl15 {o j : Nat} (ho : gHall o) (hj : j < 8) {vs : Nat → Bool} {pv : Nat → Nat} {D : Nat → Nat → Bool} {h : gH} (hpv : ∀ x, x < 8 → vs x = true → pv x < 10) (hD : ∀ x, x < 8 → h (o + 1) x = mkn 10 (D x)) (hp : ∀ x, x < 8 → h 8 (8 * j + x) = mkn 10 (fun v => vs x && decide (v = pv x))) : ∀ (m k fu : Nat), k + m = 8 → m < fu →
    Sp (fR_siftLearned_15 o (nI (8 * j)) fu (nI (qcnt (fun y => vs y && !setd D pv y) k)) (nI k) h) (fun h' => (∀ u, u < 8 → vs u = true → h' (o + 2) u = mkn 10 (kpN vs pv D u)) ∧ ∀ b, b ≠ o + 2 → h' b = h b) := by
  intro m
  induction m with
  | zero =>
    intro k fu hk hfu
    obtain ⟨fu, rfl⟩ : ∃ f, fu = f + 1 := ⟨fu - 1, by omega⟩
    have hk : k = 8 := by omega
    subst hk
    unfold fR_siftLearned_15
    exact Sp_neg (by decide) (sl71 ho hj hpv 8 0 gfu h (by omega) (by unfold gfu; omega) hD hp (fun u hu => by omega))
  | succ m ih =>
    intro k fu hk hfu
    obtain ⟨fu, rfl⟩ : ∃ f, fu = f + 1 := ⟨fu - 1, by omega⟩
    have hk8 : k < 8 := by omega
    have step := ih (k + 1) fu (by omega) (by omega)
    rw [qcnt] at step
    unfold fR_siftLearned_15
    refine Sp_pos (nltT hk8 (by decide)) ?_
    rw [nI_add]
    refine Sp_gg (gin_t (by omega) (by omega)) ?_
    rw [clampn (by omega), hp k hk8]
    have fin : ∀ b : Bool, b = (vs k && !setd D pv k) → Sp (fR_siftLearned_59 o (fR_siftLearned_15 o (nI (8 * j)) fu) (nI (8 * j)) (nI k) (nI (qcnt (fun y => vs y && !setd D pv y) k)) (b2i b) h) (fun h' => (∀ u, u < 8 → vs u = true → h' (o + 2) u = mkn 10 (kpN vs pv D u)) ∧ ∀ b, b ≠ o + 2 → h' b = h b) := by
      intro b hb
      unfold fR_siftLearned_59
      rw [nadd_l, hb]
      have : nI (qcnt (fun y => vs y && !setd D pv y) k) + b2i (vs k && !setd D pv k) = nI (qcnt (fun y => vs y && !setd D pv y) k + if (vs k && !setd D pv k) = true then 1 else 0) := by
        cases (vs k && !setd D pv k)
        · exact nadd_l _ 0
        · exact nadd_l _ 1
      rw [this]; exact step
    refine Sp_if (fun q => ?_) (fun q => ?_)
    · rw [pair0 (hpv k hk8)] at q
      unfold fR_siftLearned_58
      exact fin false (by rw [q]; rfl)
    · have hv : vs k = true := by
        cases hv : vs k with
        | true => rfl
        | false => exact absurd ((pair0 (hpv k hk8)).mpr hv) q
      refine Sp_gg (gin_t (by omega) (by omega)) (Sp_gg (gin_t (by omega) (by omega)) ?_)
      rw [clampn (by omega), hD k hk8]
      refine Sp_if (fun q2 => ?_) (fun q2 => ?_)
      · rw [hv] at q2
        simp only [Bool.true_and] at q2
        rw [setd_iff] at q2
        unfold fR_siftLearned_58
        exact fin false (by rw [hv, q2]; rfl)
      · rw [hv] at q2
        simp only [Bool.true_and] at q2
        rw [setd_iff] at q2
        refine fin true ?_
        rw [hv]
        cases hs : setd D pv k with
        | false => rfl
        | true => exact absurd hs q2
theorem siftL_sp {o j : Nat} (ho : gHall o) (hj : j < 8) {vs : Nat → Bool} {pv : Nat → Nat} {D : Nat → Nat → Bool} {h : gH} (hR : XNr h (16 + j) vs pv) (hD : ∀ x, x < 8 → h (o + 1) x = mkn 10 (D x)) :
    Sp (fR_siftLearned o (nI (16 + j)) h) (fun h' => (∀ u, u < 8 → vs u = true → h' (o + 2) u = mkn 10 (kpN vs pv D u)) ∧ ∀ b, b ≠ o + 2 → h' b = h b) := by
  unfold fR_siftLearned
  rw [nsub_l (show 16 ≤ 16 + j by omega), nmul_l, show (16 + j - 16) * 8 = 8 * j by omega]
  have hp := hR.2.1
  rw [show 16 + j - 16 = j by omega] at hp
  exact sl15 ho hj hR.2.2 hD hp 8 0 gfu (by omega) (by unfold gfu; omega)

