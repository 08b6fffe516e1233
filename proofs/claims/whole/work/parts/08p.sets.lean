/-! sets as numbers; how many are in one; the i-th of one -/
theorem nI_bv (k : Nat) : (nI k).toBitVec = BitVec.ofNat 32 k := rfl
theorem mkn_nat {n : Nat} (hn : n ≤ 32) (f : Nat → Bool) : ∃ k, k < 2 ^ n ∧ mkn n f = nI k ∧ ∀ i, k.testBit i = (decide (i < n) && f i) := by
  refine ⟨(mkn n f).toBitVec.toNat, ?_, ?_, fun i => ?_⟩
  · refine Nat.lt_pow_two_of_testBit _ (fun i hi => ?_)
    have := bt_mkn hn f i
    unfold bt at this
    rw [BitVec.testBit_toNat, this, decide_eq_false (by omega)]; rfl
  · refine Int32.toBitVec_inj.mp ?_
    rw [nI_bv]
    simp
  · have := bt_mkn hn f i
    unfold bt at this
    rw [BitVec.testBit_toNat, this]
theorem qcnt_congr {f g : Nat → Bool} : ∀ k, (∀ i, i < k → f i = g i) → qcnt f k = qcnt g k := by
  intro k
  induction k with
  | zero => intro _; rfl
  | succ k ih => intro h; rw [qcnt, qcnt, ih (fun i hi => h i (by omega)), h k (by omega)]
theorem qcnt_more {f : Nat → Bool} {n : Nat} : ∀ m, (∀ i, n ≤ i → f i = false) → qcnt f (n + m) = qcnt f n := by
  intro m
  induction m with
  | zero => intro _; rfl
  | succ m ih => intro h; rw [← Nat.add_assoc, qcnt, ih h, h (n + m) (by omega)]; rfl
def bc (v : Int32) : Int32 := match fJ_bitCount v (fun _ _ => 0) with
  | some p => p.1
  | none => 0
theorem bitCount_eq (v : Int32) (h : gH) : fJ_bitCount v h = some (bc v, h) := rfl
theorem bc10 : ∀ k, k < 1024 → bc (nI k) = nI (qcnt k.testBit 10) := by decide +kernel
theorem bc_mkn {n : Nat} (hn : n ≤ 10) (f : Nat → Bool) : bc (mkn n f) = nI (qcnt f n) := by
  obtain ⟨k, h1, h2, h3⟩ := mkn_nat (show n ≤ 32 by omega) f
  have hk : k < 1024 := Nat.lt_of_lt_of_le h1 (Nat.pow_le_pow_right (by omega) hn)
  rw [h2, bc10 k hk]
  congr 1
  have : qcnt k.testBit (n + (10 - n)) = qcnt k.testBit n := qcnt_more _ (fun i hi => by rw [h3, decide_eq_false (by omega)]; rfl)
  rw [show n + (10 - n) = 10 by omega] at this
  rw [this]
  exact qcnt_congr n (fun i hi => by rw [h3, decide_eq_true hi]; rfl)
theorem clr10 : ∀ k, k < 1024 → k ≠ 0 → (nI k &&& (nI k - 1)) = nI (k &&& (k - 1)) ∧ qcnt (k &&& (k - 1)).testBit 10 + 1 = qcnt k.testBit 10 ∧ k &&& (k - 1) < 1024 := by decide +kernel
theorem bits_loop (h : gH) : ∀ (m k c fu : Nat), qcnt k.testBit 10 = m → k < 1024 → m < fu → fM_bitsOf_4 fu (nI c) (nI k) h = some (nI (c + m), h) := by
  intro m
  induction m with
  | zero =>
    intro k c fu hm hk hfu
    obtain ⟨fu, rfl⟩ : ∃ f, fu = f + 1 := ⟨fu - 1, by omega⟩
    have h0 : k = 0 := by
      apply Classical.byContradiction
      intro q
      have := (clr10 k hk q).2.1
      omega
    subst h0
    unfold fM_bitsOf_4
    rw [if_pos (show nI 0 = (0 : Int32) from rfl), Nat.add_zero]
  | succ m ih =>
    intro k c fu hm hk hfu
    obtain ⟨fu, rfl⟩ : ∃ f, fu = f + 1 := ⟨fu - 1, by omega⟩
    have h0 : k ≠ 0 := fun z => by subst z; simp [qcnt] at hm
    obtain ⟨c1, c2, c3⟩ := clr10 k hk h0
    unfold fM_bitsOf_4
    rw [if_neg (show ¬ nI k = (0 : Int32) from fun z => h0 ((nI_eq (a := k) (b := 0) (by omega) (by decide)).mp z)), c1, nadd_l, ih _ _ _ (by omega) c3 (by omega)]
    congr 3; omega
theorem bitsOf_mkn {n : Nat} (hn : n ≤ 10) (f : Nat → Bool) (h : gH) : fM_bitsOf (mkn n f) h = some (nI (qcnt f n), h) := by
  obtain ⟨k, h1, h2, h3⟩ := mkn_nat (show n ≤ 32 by omega) f
  have hk : k < 1024 := Nat.lt_of_lt_of_le h1 (Nat.pow_le_pow_right (by omega) hn)
  have e : qcnt f n = qcnt k.testBit 10 := by
    have : qcnt k.testBit (n + (10 - n)) = qcnt k.testBit n := qcnt_more _ (fun i hi => by rw [h3, decide_eq_false (by omega)]; rfl)
    rw [show n + (10 - n) = 10 by omega] at this
    rw [this]
    exact qcnt_congr n (fun i hi => by rw [h3, decide_eq_true hi]; rfl)
  unfold fM_bitsOf
  rw [h2, e]
  have := bits_loop h _ k 0 gfu rfl hk (by have := qcnt_le k.testBit 10; unfold gfu; omega)
  rw [Nat.zero_add] at this
  exact this
theorem vls_len (vs : Nat → Bool) : (vls vs).length = qcnt vs 8 := by
  have : ∀ n, ((List.range n).filter vs).length = qcnt vs n := by
    intro n
    induction n with
    | zero => rfl
    | succ n ih =>
      rw [List.range_succ, List.filter_append, List.length_append, ih, qcnt]
      cases h : vs n <;> simp [h]
  exact this 8
theorem variable_loop {vs : Nat → Bool} {i : Nat} (hi : i < 9) (h : gH) : ∀ (m x n fu : Nat), x + m = 8 → m < fu → n ≤ i → fM_variable_4 (mkn 8 vs) (nI i) fu (nI n) (nI x) h = some (oI ((rmv vs x m)[i - n]?), h) := by
  intro m
  induction m with
  | zero =>
    intro x n fu hx hfu hn
    obtain ⟨fu, rfl⟩ : ∃ f, fu = f + 1 := ⟨fu - 1, by omega⟩
    have hx : x = 8 := by omega
    subst hx
    unfold fM_variable_4
    rw [if_neg (by decide)]
    rfl
  | succ m ih =>
    intro x n fu hx hfu hn
    obtain ⟨fu, rfl⟩ : ∃ f, fu = f + 1 := ⟨fu - 1, by omega⟩
    have hx8 : x < 8 := by omega
    unfold fM_variable_4
    rw [if_pos (nltT hx8 (by decide)), mkn_test (by omega) hx8, rmv_succ]
    cases hv : vs x with
    | false =>
      rw [if_neg (by simp), nadd_l, ih (x + 1) n fu (by omega) (by omega) hn]
      simp
    | true =>
      rw [if_pos (by simp), if_pos rfl]
      by_cases e : n = i
      · subst e
        rw [if_pos rfl, Nat.sub_self]; rfl
      · rw [if_neg (fun z => e ((nI_eq (by omega) (by omega)).mp z)), nadd_l, nadd_l, ih (x + 1) (n + 1) fu (by omega) (by omega) (by omega)]
        rw [show i - n = (i - (n + 1)) + 1 by omega, List.getElem?_cons_succ]
theorem variable_eq {vs : Nat → Bool} {i : Nat} (hi : i < 9) (h : gH) : fM_variable (mkn 8 vs) (nI i) h = some (oI ((vls vs)[i]?), h) := by
  unfold fM_variable
  have := variable_loop hi h 8 0 0 gfu (vs := vs) (by omega) (by unfold gfu; omega) (by omega)
  rw [← vls_rmv, Nat.sub_zero] at this
  exact this
/-- the domain of the i-th variable; of one that there isn't just 0 -/
def dvr (vs : Nat → Bool) (D : Nat → Nat → Bool) (i : Nat) : Nat → Bool := match (vls vs)[i]? with
  | none => one8
  | some u => D u
theorem domainAt_eq {r i : Nat} (hr : r < 24) (hi : i < 9) {h : gH} {vs : Nat → Bool} {D : Nat → Nat → Bool} (hs : h 68 r = mkn 8 vs) (hD : ∀ x, x < 8 → h 66 x = mkn 10 (D x)) : fM_domainAt (nI r) (nI i) h = some (mkn 10 (dvr vs D i), h) := by
  unfold fM_domainAt gg
  rw [if_pos (gin_t hr (by omega)), clampn (by omega), hs, variable_eq hi]
  unfold dvr
  cases hv : (vls vs)[i]? with
  | none =>
    show (if (-1 : Int32) = -1 then some ((1 : Int32), h) else if gin (-1) 8 = true then some (h 66 (-1 : Int32).toNatClampNeg, h) else none) = _
    rw [if_pos rfl]
    show some ((1 : Int32), h) = some (mkn 10 one8, h)
    rw [show (1 : Int32) = mkn 10 one8 by decide +kernel]
  | some u =>
    have hu := ((mem_vls vs u).mp (List.mem_of_getElem? hv)).1
    show (if nI u = (-1 : Int32) then _ else (if gin (nI u) 8 = true then some (h 66 (nI u).toNatClampNeg, h) else none)) = _
    rw [if_neg (neq_m1 (by omega)), if_pos (gin_t hu (by omega)), clampn (by omega), hD u hu]
theorem Sp_eq {α β : Type} {o : Option α} {x : α} {f : α → Option β} {Q : β → Prop} (e : o = some x) (k : Sp (f x) Q) : Sp (o.bind f) Q := by rw [e]; exact k
theorem through7 {r : Nat} (hr : r < 24) {Q : gH → Prop} : ∀ (m k fu : Nat) (h : gH), k + m = 3 → m < fu → (∀ i, i < k → h 81 i = 0) →
    (∀ h1, (∀ b, b ≠ 81 → h1 b = h b) → (∀ i, i < 3 → h1 81 i = 0) → ∀ fu2, Sp (fM_goesThrough_7 (nI r) (fu2 + 1) (nI 3) h1) Q) → Sp (fM_goesThrough_7 (nI r) fu (nI k) h) Q := by
  intro m
  induction m with
  | zero =>
    intro k fu h hk hfu hz hend
    obtain ⟨fu, rfl⟩ : ∃ f, fu = f + 1 := ⟨fu - 1, by omega⟩
    have hk : k = 3 := by omega
    subst hk
    exact hend h (fun _ _ => rfl) hz fu
  | succ m ih =>
    intro k fu h hk hfu hz hend
    obtain ⟨fu, rfl⟩ : ∃ f, fu = f + 1 := ⟨fu - 1, by omega⟩
    unfold fM_goesThrough_7
    refine Sp_pos (nltT (show k < 3 by omega) (by decide)) (Sp_gg (gin_t (by omega) (by omega)) (Sp_let ?_))
    rw [clampn (by omega), nadd_l]
    refine ih (k + 1) fu _ (by omega) (by omega) (fun i hi => ?_) (fun h1 a1 a2 fu2 => ?_)
    · by_cases e : i = k
      · subst e; rw [hu_same]
      · rw [hu_k _ _ _ _ e]; exact hz i (by omega)
    · exact hend h1 (fun b hb => (a1 b hb).trans (hu_ne hb)) a2 fu2
/-- how many ways there are -/
def nways (d0 d1 d2 : Nat → Bool) (T : Nat → Nat → Nat → Bool) : Nat := qsm (fun x => if d0 x then qsm (nyz d1 d2 T x) 0 10 else 0) 0 10
theorem through_sp {r : Nat} (hr : r < 16) {h : gH} {vs : Nat → Bool} {D : Nat → Nat → Bool} {T : Nat → Nat → Nat → Bool} (hs : h 68 r = mkn 8 vs) (hD : ∀ x, x < 8 → h 66 x = mkn 10 (D x)) (hT : TB h r T) :
    Sp (fM_goesThrough (nI r) h) (fun h' => wfr h h' ∧ wpic h' (sA0 (dvr vs D 0) (dvr vs D 1) (dvr vs D 2) T) (sA1 (dvr vs D 0) (dvr vs D 1) (dvr vs D 2) T) (sA2 (dvr vs D 0) (dvr vs D 1) (dvr vs D 2) T) (nways (dvr vs D 0) (dvr vs D 1) (dvr vs D 2) T)) := by
  unfold fM_goesThrough
  refine Sp_let (through7 (by omega) 3 0 gfu _ (by omega) (by unfold gfu; omega) (fun i hi => by omega) (fun h1 a1 a2 fu2 => ?_))
  unfold fM_goesThrough_7
  refine Sp_neg (by decide) ?_
  have w1 : wfr h h1 := ⟨fun b hb1 hb2 => (a1 b hb2).trans (hu_ne hb1), fun k hk => by rw [a1 65 (by omega), hu_k _ _ _ _ hk]⟩
  have hs1 : h1 68 r = mkn 8 vs := by rw [w1.1 68 (by omega) (by omega)]; exact hs
  have hD1 : ∀ x, x < 8 → h1 66 x = mkn 10 (D x) := fun x hx => by rw [w1.1 66 (by omega) (by omega)]; exact hD x hx
  have e0 := domainAt_eq (i := 0) (show r < 24 by omega) (by omega) hs1 hD1
  have e1 := domainAt_eq (i := 1) (show r < 24 by omega) (by omega) hs1 hD1
  have e2 := domainAt_eq (i := 2) (show r < 24 by omega) (by omega) hs1 hD1
  refine Sp_eq e0 (Sp_eq e1 (Sp_eq e2 ?_))
  have p1 : wpic h1 (fun _ => false) (fun _ => false) (fun _ => false) 0 := ⟨by rw [a2 0 (by omega)]; exact mkn_0 10 (by omega), by rw [a2 1 (by omega)]; exact mkn_0 10 (by omega), by rw [a2 2 (by omega)]; exact mkn_0 10 (by omega), by rw [a1 65 (by omega), hu_same]; rfl⟩
  refine Sp_mono (loop50 hr 10 0 gfu h1 _ _ _ 0 (by omega) (by unfold gfu; omega) (TB_fr w1 hT) p1) ?_
  rintro h2 ⟨w2, p2⟩
  refine ⟨wfr_tr w1 w2, wpic_congr p2 (fun i _ => ?_) (fun i _ => ?_) (fun i _ => ?_) ?_⟩
  · simp
  · simp [sA1]
  · simp [sA2]
  · rw [Nat.zero_add]; rfl
