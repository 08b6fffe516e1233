/-! the class reckons its steps -/
def EVs (c : List Int32) (f : qX) : Prop := 0 < c.length ∧ ∀ (h : gH) (a s fu L : Nat) (Q : Int32 × gH → Prop), ST h a c → h 10 9 = nI L → a + c.length ≤ L → L ≤ 90 → s ≤ a → (∀ h1, h1 16 s = f (h 9) → (∀ i, i < s → h1 16 i = h 16 i) → (∀ b, b ≠ 16 → h1 b = h b) → Sp (fT_testHolds_4 fu (nI (s + 1)) (nI (a + c.length)) h1) Q) → Sp (fT_testHolds_4 (fu + c.length) (nI s) (nI a) h) Q
theorem ST_l {h : gH} {a : Nat} {l1 l2 : List Int32} (H : ST h a (l1 ++ l2)) : ST h a l1 := fun i hi => by
  have := H i (by rw [List.length_append]; omega)
  rw [List.getD_eq_getElem?_getD, List.getElem?_append_left hi, ← List.getD_eq_getElem?_getD] at this
  exact this
theorem ST_r {h : gH} {a : Nat} {l1 l2 : List Int32} (H : ST h a (l1 ++ l2)) : ST h (a + l1.length) l2 := fun i hi => by
  have := H (l1.length + i) (by rw [List.length_append]; omega)
  rw [List.getD_eq_getElem?_getD, List.getElem?_append_right (by omega), ← List.getD_eq_getElem?_getD, show l1.length + i - l1.length = i by omega] at this
  rw [show a + l1.length + i = a + (l1.length + i) by omega]
  exact this
theorem ST_h {h h1 : gH} {a : Nat} {l : List Int32} (H : ST h a l) (e : h1 15 = h 15) : ST h1 a l := fun i hi => by rw [e]; exact H i hi
theorem ev_push {v : Int32} {f : qX} (hv : v < (10008 : Int32)) (st : ∀ (h : gH) (s fu : Nat) (a : Nat) (Q : Int32 × gH → Prop), s < 90 → Sp (fT_testHolds_63 (fT_testHolds_4 fu) (nI s) (nI a) (nI s) (f (h 9)) h) Q → Sp (if v < (10000 : Int32) then fT_testHolds_63 (fT_testHolds_4 fu) (nI s) (nI a) (nI s) v h else gg (gin (v - (10000 : Int32)) 9) (fT_testHolds_63 (fT_testHolds_4 fu) (nI s) (nI a) (nI s) (h 9 (v - (10000 : Int32)).toNatClampNeg) h)) Q) : EVs [v] f := by
  refine ⟨Nat.one_pos, fun h a s fu L Q H e9 hL hL90 hs hQ => ?_⟩
  have e15 : h 15 a = v := H 0 Nat.one_pos
  have hL : a + 1 ≤ L := hL
  show Sp (fT_testHolds_4 (fu + 1) (nI s) (nI a) h) Q
  unfold fT_testHolds_4
  refine Sp_pos (by rw [e9]; exact (nlt (by omega) (by omega)).mpr (by omega)) (Sp_gg (gin_t (by omega) (by omega)) ?_)
  rw [clampn (show a < 2 ^ 31 by omega), e15]
  refine Sp_pos hv (Sp_pos ((nI_ltI (b := 90) (by omega) (by decide)).mpr (by omega)) (st h s fu a Q (by omega) ?_))
  unfold fT_testHolds_63
  refine Sp_gg (gin_t (by omega) (by omega)) (Sp_let ?_)
  rw [nadd_l s 1, nadd_l a 1, clampn (by omega)]
  exact hQ _ (hu_same _ _ _ _) (fun i hi => hu_k _ _ _ _ (by omega)) (fun b hb => hu_ne hb)
theorem ev_num {x : Nat} (hx : x < 10000) : EVs [nI x] (fun _ => nI x) := by
  refine ev_push ((nI_ltI (b := 10008) (by omega) (by decide)).mpr (by omega)) (fun h s fu a Q hs k => ?_)
  exact Sp_pos ((nI_ltI (b := 10000) (by omega) (by decide)).mpr hx) k
theorem ev_var {v : Nat} (hv : v < 8) : EVs [nI (10000 + v)] (fun e => e v) := by
  refine ev_push ((nI_ltI (b := 10008) (by omega) (by decide)).mpr (by omega)) (fun h s fu a Q hs k => ?_)
  rw [show nI (10000 + v) - (10000 : Int32) = nI (10000 + v - 10000) from nsub (a := 10000 + v) (b := 10000) (by omega), show 10000 + v - 10000 = v by omega, clampn (by omega)]
  exact Sp_neg (nI_nlt (a := 10000 + v) (b := 10000) (by omega) (by omega)) (Sp_gg (gin_t (by omega) (by omega)) k)
theorem ev_neg {c : List Int32} {f : qX} (H : EVs c f) : EVs (c ++ [10008]) (fun e => - f e) := by
  obtain ⟨H0, H⟩ := H
  refine ⟨by rw [List.length_append]; omega, fun h a s fu L Q st e9 hL hL90 hs hQ => ?_⟩
  rw [List.length_append] at hL hQ ⊢
  have hL : a + (c.length + 1) ≤ L := hL
  show Sp (fT_testHolds_4 (fu + (c.length + 1)) (nI s) (nI a) h) Q
  rw [show fu + (c.length + 1) = (fu + 1) + c.length by omega]
  refine H h a s (fu + 1) L Q (ST_l st) e9 (by omega) hL90 hs (fun h1 v1 v2 v3 => ?_)
  have e15 : h1 15 (a + c.length) = 10008 := by rw [v3 15 (by decide)]; exact ST_r st 0 (by decide)
  unfold fT_testHolds_4
  rw [v3 10 (by decide), e9]
  refine Sp_pos ((nlt (by omega) (by omega)).mpr (by omega)) (Sp_gg (gin_t (by omega) (by omega)) ?_)
  rw [clampn (show a + c.length < 2 ^ 31 by omega), e15]
  refine Sp_neg (by decide) ?_
  unfold fT_testHolds_70
  rw [show nI (s + 1) - (1 : Int32) = nI s from nsub (a := s + 1) (b := 1) (by omega)]
  refine Sp_pos rfl (Sp_pos ((nI_ltI (a := 0) (by decide) (by omega)).mpr (by omega)) (Sp_gg (gin_t (by omega) (by omega)) (Sp_gg (gin_t (by omega) (by omega)) ?_)))
  rw [nadd_l _ 1, clampn (by omega), v1]
  exact hQ _ (hu_same _ _ _ _) (fun i hi => by rw [hu_k _ _ _ _ (by omega)]; exact v2 i hi) (fun b hb => by rw [hu_ne hb]; exact v3 b hb)
theorem ev_bin {c1 c2 : List Int32} {f1 f2 : qX} {op : Nat} (ho : op = 42 ∨ op = 43 ∨ op = 45) (H1 : EVs c1 f1) (H2 : EVs c2 f2) : EVs (c1 ++ (c2 ++ [nI (10100 + op)])) (fun e => if op = 43 then f1 e + f2 e else if op = 45 then f1 e - f2 e else f1 e * f2 e) := by
  obtain ⟨P1, H1⟩ := H1
  obtain ⟨P2, H2⟩ := H2
  refine ⟨by rw [List.length_append]; omega, fun h a s fu L Q st e9 hL hL90 hs hQ => ?_⟩
  rw [List.length_append, List.length_append] at hL hQ ⊢
  have hL : a + (c1.length + (c2.length + 1)) ≤ L := hL
  show Sp (fT_testHolds_4 (fu + (c1.length + (c2.length + 1))) (nI s) (nI a) h) Q
  rw [show fu + (c1.length + (c2.length + 1)) = ((fu + 1) + c2.length) + c1.length by omega]
  refine H1 h a s ((fu + 1) + c2.length) L Q (ST_l st) e9 (by omega) hL90 hs (fun h1 v1 v2 v3 => ?_)
  refine H2 h1 (a + c1.length) (s + 1) (fu + 1) L Q (ST_h (ST_l (ST_r st)) (v3 15 (by decide))) (by rw [v3 10 (by decide)]; exact e9) (by omega) hL90 (by omega) (fun h2 w1 w2 w3 => ?_)
  have e15 : h2 15 (a + c1.length + c2.length) = nI (10100 + op) := by rw [w3 15 (by decide), v3 15 (by decide)]; exact ST_r (ST_r st) 0 Nat.one_pos
  unfold fT_testHolds_4
  rw [w3 10 (by decide), v3 10 (by decide), e9]
  refine Sp_pos ((nlt (by omega) (by omega)).mpr (by omega)) (Sp_gg (gin_t (by omega) (by omega)) ?_)
  rw [clampn (show a + c1.length + c2.length < 2 ^ 31 by omega), e15]
  refine Sp_neg (nI_nlt (a := 10100 + op) (b := 10008) (by omega) (by omega)) ?_
  unfold fT_testHolds_70
  refine Sp_neg (fun z => absurd ((nI_eq (b := 10008) (by omega) (by omega)).mp z) (by omega)) ?_
  unfold fT_testHolds_102
  have m1 : nI (s + 1 + 1) + (-1 : Int32) = nI (s + 1) := by
    rw [show nI (s + 1 + 1) + (-1 : Int32) = nI (s + 1 + 1) - 1 by rw [Int32.sub_eq_add_neg]]
    exact nsub (a := s + 1 + 1) (b := 1) (by omega)
  rw [m1, show nI (s + 1) - (1 : Int32) = nI s from nsub (a := s + 1) (b := 1) (by omega)]
  refine Sp_pos ((nI_ltI (a := 10008) (by decide) (by omega)).mpr (by omega)) (Sp_pos ((nI_ltI (a := 1) (by decide) (by omega)).mpr (by omega)) (Sp_gg (gin_t (by omega) (by omega)) (Sp_gg (gin_t (by omega) (by omega)) ?_)))
  rw [clampn (show s < 2 ^ 31 by omega), clampn (show s + 1 < 2 ^ 31 by omega), w1, w2 s (by omega), v1, v3 9 (by decide), show nI (10100 + op) - (10100 : Int32) = nI (10100 + op - 10100) from nsub (a := 10100 + op) (b := 10100) (by omega), show 10100 + op - 10100 = op by omega, nadd_l _ 1]
  have fin : ∀ w : Int32, w = (if op = 43 then f1 (h 9) + f2 (h 9) else if op = 45 then f1 (h 9) - f2 (h 9) else f1 (h 9) * f2 (h 9)) → Sp ((some (w, h2) : Option (Int32 × gH)).bind fun p6 => gg (gin (nI s) 90) (glet (hu p6.2 16 s p6.1) fun h9 => fT_testHolds_4 fu (nI (s + 1)) (nI (a + c1.length + c2.length + 1)) h9)) Q := by
    intro w hw
    refine Sp_eq rfl (Sp_gg (gin_t (by omega) (by omega)) (Sp_let ?_))
    rw [show a + c1.length + c2.length + 1 = a + (c1.length + (c2.length + 1)) by omega]
    refine hQ _ ?_ (fun i hi => ?_) (fun b hb => ?_)
    · rw [hu_same]; exact hw
    · dsimp only
      rw [hu_k _ _ _ _ (by omega), w2 i (by omega)]; exact v2 i hi
    · dsimp only
      rw [hu_ne hb, w3 b hb]; exact v3 b hb
  unfold fT_joined
  rcases ho with rfl | rfl | rfl
  · rw [if_neg (show ¬ nI 42 = (43 : Int32) by decide), if_neg (show ¬ nI 42 = (45 : Int32) by decide)]
    exact fin _ rfl
  · rw [if_pos (show nI 43 = (43 : Int32) from rfl)]
    exact fin _ rfl
  · rw [if_neg (show ¬ nI 45 = (43 : Int32) by decide), if_pos (show nI 45 = (45 : Int32) from rfl)]
    exact fin _ rfl
theorem qnum_lt {T : qTp} : ∀ (m p a : Nat), (∀ i, p ≤ i → i < p + m → tdg (T.2 i) = true) → qnum T m p a < (a + 1) * 10 ^ m := by
  intro m
  induction m with
  | zero => intro p a _; show a < (a + 1) * 1; omega
  | succ m ih =>
    intro p a hd
    have d := hd p (by omega) (by omega)
    unfold tdg at d
    have d := of_decide_eq_true d
    have := ih (p + 1) (10 * a + (T.2 p - 48)) (fun i h1 h2 => hd i (by omega) (by omega))
    show qnum T m (p + 1) (10 * a + (T.2 p - 48)) < (a + 1) * 10 ^ (m + 1)
    refine Nat.lt_of_lt_of_le this ?_
    rw [Nat.pow_succ, Nat.mul_comm (10 ^ m) 10, ← Nat.mul_assoc]
    exact Nat.mul_le_mul_right _ (by omega)
theorem qvl_lt {T : qTp} {q : Nat} (k : qkd T q = 1) : qvl T q < 10000 := by
  have hq := qkd_lt (T := T) (q := q) (by omega)
  have qe := qend_gt hq
  unfold qkd at k
  rw [if_pos hq] at k
  by_cases cd : tdg (T.2 q) = true
  · rw [if_pos cd] at k
    have c4 : ¬ 4 < qend T q - q := fun z => by rw [if_pos z] at k; omega
    unfold qvl
    rw [if_pos cd]
    have ee : qend T q = rn (fun i => tdg (T.2 i)) (T.1 - (q + 1)) (q + 1) := by unfold qend; rw [if_pos cd]
    have := qnum_lt (T := T) (qend T q - q) q 0 (fun i h1 h2 => by
      by_cases e : i = q
      · rw [e]; exact cd
      · exact rn_all (fun i => tdg (T.2 i)) (T.1 - (q + 1)) (q + 1) i (by omega) (by rw [← ee]; omega))
    have h4 : qend T q - q = 1 ∨ qend T q - q = 2 ∨ qend T q - q = 3 ∨ qend T q - q = 4 := by omega
    rcases h4 with e | e | e | e <;> rw [e] at this ⊢ <;> omega
  · rw [if_neg cd] at k
    by_cases cs : tsm (T.2 q) = true
    · rw [if_pos cs] at k
      split at k
      · split at k <;> omega
      · split at k <;> omega
    · rw [if_neg cs] at k
      split at k
      · rename_i hg; have := tsg_le hg; omega
      · omega
/-- its steps come to its value -/
def PE (T : qTp) (f : pP) : Prop := ∀ q V, (f q V).1 = true → EVs (f q V).2.2.2.1 (f q V).2.2.2.2
theorem PE_no (T : qTp) : PE T (fun q V => pno q V) := fun q V z => by cases z
theorem PE_one {T : qTp} {dp : Bool} {neg sum : pP} (hn : PE T neg) (hs : PE T sum) : PE T (pOne T dp neg sum) := by
  intro q V
  by_cases k1 : qkd T q = 1
  · rw [pOne_1 k1]; intro _; exact ev_num (qvl_lt k1)
  by_cases k2 : qkd T q = 2
  · by_cases c : 3 < qcnt (padd V (qvl T q)) 8
    · rw [pOne_2b k2 c]; intro z; cases z
    · rw [pOne_2 k2 c]; intro _; exact ev_var (qvl8 k2)
  cases dp with
  | false => rw [pOne_f k1 k2]; intro z; cases z
  | true =>
    by_cases k3 : qkd T q = 45
    · rw [pOne_45 k3]; intro z; exact ev_neg (hn _ _ z)
    by_cases k4 : qkd T q = 40
    · by_cases c : (sum (qnt T q) V).1 = true ∧ qkd T (sum (qnt T q) V).2.1 = 41
      · rw [pOne_40 k4 c]; intro _; exact hs _ _ c.1
      · rw [pOne_40b k4 c]; intro z; cases z
    rw [pOne_x k1 k2 k3 k4]; intro z; cases z
theorem PE_ch {T : qTp} {p : Nat → Bool} (hp : ∀ k, p k = true → k = 42 ∨ k = 43 ∨ k = 45) {f : pP} (hf : PE T f) : ∀ (m : Nat) (r : pR), EVs r.2.2.2.1 r.2.2.2.2 → (pCh T p f m r).1 = true → EVs (pCh T p f m r).2.2.2.1 (pCh T p f m r).2.2.2.2 := by
  intro m
  induction m with
  | zero => intro r h _; exact h
  | succ m ih =>
    intro r h
    unfold pCh
    by_cases c : p (qkd T r.2.1) = true
    · rw [if_pos c]
      by_cases c2 : (f (qnt T r.2.1) r.2.2.1).1 = true
      · rw [if_pos c2]
        exact ih _ (ev_bin (hp _ c) h (hf _ _ c2))
      · rw [if_neg c2]; intro z; cases z
    · rw [if_neg c]; intro _; exact h
theorem PE_C {T : qTp} {p : Nat → Bool} (hp : ∀ k, p k = true → k = 42 ∨ k = 43 ∨ k = 45) {f : pP} (hf : PE T f) : PE T (pC T p f) := by
  intro q V
  unfold pC
  by_cases c : (f q V).1 = true
  · rw [if_pos c]; exact PE_ch hp hf 90 _ (hf q V c)
  · rw [if_neg c]; intro z; exact absurd z c
theorem PE_term {T : qTp} {f : pP} (hf : PE T f) : PE T (pTerm T f) := PE_C (fun k h => Or.inl (of_decide_eq_true h)) hf
theorem PE_sum {T : qTp} {f : pP} (hf : PE T f) : PE T (pSum T f) := PE_C (fun k h => Or.inr (by unfold s43 at h; simpa using h)) (PE_term hf)
theorem PE_lv (T : qTp) : ∀ k, PE T (pLv T k) := by
  intro k
  induction k with
  | zero => exact PE_one (PE_no T) (PE_no T)
  | succ k ih => exact PE_one ih (PE_sum ih)
theorem isSo_sp {h : gH} {k : Nat} (hk : isop k = true) (e : h 10 13 = nI k) (a b : Int32) : Sp (fT_isSo a b h) (fun p => p.1 = b2i (qcm k a b) ∧ p.2 = h) := by
  have ho : k = 60 ∨ k = 61 ∨ k = 62 ∨ k = 33 := by unfold isop at hk; simpa using hk
  unfold fT_isSo qcm
  rw [e]
  rcases ho with rfl | rfl | rfl | rfl
  · refine Sp_pos rfl (Sp_if (fun w => Sp_some ⟨?_, rfl⟩) (fun w => Sp_some ⟨?_, rfl⟩))
    · rw [if_pos rfl, decide_eq_true w]; rfl
    · rw [if_pos rfl, decide_eq_false w]; rfl
  · refine Sp_neg (by decide) (Sp_pos rfl (Sp_if (fun w => Sp_some ⟨?_, rfl⟩) (fun w => Sp_some ⟨?_, rfl⟩)))
    · rw [if_neg (by decide), if_pos rfl, decide_eq_true w]; rfl
    · rw [if_neg (by decide), if_pos rfl, decide_eq_false w]; rfl
  · refine Sp_neg (by decide) (Sp_neg (by decide) (Sp_pos rfl (Sp_if (fun w => Sp_some ⟨?_, rfl⟩) (fun w => Sp_some ⟨?_, rfl⟩))))
    · rw [if_neg (by decide), if_neg (by decide), if_pos rfl, decide_eq_true w]; rfl
    · rw [if_neg (by decide), if_neg (by decide), if_pos rfl, decide_eq_false w]; rfl
  · refine Sp_neg (by decide) (Sp_neg (by decide) (Sp_neg (by decide) (Sp_if (fun w => Sp_some ⟨?_, rfl⟩) (fun w => Sp_some ⟨?_, rfl⟩))))
    · rw [if_neg (by decide), if_neg (by decide), if_neg (by decide), decide_eq_true w]; rfl
    · rw [if_neg (by decide), if_neg (by decide), if_neg (by decide), decide_eq_false w]; rfl
/-- a test holds -/
theorem holds_sp {h : gH} {c1 c2 : List Int32} {f1 f2 : qX} {k : Nat} (H1 : EVs c1 f1) (H2 : EVs c2 f2) (st : ST h 0 (c1 ++ c2)) (e9 : h 10 9 = nI (c1 ++ c2).length) (hl : (c1 ++ c2).length ≤ 90) (hk : isop k = true) (e13 : h 10 13 = nI k) : Sp (fT_testHolds h) (fun p => p.1 = b2i (qcm k (f1 (h 9)) (f2 (h 9))) ∧ ∀ b, b ≠ 16 → p.2 b = h b) := by
  rw [List.length_append] at e9 hl
  unfold fT_testHolds
  have st2 := ST_r st
  rw [Nat.zero_add] at st2
  obtain ⟨g, hg⟩ : ∃ g, gfu = ((g + 1) + c2.length) + c1.length := ⟨gfu - 1 - c2.length - c1.length, by unfold gfu; omega⟩
  rw [hg, ← nI_0]
  refine H1.2 h 0 0 _ (c1.length + c2.length) _ (ST_l st) e9 (by omega) hl (Nat.le_refl _) (fun h1 v1 v2 v3 => ?_)
  have p1 := H1.1
  rw [show nI (0 + 1) = nI 1 from rfl, show 0 + c1.length = c1.length from Nat.zero_add _]
  refine H2.2 h1 c1.length 1 _ (c1.length + c2.length) _ (ST_h st2 (v3 15 (by decide))) (by rw [v3 10 (by decide)]; exact e9) (by omega) hl p1 (fun h2 w1 w2 w3 => ?_)
  unfold fT_testHolds_4
  refine Sp_neg (by rw [w3 10 (by decide), v3 10 (by decide), e9]; exact nI_nlt (Nat.le_refl _) (by omega)) (Sp_pos rfl ?_)
  have c0 : (0 : Int32).toNatClampNeg = 0 := rfl
  have c1' : (1 : Int32).toNatClampNeg = 1 := by decide
  rw [c0, c1', w1, w2 0 (by omega), v1, v3 9 (by decide)]
  refine Sp_bind (isSo_sp hk (by rw [w3 10 (by decide), v3 10 (by decide)]; exact e13) _ _) (fun p _ q => ?_)
  obtain ⟨q1, q2⟩ := q
  rw [q1, q2]
  cases qcm k (f1 (h 9)) (f2 (h 9)) with
  | true => exact Sp_neg (by decide) (Sp_some ⟨rfl, fun b hb => (w3 b hb).trans (v3 b hb)⟩)
  | false => exact Sp_pos rfl (Sp_some ⟨rfl, fun b hb => (w3 b hb).trans (v3 b hb)⟩)

