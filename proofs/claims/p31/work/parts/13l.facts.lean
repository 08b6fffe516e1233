/-! what was reckoned, told as the walk wants it -/
theorem last_ne {N K : Nat} (h : lawN N K) : ¬ (N - 1) * K = 9 := by
  obtain ⟨a, b, c, d⟩ := h
  have : K = 1 ∨ K = 2 := by omega
  rcases this with rfl | rfl <;> omega
theorem mul_le9 {N K x : Nat} (h : lawN N K) (h9 : (N - 1) * K ≤ 9) (hx : x < N) : x * K ≤ 9 ∧ (N - 1 - x) * K ≤ 9 := by
  obtain ⟨a, b, c, d⟩ := h
  have : K = 1 ∨ K = 2 := by omega
  rcases this with rfl | rfl <;> omega
theorem dsB_len {N x : Nat} (h : N ≤ x) : (dsB N x).length = x - N := by unfold dsB; rw [List.length_map, List.length_range']
theorem dsB_succ {N x : Nat} (h : N ≤ x) : dsB N (x + 1) = dsB N x ++ [(x, 1)] := by
  unfold dsB
  rw [show x + 1 - N = (x - N) + 1 by omega, List.range'_concat, List.map_append, Nat.one_mul, show N + (x - N) = x by omega]
  rfl
theorem dsB_0 (N : Nat) : dsB N N = [] := by unfold dsB; rw [Nat.sub_self]; rfl
theorem A0_at {N : Nat} (h1 : 3 ≤ N) (h2 : N < 7) : ctok N (7 - N) N cfull (2 ^ N - 1) = true := okA0_all N h2 h1
theorem ctok_at {N m x D Q : Nat} (h : ctok N (m + 1) x D Q = true) : ¬ D = 0 ∧ cnf (fun v => fD D x v && !Nat.testBit 1 v) 10 0 = 9 ∧ ctok N m (x + 1) (cst N D Q x 1).1 (cst N D Q x 1).2 = true := by
  unfold ctok at h
  rw [Bool.and_eq_true, Bool.and_eq_true, Bool.not_eq_true', decide_eq_false_iff_not, decide_eq_true_eq] at h
  refine ⟨h.1, h.2.1, ?_⟩
  have h3 := h.2.2
  generalize cst N D Q x 1 = c at h3 ⊢
  obtain ⟨D1, Q1⟩ := c
  have h3 : (fN D1 fun D1 => fN Q1 fun Q1 => ctok N m (x + 1) D1 Q1) = true := h3
  rw [fN_eq, fN_eq] at h3
  exact h3
theorem ctells_at (N m x D Q : Nat) : ctells N (m + 1) x D Q = ctells N m (x + 1) (cst N D Q x 1).1 (cst N D Q x 1).2 := by
  rw [show ctells N (m + 1) x D Q = (match cst N D Q x 1 with
    | (D1, Q1) => fN D1 fun D1 => fN Q1 fun Q1 => ctells N m (x + 1) D1 Q1) from rfl]
  generalize cst N D Q x 1 = c
  obtain ⟨D1, Q1⟩ := c
  show (fN D1 fun D1 => fN Q1 fun Q1 => ctells N m (x + 1) D1 Q1) = _
  rw [fN_eq, fN_eq]
theorem pCr_eq (N K : Nat) : pCr N K = citer N K 2024 (pBr N).1 (pBr N).2 := by
  rw [show pCr N K = (match pBr N with
    | (D, Q) => fN D fun D => fN Q fun Q => citer N K 2024 D Q) from rfl]
  generalize pBr N = c
  obtain ⟨D, Q⟩ := c
  show (fN D fun D => fN Q fun Q => citer N K 2024 D Q) = _
  rw [fN_eq, fN_eq]
theorem pair_eq {α β : Type} (c : α × β) : c = (c.1, c.2) := rfl
theorem A1_at {N K : Nat} (h : lawN N K) (h9 : 9 < (N - 1) * K) : (pCr N K).1 = 0 ∧ cwhy N K (dsB N 7) 8 0 = 0 := by
  obtain ⟨a, b, c, d⟩ := h
  have hK : K = 2 := by
    have : K = 1 ∨ K = 2 := by omega
    rcases this with rfl | rfl
    · omega
    · rfl
  subst hK
  have hN : N = 6 := by omega
  subst hN
  have g := okA1_62
  unfold okA1 at g
  generalize pCr 6 2 = q at g ⊢
  obtain ⟨D, Q⟩ := q
  have g : (fN D fun D => decide (D = 0) && decide (cwhy 6 2 (dsB 6 7) 8 0 = 0)) = true := g
  rw [fN_eq, Bool.and_eq_true, decide_eq_true_eq, decide_eq_true_eq] at g
  exact g
theorem cfind1 {n k ch pk D Q : Nat} (h : (csr n k ch pk 100 false 9 D Q 0).1 = 1) : cfind n k ch pk D Q = nI (cdg (csr n k ch pk 100 false 9 D Q 0).2.2.2) := by
  unfold cfind
  generalize csr n k ch pk 100 false 9 D Q 0 = q at h ⊢
  obtain ⟨c, t, f, D3⟩ := q
  have h : c = 1 := h
  subst h
  rfl
theorem A2_at {N K : Nat} (h : lawN N K) (h9 : (N - 1) * K ≤ 9) : ¬ (pCr N K).1 = 0 ∧ (pCr N K).2 = 0 ∧ (∀ x, x < N → okD N K (pCr N K).1 x = true) ∧ dm (pCr N K).1 7 = 3 ∧ cwhy N K (dsB N 7) 0 9 = 0 ∧
    (∃ F, (csr N K 0 0 100 false 9 (pCr N K).1 0 0).1 = 1 ∧ cfind N K 0 0 (pCr N K).1 0 = nI F ∧ F < 2 ^ 31 ∧ F % 10 = 0 ∧ okG N K 7 (F / 10) = true) ∧ (csr N K 1 0 100 false 9 (pCr N K).1 0 0).1 = 1 ∧ ∃ F, cfind N K 1 0 (pCr N K).1 0 = nI F ∧ F < 2 ^ 31 := by
  have g := okA2_all N h.2.1 h.1 K h.2.2.2 h.2.2.1 h9
  unfold okA2 at g
  generalize pCr N K = q at g ⊢
  obtain ⟨D, Q⟩ := q
  dsimp only at g ⊢
  rw [fN_eq] at g
  obtain ⟨g1, g⟩ := Bool.and_eq_true_iff.mp g
  obtain ⟨g2, g⟩ := Bool.and_eq_true_iff.mp g
  obtain ⟨g3, g⟩ := Bool.and_eq_true_iff.mp g
  obtain ⟨g4, g⟩ := Bool.and_eq_true_iff.mp g
  obtain ⟨g, g7⟩ := Bool.and_eq_true_iff.mp g
  obtain ⟨g5, g6⟩ := Bool.and_eq_true_iff.mp g
  rw [Bool.not_eq_true', decide_eq_false_iff_not] at g1
  refine ⟨g1, of_decide_eq_true g2, fun x hx => List.all_eq_true.mp g3 x (List.mem_range.mpr hx), of_decide_eq_true g4, of_decide_eq_true g5, ?_, ?_⟩
  · have e := @cfind1 N K 0 0 D 0
    generalize csr N K 0 0 100 false 9 D 0 0 = r at g6 e ⊢
    obtain ⟨c, t, f, D3⟩ := r
    dsimp only at g6 e ⊢
    rw [fN_eq, Bool.and_eq_true, Bool.and_eq_true, Bool.and_eq_true, decide_eq_true_eq, decide_eq_true_eq, decide_eq_true_eq] at g6
    exact ⟨cdg D3, g6.1, e g6.1, g6.2.1, g6.2.2.1, g6.2.2.2⟩
  · have e := @cfind1 N K 1 0 D 0
    generalize csr N K 1 0 100 false 9 D 0 0 = r at g7 e ⊢
    obtain ⟨c, t, f, D3⟩ := r
    dsimp only at g7 e ⊢
    rw [Bool.and_eq_true, decide_eq_true_eq, decide_eq_true_eq] at g7
    exact ⟨g7.1, cdg D3, e g7.1, g7.2⟩
theorem okD_at {N K D x : Nat} (h : okD N K D x = true) : lset (nI (x * K)) (nI (9 - (N - 1 - x) * K)) = nI (dm D x) ∧ (0 < x * K → D.testBit (10 * x) = false) ∧ crch N K D 0 x 0 10 0 = nI (x * K) ∧ crch N K D 0 x 1 10 0 = nI (9 - (N - 1 - x) * K) := by
  unfold okD at h
  rw [Bool.and_eq_true, Bool.and_eq_true, Bool.and_eq_true, Bool.or_eq_true, Bool.not_eq_true', decide_eq_true_eq, decide_eq_true_eq, decide_eq_true_eq, decide_eq_true_eq] at h
  exact ⟨h.1, fun q => h.2.1.resolve_left (by omega), h.2.2.1, h.2.2.2⟩
theorem okG_at {N K m left : Nat} (h : okG N K (m + 1) left = true) : (left % 10 = if m < N then m * K else 0) ∧ okG N K m (left / 10) = true := by
  unfold okG at h
  rw [Bool.and_eq_true, decide_eq_true_eq] at h
  exact h
/-- behind the level -/
theorem pD1_eq (N K U : Nat) : pD1 N K U = cst N (pCr N K).1 0 0 (2 ^ U) := by
  rw [show pD1 N K U = (match pCr N K with
    | (D, _) => fN D fun D => match cst N D 0 0 (2 ^ U) with
      | (D1, Q1) => fN D1 fun D1 => fN Q1 fun Q1 => (D1, Q1)) from rfl]
  generalize pCr N K = c
  obtain ⟨D, Q⟩ := c
  show (fN D fun D => match cst N D 0 0 (2 ^ U) with
      | (D1, Q1) => fN D1 fun D1 => fN Q1 fun Q1 => (D1, Q1)) = _
  rw [fN_eq]
  generalize cst N D 0 0 (2 ^ U) = c2
  obtain ⟨D1, Q1⟩ := c2
  show (fN D1 fun D1 => fN Q1 fun Q1 => (D1, Q1)) = _
  rw [fN_eq, fN_eq]
theorem fNN_eq {α : Type} (c : Nat × Nat) (f : Nat → Nat → α) : (match c with
    | (D, Q) => fN D fun D => fN Q fun Q => f D Q) = f c.1 c.2 := by
  obtain ⟨D, Q⟩ := c
  show (fN D fun D => fN Q fun Q => f D Q) = _
  rw [fN_eq, fN_eq]
theorem pD2_eq (N K U : Nat) : pD2 N K U = citer N K 2024 (pD1 N K U).1 (pD1 N K U).2 := fNN_eq (pD1 N K U) (fun D Q => citer N K 2024 D Q)
theorem pD3_eq (N K U : Nat) : pD3 N K U = cst N (pD2 N K U).1 (pD2 N K U).2 (N - 1) (2 ^ (U + (N - 1) * K + 1) - 1) := fNN_eq (pD2 N K U) (fun D Q => cst N D Q (N - 1) (2 ^ (U + (N - 1) * K + 1) - 1))
theorem pD4_eq (N K U : Nat) : pD4 N K U = citer N K 2024 (pD3 N K U).1 (pD3 N K U).2 := fNN_eq (pD3 N K U) (fun D Q => citer N K 2024 D Q)
theorem pD5_eq (N K U : Nat) : pD5 N K U = cst N (pD4 N K U).1 (pD4 N K U).2 (N - 1) (2 ^ (U + (N - 1) * K) - 1) := fNN_eq (pD4 N K U) (fun D Q => cst N D Q (N - 1) (2 ^ (U + (N - 1) * K) - 1))
theorem okU_at {N K U : Nat} {p : Nat → Bool} (h : okU N K p = true) (hU : U < 10 - (N - 1) * K) : p U = true := List.all_eq_true.mp h U (List.mem_range.mpr hU)
theorem B1_at {N K U : Nat} (h : lawN N K) (hU : U < 10 - (N - 1) * K) : ¬ (pD1 N K U).1 = 0 ∧ ¬ (pD2 N K U).1 = 0 ∧ (∀ x, x < N → cmn (dm (pD2 N K U).1 x) = U + x * K) ∧ (0 < U → cwhy N K (ds1 N U) (N - 1) ((N - 1) * K) = 2 ^ (7 - N)) := by
  have g := okU_at (okB1_all N h.2.1 h.1 K h.2.2.2 h.2.2.1) hU
  unfold okB1 at g
  rw [fN_eq, fN_eq, Bool.and_eq_true, Bool.and_eq_true, Bool.and_eq_true, Bool.or_eq_true, Bool.not_eq_true', Bool.not_eq_true', decide_eq_false_iff_not, decide_eq_false_iff_not, decide_eq_true_eq, decide_eq_true_eq] at g
  exact ⟨g.1, g.2.1.1, fun x hx => of_decide_eq_true (List.all_eq_true.mp g.2.1.2 x (List.mem_range.mpr hx)), fun q => g.2.2.resolve_left (by omega)⟩
theorem B2_at {N K U : Nat} (h : lawN N K) (hU : U < 10 - (N - 1) * K) : ¬ (pD3 N K U).1 = 0 ∧ ¬ (pD4 N K U).1 = 0 ∧ (∀ x, x < N → dm (pD4 N K U).1 x = 2 ^ (U + x * K)) ∧ dm (pD4 N K U).1 7 = 1 ∧ qcnt (stl (fD (pD4 N K U).1)) 8 = 8 ∧ ((csr N K 0 0 300 true 9 (pD4 N K U).1 (pD4 N K U).2 0).1 = 0 ∧ (csr N K 0 0 300 true 9 (pD4 N K U).1 (pD4 N K U).2 0).2.2.1 = 1) ∧ (csr N K 2 2 100 false 9 (pD4 N K U).1 (pD4 N K U).2 0).1 = 1 ∧ (csr N K 2 2 100 false 9 (pD4 N K U).1 (pD4 N K U).2 0).2.1 = 0 := by
  have g := okU_at (okB2_all N h.2.1 h.1 K h.2.2.2 h.2.2.1) hU
  unfold okB2 at g
  generalize pD4 N K U = q at g ⊢
  obtain ⟨D, Q⟩ := q
  dsimp only at g ⊢
  rw [fN_eq, fN_eq, fN_eq, Bool.and_eq_true, Bool.and_eq_true, Bool.and_eq_true, Bool.and_eq_true, Bool.and_eq_true, Bool.and_eq_true, Bool.not_eq_true', Bool.not_eq_true', decide_eq_false_iff_not, decide_eq_false_iff_not, decide_eq_true_eq, decide_eq_true_eq] at g
  obtain ⟨g1, g2, g3, g4, g5, g6, g7⟩ := g
  refine ⟨g1, g2, fun x hx => of_decide_eq_true (List.all_eq_true.mp g3 x (List.mem_range.mpr hx)), g4, g5, ?_, ?_⟩
  · generalize csr N K 0 0 300 true 9 D Q 0 = r at g6 ⊢
    obtain ⟨c, t, f, D3⟩ := r
    dsimp only at g6 ⊢
    rw [Bool.and_eq_true, decide_eq_true_eq, decide_eq_true_eq] at g6
    exact g6
  · generalize csr N K 2 2 100 false 9 D Q 0 = r at g7 ⊢
    obtain ⟨c, t, f, D3⟩ := r
    dsimp only at g7 ⊢
    rw [Bool.and_eq_true, decide_eq_true_eq, decide_eq_true_eq] at g7
    exact g7
theorem B3_at {N K U : Nat} (h : lawN N K) (hU : U < 10 - (N - 1) * K) : (pD5 N K U).1 = 0 ∧ cwhy N K (ds3 N K U) 8 0 < 99999 := by
  have g := okU_at (okB3_all N h.2.1 h.1 K h.2.2.2 h.2.2.1) hU
  unfold okB3 at g
  rw [fN_eq, Bool.and_eq_true, decide_eq_true_eq, decide_eq_true_eq] at g
  exact g
theorem B4_at {N K : Nat} (h : lawN N K) (h9 : (N - 1) * K ≤ 9) : crch N K (pCr N K).1 0 0 1 10 0 = nI (9 - (N - 1) * K) := by
  have g := okB4_all N h.2.1 h.1 K h.2.2.2 h.2.2.1 h9
  unfold okB4 at g
  generalize pCr N K = q at g ⊢
  obtain ⟨D, Q⟩ := q
  dsimp only at g ⊢
  rw [fN_eq, decide_eq_true_eq] at g
  exact g
