/-! what a rule says hangs on its variables alone -/
def agr (V : Nat → Bool) (e e2 : Nat → Int32) : Prop := ∀ v, v < 8 → V v = true → e v = e2 v
def vle (V W : Nat → Bool) : Prop := ∀ v, V v = true → W v = true
theorem vle_rf (V : Nat → Bool) : vle V V := fun _ h => h
theorem vle_tr {A B C : Nat → Bool} (h1 : vle A B) (h2 : vle B C) : vle A C := fun v h => h2 v (h1 v h)
theorem vle_padd (V : Nat → Bool) (v : Nat) : vle V (padd V v) := fun i h => by unfold padd; rw [h]; rfl
theorem agr_le {V W : Nat → Bool} {e e2 : Nat → Int32} (h : vle V W) (a : agr W e e2) : agr V e e2 := fun v hv c => a v hv (h v c)
def PD (T : qTp) (f : pP) : Prop := ∀ q V, (f q V).1 = true → vle V (f q V).2.2.1 ∧ ∀ e e2, agr (f q V).2.2.1 e e2 → (f q V).2.2.2.2 e = (f q V).2.2.2.2 e2
theorem PD_no (T : qTp) : PD T (fun q V => pno q V) := fun q V z => by cases z
theorem PD_one {T : qTp} {dp : Bool} {neg sum : pP} (hn : PD T neg) (hs : PD T sum) : PD T (pOne T dp neg sum) := by
  intro q V
  by_cases k1 : qkd T q = 1
  · rw [pOne_1 k1]; intro _; exact ⟨vle_rf V, fun _ _ _ => rfl⟩
  by_cases k2 : qkd T q = 2
  · by_cases c : 3 < qcnt (padd V (qvl T q)) 8
    · rw [pOne_2b k2 c]; intro z; cases z
    · rw [pOne_2 k2 c]; intro _
      exact ⟨vle_padd V _, fun e e2 a => a _ (qvl8 k2) (by show padd V (qvl T q) (qvl T q) = true; unfold padd; simp)⟩
  cases dp with
  | false => rw [pOne_f k1 k2]; intro z; cases z
  | true =>
    by_cases k3 : qkd T q = 45
    · rw [pOne_45 k3]; intro z
      have := hn _ _ z
      exact ⟨this.1, fun e e2 a => by dsimp only; rw [this.2 e e2 a]⟩
    by_cases k4 : qkd T q = 40
    · by_cases c : (sum (qnt T q) V).1 = true ∧ qkd T (sum (qnt T q) V).2.1 = 41
      · rw [pOne_40 k4 c]; intro _; exact hs _ _ c.1
      · rw [pOne_40b k4 c]; intro z; cases z
    rw [pOne_x k1 k2 k3 k4]; intro z; cases z
theorem PD_ch {T : qTp} {p : Nat → Bool} {f : pP} (hf : PD T f) {V0 : Nat → Bool} : ∀ (m : Nat) (r : pR), vle V0 r.2.2.1 → (∀ e e2, agr r.2.2.1 e e2 → r.2.2.2.2 e = r.2.2.2.2 e2) → (pCh T p f m r).1 = true → vle V0 (pCh T p f m r).2.2.1 ∧ ∀ e e2, agr (pCh T p f m r).2.2.1 e e2 → (pCh T p f m r).2.2.2.2 e = (pCh T p f m r).2.2.2.2 e2 := by
  intro m
  induction m with
  | zero => intro r a h _; exact ⟨a, h⟩
  | succ m ih =>
    intro r a h
    unfold pCh
    by_cases c : p (qkd T r.2.1) = true
    · rw [if_pos c]
      by_cases c2 : (f (qnt T r.2.1) r.2.2.1).1 = true
      · rw [if_pos c2]
        have g := hf _ _ c2
        exact ih _ (vle_tr a g.1) (fun e e2 w => by dsimp only; rw [h e e2 (agr_le g.1 w), g.2 e e2 w])
      · rw [if_neg c2]; intro z; cases z
    · rw [if_neg c]; intro _; exact ⟨a, h⟩
theorem PD_C {T : qTp} {p : Nat → Bool} {f : pP} (hf : PD T f) : PD T (pC T p f) := by
  intro q V
  unfold pC
  by_cases c : (f q V).1 = true
  · rw [if_pos c]; have g := hf q V c; exact PD_ch hf 90 _ g.1 g.2
  · rw [if_neg c]; intro z; exact absurd z c
theorem PD_sum {T : qTp} {f : pP} (hf : PD T f) : PD T (pSum T f) := PD_C (PD_C hf)
theorem PD_lv (T : qTp) : ∀ k, PD T (pLv T k) := by
  intro k
  induction k with
  | zero => exact PD_one (PD_no T) (PD_no T)
  | succ k ih => exact PD_one ih (PD_sum ih)
theorem qun_agr {V : Nat → Bool} {e e2 : Nat → Int32} (a : agr V e e2) : qun V e = qun V e2 := by
  rw [Bool.eq_iff_iff, qun_iff, qun_iff]
  constructor
  · intro z i hi j hj vi vj h; exact z i hi j hj vi vj (by rw [a i hi vi, a j hj vj]; exact h)
  · intro z i hi j hj vi vj h; exact z i hi j hj vi vj (by rw [← a i hi vi, ← a j hj vj]; exact h)
theorem tok_agr {T : qTp} {q : Nat} {V : Nat → Bool} (h : tok T q V = true) : vle V (ts2 T q V).2.2.1 ∧ ∀ e e2, agr (ts2 T q V).2.2.1 e e2 → tval T q V e = tval T q V e2 := by
  unfold tok tgo at h
  rw [Bool.and_eq_true, Bool.and_eq_true] at h
  have g1 := PD_sum (PD_lv T 5) q V h.1.1
  have g2 := PD_sum (PD_lv T 5) (qnt T (ts1 T q V).2.1) (ts1 T q V).2.2.1 h.2
  refine ⟨vle_tr g1.1 g2.1, fun e e2 a => ?_⟩
  unfold tval
  have x1 : (ts1 T q V).2.2.2.2 e = (ts1 T q V).2.2.2.2 e2 := g1.2 e e2 (agr_le g2.1 a)
  have x2 : (ts2 T q V).2.2.2.2 e = (ts2 T q V).2.2.2.2 e2 := g2.2 e e2 a
  rw [x1, x2]
theorem qcnt_tok {T : qTp} {q : Nat} {V : Nat → Bool} (hq : q ≤ T.1) (hV : qcnt V 8 ≤ 3) (h : tok T q V = true) : qcnt (ts2 T q V).2.2.1 8 ≤ 3 := by
  unfold tok tgo at h
  rw [Bool.and_eq_true, Bool.and_eq_true] at h
  have g1 := (PG_sum (PG_lv T 5) q V hq).2.2 h.1.1
  exact ((PG_sum (PG_lv T 5) (qnt T (ts1 T q V).2.1) (ts1 T q V).2.2.1 (qnt_le _)).2.2 h.2).2.2 (g1.2.2 hV)
/-- a rule that was read: of three variables at most, of a kind, and it hangs on them alone -/
def RdOk (r : rdR) : Prop := r.1 = true → qcnt r.2.2.2.1 8 ≤ 3 ∧ r.2.2.1 < 3 ∧ ∀ e e2, agr r.2.2.2.1 e e2 → r.2.2.2.2 e = r.2.2.2.2 e2
theorem RdOk_no (p : Nat) : RdOk (rno p) := fun z => by cases z
theorem RdOk_un (p : Nat) {V : Nat → Bool} (h : qcnt V 8 ≤ 3) : RdOk (true, p, 2, V, qun V) := fun _ => ⟨h, by show 2 < 3; omega, fun _ _ a => qun_agr a⟩
theorem rd_ok (T : qTp) : RdOk (qrd T) := by
  have hq0 := (qskip_ge (T := T) (Nat.zero_le _)).2
  unfold qrd
  split
  · unfold qds
    split
    · have n1 := (qcnt_padd qne (qvl T (qnt T (qskip T 0))) 8).1
      rw [qcnt_ne] at n1
      unfold qds3
      split
      · have n2 := (qcnt_padd (padd qne (qvl T (qnt T (qskip T 0)))) (qvl T (qnt T (qnt T (qskip T 0)))) 8).1
        unfold qds2
        split
        · exact RdOk_un _ (by omega)
        · split
          · have n3 := (qcnt_padd (padd (padd qne (qvl T (qnt T (qskip T 0)))) (qvl T (qnt T (qnt T (qskip T 0))))) (qvl T (qnt T (qnt T (qnt T (qskip T 0))))) 8).1
            unfold qds1
            split
            · exact RdOk_un _ (by omega)
            · exact RdOk_no _
          · exact RdOk_no _
      · exact RdOk_no _
    · exact RdOk_no _
  · split
    · rename_i hb
      have v8 := qvl8 hb.1
      unfold qrf
      split
      · rename_i c
        have n1 := (qcnt_padd qne (qvl T (qskip T 0)) 8).1
        rw [qcnt_ne] at n1
        have g := tok_agr c.1
        intro _
        refine ⟨qcnt_tok (qnt_le _) (by omega) c.1, by show 1 < 3; omega, fun e e2 a => ?_⟩
        have a : agr (ts2 T (qnt T (qnt T (qskip T 0))) (padd qne (qvl T (qskip T 0)))).2.2.1 e e2 := a
        dsimp only
        rw [g.2 e e2 a, a _ v8 (g.1 _ (by unfold padd; simp))]
      · exact RdOk_no _
    · unfold qpl
      split
      · rename_i c
        intro _
        exact ⟨qcnt_tok hq0 (by rw [qcnt_ne]; omega) c.1, by show 0 < 3; omega, (tok_agr c.1).2⟩
      · exact RdOk_no _

