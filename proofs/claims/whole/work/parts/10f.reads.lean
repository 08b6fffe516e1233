/-! what a text is as a rule -/
def qcm (k : Nat) (a b : Int32) : Bool := if k = 60 then decide (a < b) else if k = 61 then decide (a = b) else if k = 62 then decide (b < a) else !decide (a = b)
def isop (k : Nat) : Bool := decide (k = 60) || (decide (k = 61) || (decide (k = 62) || decide (k = 33)))
def ts1 (T : qTp) (q : Nat) (V : Nat → Bool) : pR := pSum T (pLv T 5) q V
def ts2 (T : qTp) (q : Nat) (V : Nat → Bool) : pR := pSum T (pLv T 5) (qnt T (ts1 T q V).2.1) (ts1 T q V).2.2.1
def tgo (T : qTp) (q : Nat) (V : Nat → Bool) : Bool := (ts1 T q V).1 && isop (qkd T (ts1 T q V).2.1)
def tok (T : qTp) (q : Nat) (V : Nat → Bool) : Bool := tgo T q V && (ts2 T q V).1
def tpl (T : qTp) (q : Nat) (V : Nat → Bool) : Nat := if tgo T q V = true then (ts2 T q V).2.1 else (ts1 T q V).2.1
def tval (T : qTp) (q : Nat) (V : Nat → Bool) (e : Nat → Int32) : Bool := qcm (qkd T (ts1 T q V).2.1) ((ts1 T q V).2.2.2.2 e) ((ts2 T q V).2.2.2.2 e)
abbrev rdR : Type := Bool × Nat × Nat × (Nat → Bool) × ((Nat → Int32) → Bool)
def rno (p : Nat) : rdR := (false, p, 0, fun _ => false, fun _ => false)
def qne : Nat → Bool := fun _ => false
/-- no two of V have the same value -/
def qun (V : Nat → Bool) (e : Nat → Int32) : Bool := (List.range 8).all fun i => (List.range 8).all fun j => !(V i && (V j && decide (e i = e j))) || decide (i = j)
theorem qun_iff (V : Nat → Bool) (e : Nat → Int32) : qun V e = true ↔ ∀ i, i < 8 → ∀ j, j < 8 → V i = true → V j = true → e i = e j → i = j := by
  unfold qun
  rw [List.all_eq_true]
  constructor
  · intro H i hi j hj vi vj ee
    have := List.all_eq_true.mp (H i (List.mem_range.mpr hi)) j (List.mem_range.mpr hj)
    rw [vi, vj, decide_eq_true ee] at this
    simpa using this
  · intro H i hi
    rw [List.all_eq_true]
    intro j hj
    by_cases c : V i = true ∧ V j = true ∧ e i = e j
    · rw [decide_eq_true (H i (List.mem_range.mp hi) j (List.mem_range.mp hj) c.1 c.2.1 c.2.2), Bool.or_true]
    · cases a : V i
      · rfl
      · cases b : V j
        · rfl
        · rw [decide_eq_false (fun z => c ⟨a, b, z⟩)]; rfl
/-- a name that is new -/
def qfr (T : qTp) (p : Nat) (V : Nat → Bool) : Bool := decide (qkd T p = 2) && !V (qvl T p)
def qds1 (T : qTp) (p : Nat) (V : Nat → Bool) : rdR := if qkd T p = 0 then (true, p, 2, V, qun V) else rno p
def qds2 (T : qTp) (p : Nat) (V : Nat → Bool) : rdR := if qkd T p = 0 then (true, p, 2, V, qun V) else if qfr T p V = true then qds1 T (qnt T p) (padd V (qvl T p)) else rno p
def qds3 (T : qTp) (p : Nat) (V : Nat → Bool) : rdR := if qfr T p V = true then qds2 T (qnt T p) (padd V (qvl T p)) else rno p
def qds (T : qTp) (p : Nat) : rdR := if qfr T p qne = true then qds3 T (qnt T p) (padd qne (qvl T p)) else rno p
def qpl (T : qTp) (q : Nat) : rdR := if tok T q qne = true ∧ qkd T (tpl T q qne) = 0 then (true, tpl T q qne, 0, (ts2 T q qne).2.2.1, tval T q qne) else rno (tpl T q qne)
def qrf (T : qTp) (b q : Nat) : rdR := if tok T q (padd qne b) = true ∧ qkd T (tpl T q (padd qne b)) = 0 then (true, tpl T q (padd qne b), 1, (ts2 T q (padd qne b)).2.2.1, fun e => (decide (e b = 1) && tval T q (padd qne b) e) || (decide (e b = 0) && !tval T q (padd qne b) e)) else rno (tpl T q (padd qne b))
def qrd (T : qTp) : rdR := if qkd T (qskip T 0) = 3 then qds T (qnt T (qskip T 0)) else if qkd T (qskip T 0) = 2 ∧ qkd T (qnt T (qskip T 0)) = 58 then qrf T (qvl T (qskip T 0)) (qnt T (qnt T (qskip T 0))) else qpl T (qskip T 0)
theorem qrf_t {T : qTp} {b q : Nat} (c : tok T q (padd qne b) = true ∧ qkd T (tpl T q (padd qne b)) = 0) : qrf T b q = (true, tpl T q (padd qne b), 1, (ts2 T q (padd qne b)).2.2.1, fun e => (decide (e b = 1) && tval T q (padd qne b) e) || (decide (e b = 0) && !tval T q (padd qne b) e)) := if_pos c
theorem qrf_f {T : qTp} {b q : Nat} (c : ¬ (tok T q (padd qne b) = true ∧ qkd T (tpl T q (padd qne b)) = 0)) : qrf T b q = rno (tpl T q (padd qne b)) := if_neg c
theorem qrd_58 {T : qTp} (c : ¬ qkd T (qskip T 0) = 3) (d : qkd T (qskip T 0) = 2 ∧ qkd T (qnt T (qskip T 0)) = 58) : qrd T = qrf T (qvl T (qskip T 0)) (qnt T (qnt T (qskip T 0))) := by unfold qrd; rw [if_neg c, if_pos d]
/-- what the reference has read -/
def MRd (h : gH) (r : rdR) (p : Int32 × gH) : Prop := nfr 24 32 h p.2 ∧ (r.1 = true → p.2 65 29 = 0 ∧ p.2 65 31 = mkn 8 r.2.2.2.1 ∧ p.2 65 32 = nI r.2.2.1 ∧ p.1 = b2i (r.2.2.2.2 (h 80))) ∧ (r.1 = false → p.2 65 29 = 1 ∧ p.2 65 30 = nI r.2.1)
theorem mtest {T : qTp} (B : TpB T) {h : gH} {q : Nat} {V : Nat → Bool} (HT : MTp h T) (H : RT h T q) (h29 : h 65 29 = 0) (h31 : h 65 31 = mkn 8 V) (h28 : h 65 28 = nI 0) : Sp (fM_test h) (fun p => nfr 24 31 h p.2 ∧ (∃ b, p.1 = b2i b) ∧ (tok T q V = true → p.2 65 29 = 0 ∧ RT p.2 T (tpl T q V) ∧ p.2 65 31 = mkn 8 (ts2 T q V).2.2.1 ∧ p.1 = b2i (tval T q V (h 80))) ∧ (tok T q V = false → p.2 65 29 = 1 ∧ p.2 65 30 = nI (tpl T q V))) := by
  unfold fM_test
  refine Sp_bind (msum_all B h q V HT H h29 h31 h28) (fun p _ k => ?_)
  obtain ⟨k1, k2, k3, k4⟩ := k
  have HT1 := MTp_nfr HT k1 (by omega)
  by_cases c : (ts1 T q V).1 = true
  · obtain ⟨l1, l2, l3, l4⟩ := k3 c
    have l2 : RT p.2 T (ts1 T q V).2.1 := l2
    have l3 : p.2 65 31 = mkn 8 (ts1 T q V).2.2.1 := l3
    have l4 : p.1 = (ts1 T q V).2.2.2.2 (h 80) := l4
    have go : isop (qkd T (ts1 T q V).2.1) = true → Sp (fM_test_47 p.1 p.2) (fun p => nfr 24 31 h p.2 ∧ (∃ b, p.1 = b2i b) ∧ (tok T q V = true → p.2 65 29 = 0 ∧ RT p.2 T (tpl T q V) ∧ p.2 65 31 = mkn 8 (ts2 T q V).2.2.1 ∧ p.1 = b2i (tval T q V (h 80))) ∧ (tok T q V = false → p.2 65 29 = 1 ∧ p.2 65 30 = nI (tpl T q V))) := by
      intro co
      have cg : tgo T q V = true := by unfold tgo; rw [c, co]; rfl
      have co' : qkd T (ts1 T q V).2.1 = 60 ∨ qkd T (ts1 T q V).2.1 = 61 ∨ qkd T (ts1 T q V).2.1 = 62 ∨ qkd T (ts1 T q V).2.1 = 33 := by unfold isop at co; simpa using co
      obtain ⟨e25, e27, -⟩ := l2.2.2.1.2.2.2.2.2 (by omega)
      unfold fM_test_47
      refine Sp_bind (next_rt B HT1 l2 (by omega)) (fun h1 _ g => ?_)
      refine Sp_bind (msum_all B h1 (qnt T (ts1 T q V).2.1) (ts1 T q V).2.2.1 (MTp_nfr HT1 g.1 (by omega)) g.2 (by rw [g.1.2 29 (by omega)]; exact l1) (by rw [g.1.2 31 (by omega)]; exact l3) (by rw [g.1.2 28 (by omega)]; exact k2)) (fun p2 _ m => ?_)
      obtain ⟨m1, m2, m3, m4⟩ := m
      have fr : nfr 24 31 h p2.2 := nfr_tr k1 (nfr_tr (nfr_w g.1 (by omega)) m1)
      have tp : tpl T q V = (ts2 T q V).2.1 := by unfold tpl; rw [if_pos cg]
      have fin : ∀ b : Bool, ((ts2 T q V).1 = true → b = tval T q V (h 80)) → Sp (some (b2i b, p2.2)) (fun p => nfr 24 31 h p.2 ∧ (∃ b, p.1 = b2i b) ∧ (tok T q V = true → p.2 65 29 = 0 ∧ RT p.2 T (tpl T q V) ∧ p.2 65 31 = mkn 8 (ts2 T q V).2.2.1 ∧ p.1 = b2i (tval T q V (h 80))) ∧ (tok T q V = false → p.2 65 29 = 1 ∧ p.2 65 30 = nI (tpl T q V))) := by
        intro b hb
        refine Sp_some ⟨fr, ⟨b, rfl⟩, fun z => ?_, fun z => ?_⟩
        · have z2 : (ts2 T q V).1 = true := by unfold tok at z; rw [cg] at z; exact z
          obtain ⟨n1, n2, n3, n4⟩ := m3 z2
          rw [tp]
          exact ⟨n1, n2, n3, by dsimp only; rw [hb z2]⟩
        · have z2 : (ts2 T q V).1 = false := by unfold tok at z; rw [cg] at z; exact z
          rw [tp]; exact m4 z2
      have ev : (ts2 T q V).1 = true → p2.1 = (ts2 T q V).2.2.2.2 (h 80) := fun z => by
        have := (m3 z).2.2.2
        rw [g.1.1 80 (by decide), k1.1 80 (by decide)] at this
        exact this
      rw [e27, l4]
      have e60 : nI (qkd T (ts1 T q V).2.1) = (60 : Int32) ↔ qkd T (ts1 T q V).2.1 = 60 := nI_eq (b := 60) (by omega) (by omega)
      have e61 : nI (qkd T (ts1 T q V).2.1) = (61 : Int32) ↔ qkd T (ts1 T q V).2.1 = 61 := nI_eq (b := 61) (by omega) (by omega)
      have e62 : nI (qkd T (ts1 T q V).2.1) = (62 : Int32) ↔ qkd T (ts1 T q V).2.1 = 62 := nI_eq (b := 62) (by omega) (by omega)
      by_cases d0 : qkd T (ts1 T q V).2.1 = 60
      · have tv : ∀ e, tval T q V e = decide ((ts1 T q V).2.2.2.2 e < (ts2 T q V).2.2.2.2 e) := fun e => by unfold tval qcm; rw [if_pos d0]
        refine Sp_pos (e60.mpr d0) (Sp_if (fun w => fin true (fun z => ?_)) (fun w => fin false (fun z => ?_)))
        · rw [tv, ← ev z, decide_eq_true w]
        · rw [tv, ← ev z, decide_eq_false w]
      refine Sp_neg (fun z => d0 (e60.mp z)) ?_
      by_cases d1 : qkd T (ts1 T q V).2.1 = 61
      · have tv : ∀ e, tval T q V e = decide ((ts1 T q V).2.2.2.2 e = (ts2 T q V).2.2.2.2 e) := fun e => by unfold tval qcm; rw [if_neg d0, if_pos d1]
        refine Sp_pos (e61.mpr d1) (Sp_if (fun w => fin true (fun z => ?_)) (fun w => fin false (fun z => ?_)))
        · rw [tv, ← ev z, decide_eq_true w]
        · rw [tv, ← ev z, decide_eq_false w]
      refine Sp_neg (fun z => d1 (e61.mp z)) ?_
      by_cases d2 : qkd T (ts1 T q V).2.1 = 62
      · have tv : ∀ e, tval T q V e = decide ((ts2 T q V).2.2.2.2 e < (ts1 T q V).2.2.2.2 e) := fun e => by unfold tval qcm; rw [if_neg d0, if_neg d1, if_pos d2]
        refine Sp_pos (e62.mpr d2) (Sp_if (fun w => fin true (fun z => ?_)) (fun w => fin false (fun z => ?_)))
        · rw [tv, ← ev z, decide_eq_true w]
        · rw [tv, ← ev z, decide_eq_false w]
      refine Sp_neg (fun z => d2 (e62.mp z)) ?_
      have tv : ∀ e, tval T q V e = !decide ((ts1 T q V).2.2.2.2 e = (ts2 T q V).2.2.2.2 e) := fun e => by unfold tval qcm; rw [if_neg d0, if_neg d1, if_neg d2]
      refine (Sp_if (fun w => fin false (fun z => ?_)) (fun w => fin true (fun z => ?_)))
      · rw [tv, ← ev z, decide_eq_true w]; rfl
      · rw [tv, ← ev z, decide_eq_false w]; rfl
    have sg : ∀ s, 33 ≤ s → s ≤ 62 → fM_isSign (nI s) p.2 = some (b2i (decide (qkd T (ts1 T q V).2.1 = s)), p.2) := fun s s1 s2 => sign_live l2 l1 s1 s2
    refine Sp_eq (sg 60 (by omega) (by omega)) ?_
    dsimp only
    by_cases d0 : qkd T (ts1 T q V).2.1 = 60
    · rw [decide_eq_true d0]; exact Sp_neg (by decide) (go (by rw [d0]; rfl))
    rw [decide_eq_false d0]
    refine Sp_pos rfl (Sp_eq (sg 61 (by omega) (by omega)) ?_)
    dsimp only
    by_cases d1 : qkd T (ts1 T q V).2.1 = 61
    · rw [decide_eq_true d1]; exact Sp_neg (by decide) (go (by rw [d1]; rfl))
    rw [decide_eq_false d1]
    refine Sp_pos rfl (Sp_eq (sg 62 (by omega) (by omega)) ?_)
    dsimp only
    by_cases d2 : qkd T (ts1 T q V).2.1 = 62
    · rw [decide_eq_true d2]; exact Sp_neg (by decide) (go (by rw [d2]; rfl))
    rw [decide_eq_false d2]
    refine Sp_pos rfl (Sp_eq (sg 33 (by omega) (by omega)) ?_)
    dsimp only
    by_cases d3 : qkd T (ts1 T q V).2.1 = 33
    · rw [decide_eq_true d3]; exact Sp_neg (by decide) (go (by rw [d3]; rfl))
    rw [decide_eq_false d3]
    have ng : tgo T q V = false := by unfold tgo isop; rw [decide_eq_false d0, decide_eq_false d1, decide_eq_false d2, decide_eq_false d3]; simp
    refine Sp_pos rfl (Sp_bind (fail_live l2 l1) (fun h1 _ f => Sp_some ⟨nfr_tr k1 (nfr_w f.1 (by omega)), ⟨false, rfl⟩, fun z => ?_, fun _ => ?_⟩))
    · unfold tok at z; rw [ng] at z; cases z
    · unfold tpl; rw [ng]; exact f.2
  · obtain ⟨l1, l2⟩ := k4 (Bool.eq_false_iff.mpr c)
    have ng : tgo T q V = false := by unfold tgo; rw [Bool.eq_false_iff.mpr c]; rfl
    refine Sp_eq (sign_dead l1 60) (Sp_pos rfl (Sp_eq (sign_dead l1 61) (Sp_pos rfl (Sp_eq (sign_dead l1 62) (Sp_pos rfl (Sp_eq (sign_dead l1 33) (Sp_pos rfl (Sp_eq (fail_dead l1) (Sp_some ⟨k1, ⟨false, rfl⟩, fun z => ?_, fun _ => ?_⟩)))))))))
    · unfold tok at z; rw [ng] at z; cases z
    · unfold tpl; rw [ng]; exact ⟨l1, l2⟩
/-- a text ends where no token is left -/
theorem end261 {T : qTp} {h0 h : gH} {q : Nat} (v : Bool) {k : Nat} {V : Nat → Bool} {f : (Nat → Int32) → Bool} (fr : nfr 24 32 h0 h) (H : RT h T q) (h29 : h 65 29 = 0) (h31 : h 65 31 = mkn 8 V) (h32 : h 65 32 = nI k) (hv : v = f (h0 80)) : Sp (fM_reads_261 (b2i v) h) (MRd h0 (if qkd T q = 0 then (true, q, k, V, f) else rno q)) := by
  unfold fM_reads_261
  refine Sp_pos h29 ?_
  by_cases c : qkd T q = 0
  · rw [if_pos c]
    exact Sp_pos (H.2.2.1.1 c) (Sp_gg (gbo_b v) (Sp_some ⟨fr, fun _ => ⟨h29, h31, h32, by rw [hv]⟩, (fun z => by cases z)⟩))
  · rw [if_neg c]
    have : ¬ h 65 25 = 0 := by
      obtain ⟨-, -, ⟨-, k1, k2, k3, k4, k5⟩, -⟩ := H
      rcases qkd_cases T q with w | w
      · have : qkd T q = 1 ∨ qkd T q = 2 ∨ qkd T q = 3 ∨ qkd T q = 4 := by omega
        rcases this with e | e | e | e
        · rw [(k1 e).1]; decide
        · rw [(k2 e).1]; decide
        · rw [(k3 e).1]; decide
        · rw [k4 e]; decide
      · rw [(k5 w.1).1]; decide
    exact Sp_neg this (Sp_bind (fail_live H h29) (fun h1 _ g => Sp_gg (gbo_b v) (Sp_some ⟨nfr_tr fr (nfr_w g.1 (by omega)), (fun z => by cases z), fun _ => g.2⟩)))
theorem dead261 {h0 h : gH} {q : Nat} (v : Bool) (fr : nfr 24 32 h0 h) (h29 : h 65 29 = 1) (h30 : h 65 30 = nI q) : Sp (fM_reads_261 (b2i v) h) (MRd h0 (rno q)) := by
  unfold fM_reads_261
  exact Sp_neg (by rw [h29]; decide) (Sp_gg (gbo_b v) (Sp_some ⟨fr, (fun z => by cases z), fun _ => ⟨h29, h30⟩⟩))
theorem qcnt_padd (V : Nat → Bool) (v : Nat) : ∀ n, qcnt (padd V v) n ≤ qcnt V n + 1 ∧ (n ≤ v → qcnt (padd V v) n = qcnt V n) := by
  intro n
  induction n with
  | zero => exact ⟨Nat.zero_le _, fun _ => rfl⟩
  | succ n ih =>
    show (qcnt (padd V v) n + (if padd V v n then 1 else 0) ≤ qcnt V n + (if V n then 1 else 0) + 1) ∧ (n + 1 ≤ v → qcnt (padd V v) n + (if padd V v n then 1 else 0) = qcnt V n + (if V n then 1 else 0))
    by_cases c : n = v
    · refine ⟨?_, fun z => by omega⟩
      have := ih.2 (by omega)
      rw [this]
      split <;> omega
    · have : padd V v n = V n := by unfold padd; rw [decide_eq_false c, Bool.or_false]
      rw [this]
      refine ⟨by omega, fun z => ?_⟩
      rw [ih.2 (by omega)]
theorem qcnt_ne : qcnt qne 8 = 0 := by decide
/-- a new name, or a fault -/
def FRs (T : qTp) (h : gH) (q : Nat) (V : Nat → Bool) (p : Int32 × gH) : Prop := nfr 24 31 h p.2 ∧ (qfr T q V = true → p.2 65 29 = 0 ∧ RT p.2 T (qnt T q) ∧ p.2 65 31 = mkn 8 (padd V (qvl T q)) ∧ p.2 65 28 = nI 0 ∧ p.1 = h 80 (qvl T q)) ∧ (qfr T q V = false → p.2 65 29 = 1 ∧ p.2 65 30 = nI q)
theorem mfresh {T : qTp} (B : TpB T) {h : gH} {q : Nat} {V : Nat → Bool} (HT : MTp h T) (H : RT h T q) (h29 : h 65 29 = 0) (h31 : h 65 31 = mkn 8 V) (h28 : h 65 28 = nI 0) (hc : qcnt V 8 < 3) : Sp (fM_fresh h) (FRs T h q V) := by
  have nono : ∀ h1 : gH, nfr 24 31 h h1 → h1 65 29 = 1 → h1 65 30 = nI q → qfr T q V = false → Sp (fM_fresh_43 h1) (FRs T h q V) := by
    intro h1 f a b c
    unfold fM_fresh_43 fM_name fM_name_42
    refine Sp_bind (R := fun p => p.2 = h1) (Sp_neg (by rw [a]; decide) (Sp_eq (fail_dead a) (Sp_some rfl))) (fun p _ e => Sp_some ?_)
    rw [show p = (p.1, h1) from by rw [← e]]
    exact ⟨f, (fun z => by rw [c] at z; cases z), fun _ => ⟨a, b⟩⟩
  unfold fM_fresh
  refine Sp_pos h29 ?_
  by_cases k2 : qkd T q = 2
  · obtain ⟨e25, e27, v8⟩ := H.2.2.1.2.2.1 k2
    refine Sp_pos e25 (Sp_pos (by rw [e27]; exact nltT (c := 8) v8 (by decide)) ?_)
    cases c : V (qvl T q)
    · have qf : qfr T q V = true := by unfold qfr; rw [decide_eq_true k2, c]; rfl
      refine Sp_neg (by rw [h31, e27, mkn_test (by decide) v8, c]; decide) ?_
      unfold fM_fresh_43
      have hp := (qcnt_padd V (qvl T q) 8).1
      refine Sp_bind (mname B (d := 0) (V := V) HT H h29 h31 h28 k2) (fun p _ k => Sp_some ?_)
      rw [if_neg (show ¬ 3 < qcnt (padd V (qvl T q)) 8 by omega)] at k
      obtain ⟨a1, a2, a3, -⟩ := k
      obtain ⟨b1, b2, b3, b4⟩ := a3 rfl
      exact ⟨a1, fun _ => ⟨b1, b2, b3, a2, b4⟩, (fun z => by rw [qf] at z; cases z)⟩
    · have qf : qfr T q V = false := by unfold qfr; rw [c, Bool.not_true, Bool.and_false]
      refine Sp_pos (by rw [h31, e27, mkn_test (by decide) v8, c]; rfl) (Sp_bind (fail_live H h29) (fun h1 _ f => ?_))
      exact nono h1 (nfr_w f.1 (by omega)) f.2.1 f.2.2 qf
  · have qf : qfr T q V = false := by unfold qfr; rw [decide_eq_false k2]; rfl
    have go : Sp (fM_fresh_43 h) (FRs T h q V) := by
      unfold fM_fresh_43
      rw [name_other H h29 k2]
      unfold fM_name_42
      refine Sp_bind (R := fun p => nfr 24 31 h p.2 ∧ p.2 65 29 = 1 ∧ p.2 65 30 = nI q) (Sp_bind (fail_live H h29) (fun h1 _ f => Sp_some ⟨nfr_w f.1 (by omega), f.2⟩)) (fun p _ k => Sp_some ⟨k.1, (fun z => by rw [qf] at z; cases z), fun _ => k.2⟩)
    by_cases e : h 65 25 = 1
    · obtain ⟨-, -, ⟨k0, k1, -, k3, k4, k5⟩, -⟩ := H
      have k : qkd T q = 3 := by
        rcases qkd_cases T q with w | w
        · have : qkd T q = 0 ∨ qkd T q = 1 ∨ qkd T q = 3 ∨ qkd T q = 4 := by omega
          rcases this with a | a | a | a
          · rw [k0 a] at e; exact absurd e (by decide)
          · rw [(k1 a).1] at e; exact absurd e (by decide)
          · exact a
          · rw [k4 a] at e; exact absurd e (by decide)
        · rw [(k5 w.1).1] at e; exact absurd e (by decide)
      exact Sp_pos e (Sp_neg (by rw [(k3 k).2]; decide) go)
    · exact Sp_neg e go
/-- once it failed, it has failed -/
theorem dfresh {h : gH} (h29 : h 65 29 = 1) : fM_fresh h = some (0, h) := by
  unfold fM_fresh fM_fresh_43 fM_name fM_name_42
  rw [if_neg (by rw [h29]; decide), if_neg (by rw [h29]; decide), fail_dead h29]; rfl
theorem rn_skip {T : qTp} {p : Nat} (hp : p ≤ T.1) : qskip T (qskip T p) = qskip T p := by
  have := rn_ge (fun i => tws (T.2 i)) (T.1 - p) p
  unfold qskip
  exact rn_idem _ (by omega)
theorem qun2 {a b : Nat} (ha : a < 8) (hb : b < 8) (ab : a ≠ b) (e : Nat → Int32) : qun (padd (padd qne a) b) e = !decide (e a = e b) := by
  have va : padd (padd qne a) b a = true := by unfold padd; simp
  have vb : padd (padd qne a) b b = true := by unfold padd; simp
  cases c : decide (e a = e b)
  · have c := of_decide_eq_false c
    rw [Bool.not_false, qun_iff]
    intro i hi j hj vi vj ee
    have vi : i = a ∨ i = b := by unfold padd qne at vi; simpa using vi
    have vj : j = a ∨ j = b := by unfold padd qne at vj; simpa using vj
    rcases vi with rfl | rfl <;> rcases vj with rfl | rfl
    · rfl
    · exact absurd ee c
    · exact absurd ee.symm c
    · rfl
  · have c := of_decide_eq_true c
    rw [Bool.not_true, Bool.eq_false_iff, ne_eq, qun_iff]
    exact fun z => ab (z a ha b hb va vb c)
theorem qun3 {a b c : Nat} (ha : a < 8) (hb : b < 8) (hc : c < 8) (ab : a ≠ b) (ac : a ≠ c) (bc : b ≠ c) (e : Nat → Int32) : qun (padd (padd (padd qne a) b) c) e = (!decide (e a = e b) && (!decide (e a = e c) && !decide (e b = e c))) := by
  have va : padd (padd (padd qne a) b) c a = true := by unfold padd; simp
  have vb : padd (padd (padd qne a) b) c b = true := by unfold padd; simp
  have vc : padd (padd (padd qne a) b) c c = true := by unfold padd; simp
  by_cases c1 : e a = e b
  · rw [decide_eq_true c1, Bool.not_true, Bool.false_and, Bool.eq_false_iff, ne_eq, qun_iff]
    exact fun z => ab (z a ha b hb va vb c1)
  by_cases c2 : e a = e c
  · rw [decide_eq_true c2, Bool.not_true, Bool.false_and, Bool.and_false, Bool.eq_false_iff, ne_eq, qun_iff]
    exact fun z => ac (z a ha c hc va vc c2)
  by_cases c3 : e b = e c
  · rw [decide_eq_true c3, Bool.not_true, Bool.and_false, Bool.and_false, Bool.eq_false_iff, ne_eq, qun_iff]
    exact fun z => bc (z b hb c hc vb vc c3)
  rw [decide_eq_false c1, decide_eq_false c2, decide_eq_false c3, Bool.not_false, Bool.and_self, Bool.and_self, qun_iff]
  intro i hi j hj vi vj ee
  have vi : i = a ∨ i = b ∨ i = c := by unfold padd qne at vi; simpa [or_assoc] using vi
  have vj : j = a ∨ j = b ∨ j = c := by unfold padd qne at vj; simpa [or_assoc] using vj
  rcases vi with rfl | rfl | rfl <;> rcases vj with rfl | rfl | rfl
  · rfl
  · exact absurd ee c1
  · exact absurd ee c2
  · exact absurd ee.symm c1
  · rfl
  · exact absurd ee c3
  · exact absurd ee.symm c2
  · exact absurd ee.symm c3
  · rfl
theorem qfr_t {T : qTp} {q : Nat} {V : Nat → Bool} (h : qfr T q V = true) : qkd T q = 2 ∧ V (qvl T q) = false := by
  unfold qfr at h
  simpa using h
theorem RT_v8 {T : qTp} {h : gH} {q : Nat} (H : RT h T q) (k : qkd T q = 2) : qvl T q < 8 := (H.2.2.1.2.2.1 k).2.2
/-- distinct: behind the word -/
theorem mdist {T : qTp} (B : TpB T) {h0 h : gH} {q : Nat} (HT : MTp h T) (fr : nfr 24 32 h0 h) (H : RT h T q) (h29 : h 65 29 = 0) (h31 : h 65 31 = mkn 8 qne) (h28 : h 65 28 = nI 0) (h32 : h 65 32 = nI 2) : Sp ((fM_fresh h).bind fun p38 => (fM_fresh p38.2).bind fun p40 => if p38.1 = p40.1 then fM_reads_77 p38.1 p40.1 (0 : Int32) p40.2 else fM_reads_77 p38.1 p40.1 (1 : Int32) p40.2) (MRd h0 (qds T q)) := by
  have dd : ∀ (a b : Int32) (w : Bool) (h1 : gH) (p : Nat), nfr 24 32 h0 h1 → h1 65 29 = 1 → h1 65 30 = nI p → Sp (fM_reads_77 a b (b2i w) h1) (MRd h0 (rno p)) := by
    intro a b w h1 p f x y
    unfold fM_reads_77
    exact Sp_neg (by rw [x]; decide) (dead261 w f x y)
  refine Sp_bind (mfresh B HT H h29 h31 h28 (by rw [qcnt_ne]; decide)) (fun p1 _ k => ?_)
  obtain ⟨f1, a1, d1⟩ := k
  have fr1 : nfr 24 32 h0 p1.2 := nfr_tr fr (nfr_w f1 (by omega))
  unfold qds
  by_cases c1 : qfr T q qne = true
  · rw [if_pos c1]
    obtain ⟨b1, b2, b3, b4, b5⟩ := a1 c1
    have v1 := RT_v8 H (qfr_t c1).1
    have HT1 := MTp_nfr HT f1 (by omega)
    have n1 := (qcnt_padd qne (qvl T q) 8).1
    rw [qcnt_ne] at n1
    refine Sp_bind (mfresh B HT1 b2 b1 b3 b4 (by omega)) (fun p2 _ k => ?_)
    obtain ⟨f2, a2, d2⟩ := k
    have fr2 : nfr 24 32 h0 p2.2 := nfr_tr fr1 (nfr_w f2 (by omega))
    unfold qds3
    by_cases c2 : qfr T (qnt T q) (padd qne (qvl T q)) = true
    · rw [if_pos c2]
      obtain ⟨e1, e2, e3, e4, e5⟩ := a2 c2
      have v2 := RT_v8 b2 (qfr_t c2).1
      have ab : qvl T q ≠ qvl T (qnt T q) := fun z => by
        have := (qfr_t c2).2
        unfold padd at this
        rw [← z] at this
        simp at this
      have HT2 := MTp_nfr HT1 f2 (by omega)
      have n2 := (qcnt_padd (padd qne (qvl T q)) (qvl T (qnt T q)) 8).1
      rw [f1.1 80 (by decide), fr.1 80 (by decide)] at e5
      rw [fr.1 80 (by decide)] at b5
      have g32 : p2.2 65 32 = nI 2 := by rw [f2.2 32 (by omega), f1.2 32 (by omega)]; exact h32
      have fin : ∀ w : Bool, w = !decide (h0 80 (qvl T q) = h0 80 (qvl T (qnt T q))) → Sp (fM_reads_77 p1.1 p2.1 (b2i w) p2.2) (MRd h0 (qds2 T (qnt T (qnt T q)) (padd (padd qne (qvl T q)) (qvl T (qnt T q))))) := by
        intro w hw
        unfold fM_reads_77 qds2
        refine Sp_pos e1 ?_
        by_cases k0 : qkd T (qnt T (qnt T q)) = 0
        · rw [if_pos k0]
          refine Sp_pos (e2.2.2.1.1 k0) ?_
          have := end261 (h0 := h0) (q := qnt T (qnt T q)) w (f := qun (padd (padd qne (qvl T q)) (qvl T (qnt T q)))) fr2 e2 e1 e3 g32 (by rw [qun2 v1 v2 ab]; exact hw)
          rw [if_pos k0] at this
          exact this
        · rw [if_neg k0]
          have n25 : ¬ p2.2 65 25 = 0 := by
            obtain ⟨-, -, ⟨-, k1, k2, k3, k4, k5⟩, -⟩ := e2
            rcases qkd_cases T (qnt T (qnt T q)) with z | z
            · have : qkd T (qnt T (qnt T q)) = 1 ∨ qkd T (qnt T (qnt T q)) = 2 ∨ qkd T (qnt T (qnt T q)) = 3 ∨ qkd T (qnt T (qnt T q)) = 4 := by omega
              rcases this with e | e | e | e
              · rw [(k1 e).1]; decide
              · rw [(k2 e).1]; decide
              · rw [(k3 e).1]; decide
              · rw [k4 e]; decide
            · rw [(k5 z.1).1]; decide
          refine Sp_neg n25 (Sp_bind (mfresh B HT2 e2 e1 e3 e4 (by omega)) (fun p3 _ k => ?_))
          obtain ⟨f3, a3, d3⟩ := k
          have fr3 : nfr 24 32 h0 p3.2 := nfr_tr fr2 (nfr_w f3 (by omega))
          unfold fM_reads_118 fM_reads_119
          by_cases c3 : qfr T (qnt T (qnt T q)) (padd (padd qne (qvl T q)) (qvl T (qnt T q))) = true
          · rw [if_pos c3]
            obtain ⟨g1, g2, g3, g4, g5⟩ := a3 c3
            have v3 := RT_v8 e2 (qfr_t c3).1
            have vv := (qfr_t c3).2
            have ac : qvl T q ≠ qvl T (qnt T (qnt T q)) := fun z => by
              unfold padd at vv
              rw [← z] at vv
              simp at vv
            have bc : qvl T (qnt T q) ≠ qvl T (qnt T (qnt T q)) := fun z => by
              unfold padd at vv
              rw [← z] at vv
              simp at vv
            rw [f2.1 80 (by decide), f1.1 80 (by decide), fr.1 80 (by decide)] at g5
            have en : ∀ u : Bool, u = (!decide (h0 80 (qvl T q) = h0 80 (qvl T (qnt T q))) && (!decide (h0 80 (qvl T q) = h0 80 (qvl T (qnt T (qnt T q)))) && !decide (h0 80 (qvl T (qnt T q)) = h0 80 (qvl T (qnt T (qnt T q)))))) → Sp (fM_reads_261 (b2i u) p3.2) (MRd h0 (qds1 T (qnt T (qnt T (qnt T q))) (padd (padd (padd qne (qvl T q)) (qvl T (qnt T q))) (qvl T (qnt T (qnt T q)))))) := by
              intro u hu
              unfold qds1
              exact end261 (h0 := h0) u (f := qun _) fr3 g2 g1 g3 (by rw [f3.2 32 (by omega)]; exact g32) (by rw [qun3 v1 v2 v3 ab ac bc]; exact hu)
            rw [b5, e5, g5]
            cases w with
            | false => exact Sp_pos rfl (en false (by rw [← hw]; rfl))
            | true =>
              refine Sp_neg (by decide) ?_
              rw [← hw] at en
              by_cases u1 : h0 80 (qvl T q) = h0 80 (qvl T (qnt T (qnt T q)))
              · exact Sp_pos u1 (en false (by rw [decide_eq_true u1]; rfl))
              · refine Sp_neg u1 ?_
                by_cases u2 : h0 80 (qvl T (qnt T q)) = h0 80 (qvl T (qnt T (qnt T q)))
                · exact Sp_pos u2 (en false (by rw [decide_eq_true u2, decide_eq_false u1]; rfl))
                · exact Sp_neg u2 (en true (by rw [decide_eq_false u1, decide_eq_false u2]; rfl))
          · rw [if_neg c3]
            obtain ⟨g1, g2⟩ := d3 (Bool.eq_false_iff.mpr c3)
            have en : ∀ u : Bool, Sp (fM_reads_261 (b2i u) p3.2) (MRd h0 (rno (qnt T (qnt T q)))) := fun u => dead261 u fr3 g1 g2
            exact Sp_if (fun _ => en false) (fun _ => Sp_if (fun _ => en false) (fun _ => Sp_if (fun _ => en false) (fun _ => en true)))
      rw [b5, e5] at fin ⊢
      by_cases u : h0 80 (qvl T q) = h0 80 (qvl T (qnt T q))
      · exact Sp_pos u (fin false (by rw [decide_eq_true u]; rfl))
      · exact Sp_neg u (fin true (by rw [decide_eq_false u]; rfl))
    · rw [if_neg c2]
      obtain ⟨e1, e2⟩ := d2 (Bool.eq_false_iff.mpr c2)
      exact Sp_if (fun _ => dd _ _ false _ _ fr2 e1 e2) (fun _ => dd _ _ true _ _ fr2 e1 e2)
  · rw [if_neg c1]
    obtain ⟨e1, e2⟩ := d1 (Bool.eq_false_iff.mpr c1)
    refine Sp_eq (dfresh e1) ?_
    exact Sp_if (fun _ => dd _ _ false _ _ fr1 e1 e2) (fun _ => dd _ _ true _ _ fr1 e1 e2)
/-- a test, of a plain rule or of one that is bound -/
theorem mplain {T : qTp} (B : TpB T) {h0 h : gH} {q : Nat} {v2 : Int32} (HT : MTp h T) (fr : nfr 24 32 h0 h) (H : RT h T q) (h29 : h 65 29 = 0) (h31 : h 65 31 = mkn 8 qne) (h28 : h 65 28 = nI 0) (h32 : h 65 32 = nI 0) : Sp (fM_reads_218 v2 0 h) (MRd h0 (qpl T q)) := by
  unfold fM_reads_218
  refine Sp_bind (mtest B HT H h29 h31 h28) (fun p _ k => Sp_pos rfl ?_)
  obtain ⟨f, ⟨b, hb⟩, a, d⟩ := k
  have fr1 : nfr 24 32 h0 p.2 := nfr_tr fr (nfr_w f (by omega))
  unfold qpl
  by_cases c : tok T q qne = true
  · obtain ⟨a1, a2, a3, a4⟩ := a c
    rw [fr.1 80 (by decide)] at a4
    have := end261 (h0 := h0) (tval T q qne (h0 80)) (f := tval T q qne) fr1 a2 a1 a3 (by rw [f.2 32 (by omega)]; exact h32) rfl
    rw [a4]
    by_cases k0 : qkd T (tpl T q qne) = 0
    · rw [if_pos k0] at this; rw [if_pos ⟨c, k0⟩]; exact this
    · rw [if_neg k0] at this; rw [if_neg (fun z => k0 z.2)]; exact this
  · obtain ⟨a1, a2⟩ := d (Bool.eq_false_iff.mpr c)
    rw [if_neg (fun z => c z.1), hb]
    exact dead261 b fr1 a1 a2
theorem mbound {T : qTp} (B : TpB T) {h0 h : gH} {q b : Nat} (b8 : b < 8) (HT : MTp h T) (fr : nfr 24 32 h0 h) (H : RT h T q) (h29 : h 65 29 = 0) (h31 : h 65 31 = mkn 8 (padd qne b)) (h28 : h 65 28 = nI 0) (h32 : h 65 32 = nI 1) : Sp (fM_reads_218 (nI b) 1 h) (MRd h0 (qrf T b q)) := by
  unfold fM_reads_218
  refine Sp_bind (mtest B HT H h29 h31 h28) (fun p _ k => Sp_neg (by decide) (Sp_gg (gin_t b8 (by decide)) ?_))
  obtain ⟨f, ⟨w, hw⟩, a, d⟩ := k
  have fr1 : nfr 24 32 h0 p.2 := nfr_tr fr (nfr_w f (by omega))
  rw [clampn (by omega), fr1.1 80 (by decide)]
  have key : ∀ u : Bool, Sp (fM_reads_261 (b2i u) p.2) (MRd h0 (qrf T b q)) → u = ((decide (h0 80 b = 1) && w) || (decide (h0 80 b = 0) && !w)) → Sp (if h0 80 b = 1 then if p.1 = 0 then fM_reads_242 p.1 (nI b) p.2 else fM_reads_255 p.2 else fM_reads_242 p.1 (nI b) p.2) (MRd h0 (qrf T b q)) := by
    intro u hu eu
    unfold fM_reads_242 fM_reads_255 fM_reads_259 fM_reads_260
    rw [clampn (by omega), fr1.1 80 (by decide), hw]
    by_cases u1 : h0 80 b = 1
    · have u0 : ¬ h0 80 b = 0 := by rw [u1]; decide
      rw [decide_eq_true u1, decide_eq_false u0] at eu
      refine Sp_pos u1 ?_
      cases w with
      | false =>
        refine Sp_pos rfl (Sp_gg (gin_t b8 (by decide)) (Sp_neg u0 ?_))
        rw [eu] at hu; exact hu
      | true =>
        refine Sp_neg (by decide) ?_
        rw [eu] at hu; exact hu
    · rw [decide_eq_false u1] at eu
      refine Sp_neg u1 (Sp_gg (gin_t b8 (by decide)) ?_)
      by_cases u0 : h0 80 b = 0
      · rw [decide_eq_true u0] at eu
        refine Sp_pos u0 ?_
        cases w with
        | false => rw [eu] at hu; exact Sp_pos rfl hu
        | true => rw [eu] at hu; exact Sp_neg (by decide) hu
      · rw [decide_eq_false u0] at eu
        refine Sp_neg u0 ?_
        rw [eu] at hu; exact hu
  by_cases c : tok T q (padd qne b) = true
  · obtain ⟨a1, a2, a3, a4⟩ := a c
    rw [fr.1 80 (by decide)] at a4
    have ww : w = tval T q (padd qne b) (h0 80) := by
      rw [hw] at a4
      revert a4
      generalize tval T q (padd qne b) (h0 80) = z
      cases w <;> cases z <;> decide
    have := end261 (h0 := h0) ((decide (h0 80 b = 1) && w) || (decide (h0 80 b = 0) && !w)) (f := fun e => (decide (e b = 1) && tval T q (padd qne b) e) || (decide (e b = 0) && !tval T q (padd qne b) e)) fr1 a2 a1 a3 (by rw [f.2 32 (by omega)]; exact h32) (by rw [ww])
    by_cases k0 : qkd T (tpl T q (padd qne b)) = 0
    · rw [if_pos k0, ← qrf_t ⟨c, k0⟩] at this; exact key _ this rfl
    · rw [if_neg k0, ← qrf_f (b := b) (fun z => k0 z.2)] at this; exact key _ this rfl
  · obtain ⟨a1, a2⟩ := d (Bool.eq_false_iff.mpr c)
    have := dead261 (h0 := h0) ((decide (h0 80 b = 1) && w) || (decide (h0 80 b = 0) && !w)) fr1 a1 a2
    rw [← qrf_f (b := b) (fun z => c z.1)] at this
    exact key _ this rfl
theorem reads_sp {T : qTp} (B : TpB T) {h : gH} (HT : MTp h T) : Sp (fM_reads h) (MRd h (qrd T)) := by
  unfold fM_reads
  refine Sp_let (Sp_let (Sp_let (Sp_let (Sp_let ?_))))
  generalize hh : hu (hu (hu (hu (hu h 65 24 0) 65 28 0) 65 29 0) 65 31 0) 65 32 0 = h1
  have f1 : nfr 24 32 h h1 := by
    rw [← hh]
    exact nfr_tr (nfr_hu _ _ (by omega)) (nfr_tr (nfr_hu _ _ (by omega)) (nfr_tr (nfr_hu _ _ (by omega)) (nfr_tr (nfr_hu _ _ (by omega)) (nfr_hu _ _ (by omega)))))
  have a24 : h1 65 24 = nI 0 := by rw [← hh]; simp [hu_at, nI_0]
  have a28 : h1 65 28 = nI 0 := by rw [← hh]; simp [hu_at, nI_0]
  have a29 : h1 65 29 = 0 := by rw [← hh]; simp [hu_at]
  have a31 : h1 65 31 = mkn 8 qne := by rw [← hh]; simp [hu_at]; exact mkn_0 8 (by decide)
  have a32 : h1 65 32 = nI 0 := by rw [← hh]; simp [hu_at, nI_0]
  have HT1 := MTp_nfr HT f1 (by omega)
  refine Sp_bind (next_sp B HT1 (Nat.zero_le _) a24) (fun h2 _ g => ?_)
  obtain ⟨g1, g2⟩ := g
  have f2 : nfr 24 32 h h2 := nfr_tr f1 (nfr_w g1 (by omega))
  have HT2 := MTp_nfr HT f2 (by omega)
  have b28 : h2 65 28 = nI 0 := by rw [g1.2 28 (by omega)]; exact a28
  have b29 : h2 65 29 = 0 := by rw [g1.2 29 (by omega)]; exact a29
  have b31 : h2 65 31 = mkn 8 qne := by rw [g1.2 31 (by omega)]; exact a31
  have b32 : h2 65 32 = nI 0 := by rw [g1.2 32 (by omega)]; exact a32
  generalize hq : qskip T 0 = q at g2
  have qq : qskip T q = q := by rw [← hq]; exact rn_skip (Nat.zero_le _)
  have qrd_e : qrd T = if qkd T q = 3 then qds T (qnt T q) else if qkd T q = 2 ∧ qkd T (qnt T q) = 58 then qrf T (qvl T q) (qnt T (qnt T q)) else qpl T q := by unfold qrd; rw [hq]
  rw [qrd_e]
  -- a plain one: it goes back to the first token
  have plain : ∀ (s : Int32) (h3 : gH), nfr 24 27 h2 h3 → ¬ qkd T q = 3 → ¬ (qkd T q = 2 ∧ qkd T (qnt T q) = 58) → Sp (fM_reads_181 s (h2 65 26) h3) (MRd h (if qkd T q = 3 then qds T (qnt T q) else if qkd T q = 2 ∧ qkd T (qnt T q) = 58 then qrf T (qvl T q) (qnt T (qnt T q)) else qpl T q)) := by
    intro s h3 f3 c1 c2
    rw [if_neg c1, if_neg c2]
    unfold fM_reads_181 fM_reads_182
    refine Sp_pos rfl (Sp_let ?_)
    rw [g2.2.1]
    have f4 : nfr 24 27 h2 (hu h3 65 24 (nI q)) := nfr_tr f3 (nfr_hu _ _ (by omega))
    refine Sp_bind (next_sp B (MTp_nfr HT2 f4 (by omega)) g2.1 (hu_same _ _ _ _)) (fun h5 _ k => ?_)
    rw [qq] at k
    have f5 : nfr 24 27 h2 h5 := nfr_tr f4 k.1
    exact mplain B (MTp_nfr HT2 f5 (by omega)) (nfr_tr f2 (nfr_w f5 (by omega))) k.2 (by rw [f5.2 29 (by omega)]; exact b29) (by rw [f5.2 31 (by omega)]; exact b31) (by rw [f5.2 28 (by omega)]; exact b28) (by rw [f5.2 32 (by omega)]; exact b32)
  have other : ¬ qkd T q = 3 → Sp (fM_reads_123 h2) (MRd h (if qkd T q = 3 then qds T (qnt T q) else if qkd T q = 2 ∧ qkd T (qnt T q) = 58 then qrf T (qvl T q) (qnt T (qnt T q)) else qpl T q)) := by
    intro c3
    obtain ⟨-, r26, ⟨k0, k1, k2, -, k4, k5⟩, p, hp, e24, hs⟩ := g2
    unfold fM_reads_123
    by_cases c2 : qkd T q = 2
    · obtain ⟨e25, e27, v8⟩ := k2 c2
      refine Sp_pos e25 ?_
      rw [e27]
      unfold fM_reads_139
      refine Sp_bind (next_sp B HT2 hp e24) (fun h3 _ k => Sp_neg (neq_m1 (by omega)) ?_)
      rw [hs (by omega)] at k
      have nm := plain (nI (qvl T q)) h3 k.1 c3
      by_cases c58 : qkd T (qnt T q) = 58
      · obtain ⟨d25, d27, -⟩ := k.2.2.2.1.2.2.2.2.2 (by omega)
        have e0 : (if qkd T q = 3 then qds T (qnt T q) else if qkd T q = 2 ∧ qkd T (qnt T q) = 58 then qrf T (qvl T q) (qnt T (qnt T q)) else qpl T q) = qrf T (qvl T q) (qnt T (qnt T q)) := by rw [if_neg c3, if_pos ⟨c2, c58⟩]
        rw [e0]
        refine Sp_pos d25 (Sp_pos (by rw [d27, c58]; rfl) ?_)
        unfold fM_reads_182
        refine Sp_neg (by decide) (Sp_let (Sp_let ?_))
        rw [mkn_one (n := 8) (by decide) v8]
        have f4 : nfr 31 32 h3 (hu (hu h3 65 32 1) 65 31 (mkn 8 fun i => decide (i = qvl T q))) := nfr_tr (nfr_hu _ _ (by omega)) (nfr_hu _ _ (by omega))
        have HT3 := MTp_nfr HT2 k.1 (by omega)
        refine Sp_bind (next_rt B (MTp_nfr HT3 f4 (by omega)) (RT_nfr k.2 f4 (by omega)) (by omega)) (fun h5 _ m => ?_)
        have f5 : nfr 24 32 h2 h5 := nfr_tr (nfr_w k.1 (by omega)) (nfr_tr (nfr_w f4 (by omega)) (nfr_w m.1 (by omega)))
        refine mbound B v8 (MTp_nfr HT2 f5 (by omega)) (nfr_tr f2 f5) m.2 ?_ ?_ ?_ ?_
        · rw [m.1.2 29 (by omega), f4.2 29 (by omega), k.1.2 29 (by omega)]; exact b29
        · rw [m.1.2 31 (by omega), hu_same]
          exact mkn_congr (fun i _ => by unfold padd qne; rw [Bool.false_or])
        · rw [m.1.2 28 (by omega), f4.2 28 (by omega), k.1.2 28 (by omega)]; exact b28
        · rw [m.1.2 32 (by omega), hu_k _ _ _ _ (by decide), hu_same]; rfl
      · have nm := nm (fun z => c58 z.2)
        by_cases d25 : h3 65 25 = 3
        · refine Sp_pos d25 (Sp_neg ?_ nm)
          obtain ⟨-, -, ⟨j0, j1, j2, j3, j4, j5⟩, -⟩ := k.2
          rcases qkd_cases T (qnt T q) with w | w
          · have : qkd T (qnt T q) = 0 ∨ qkd T (qnt T q) = 1 ∨ qkd T (qnt T q) = 2 ∨ qkd T (qnt T q) = 3 ∨ qkd T (qnt T q) = 4 := by omega
            rcases this with a | a | a | a | a
            · rw [j0 a] at d25; exact absurd d25 (by decide)
            · rw [(j1 a).1] at d25; exact absurd d25 (by decide)
            · rw [(j2 a).1] at d25; exact absurd d25 (by decide)
            · rw [(j3 a).1] at d25; exact absurd d25 (by decide)
            · rw [j4 a] at d25; exact absurd d25 (by decide)
          · rw [(j5 w.1).2.1]
            exact fun z => c58 ((nI_eq (b := 58) (by omega) (by omega)).mp z)
        · exact Sp_neg d25 nm
    · have n1 : ¬ h2 65 25 = 1 := by
        rcases qkd_cases T q with w | w
        · have : qkd T q = 0 ∨ qkd T q = 1 ∨ qkd T q = 4 := by omega
          rcases this with a | a | a
          · rw [k0 a]; decide
          · rw [(k1 a).1]; decide
          · rw [k4 a]; decide
        · rw [(k5 w.1).1]; decide
      refine Sp_neg n1 ?_
      unfold fM_reads_139
      refine Sp_bind (next_sp B HT2 hp e24) (fun h3 _ k => Sp_pos rfl ?_)
      exact plain (-1) h3 k.1 c3 (fun z => c2 z.1)
  by_cases c3 : qkd T q = 3
  · obtain ⟨e25, e27⟩ := g2.2.2.1.2.2.2.1 c3
    rw [if_pos c3]
    refine Sp_pos e25 (Sp_pos e27 (Sp_let ?_))
    have f3 : nfr 32 32 h2 (hu h2 65 32 2) := nfr_hu _ _ (by omega)
    refine Sp_bind (next_rt B (MTp_nfr HT2 f3 (by omega)) (RT_nfr g2 f3 (by omega)) (by omega)) (fun h4 _ k => ?_)
    have f4 : nfr 24 32 h2 h4 := nfr_tr (nfr_w f3 (by omega)) (nfr_w k.1 (by omega))
    refine mdist B (MTp_nfr HT2 f4 (by omega)) (nfr_tr f2 f4) k.2 ?_ ?_ ?_ ?_
    · rw [k.1.2 29 (by omega), f3.2 29 (by omega)]; exact b29
    · rw [k.1.2 31 (by omega), f3.2 31 (by omega)]; exact b31
    · rw [k.1.2 28 (by omega), f3.2 28 (by omega)]; exact b28
    · rw [k.1.2 32 (by omega), hu_same]; rfl
  · have n8 : h2 65 25 = 1 → ¬ h2 65 27 = 8 := by
      intro e
      obtain ⟨-, -, ⟨k0, k1, k2, -, k4, k5⟩, -⟩ := g2
      rcases qkd_cases T q with w | w
      · have : qkd T q = 0 ∨ qkd T q = 1 ∨ qkd T q = 2 ∨ qkd T q = 4 := by omega
        rcases this with a | a | a | a
        · rw [k0 a] at e; exact absurd e (by decide)
        · rw [(k1 a).1] at e; exact absurd e (by decide)
        · obtain ⟨-, x, y⟩ := k2 a
          rw [x]; exact fun z => absurd ((nI_eq (b := 8) (by omega) (by omega)).mp z) (by omega)
        · rw [k4 a] at e; exact absurd e (by decide)
      · rw [(k5 w.1).1] at e; exact absurd e (by decide)
    have o := other c3
    exact Sp_if (fun e => Sp_neg (n8 e) o) (fun _ => o)
