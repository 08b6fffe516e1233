/-! why, search, all solutions, least and greatest, by numbers -/
/-- whether a value is gone, or all has failed (variable 8: of a failure), from the start with some decisions -/
def cgone (n k : Nat) (ds : List (Nat × Nat)) (a u v : Nat) : Bool := match cthink n k (fun i => a.testBit i) ds with
  | (D, _) => fN D fun D => decide (D = 0) || (decide (u < 8) && !fD D u v)
def cwhyf (n k : Nat) (ds : List (Nat × Nat)) (u v : Nat) : Nat → Nat → Nat → Nat
  | _, 0, a => a
  | i, m + 1, a => fN (if a.testBit i = true then a ^^^ 2 ^ i else a) fun b => cwhyf n k ds u v (i + 1) m (if cgone n k ds b u v = true then b else a)
/-- the decisions (bits); 99999: it doesn't go -/
def cwhy (n k : Nat) (ds : List (Nat × Nat)) (u v : Nat) : Nat := if cgone n k ds (2 ^ ds.length - 1) u v = true then cwhyf n k ds u v 0 ds.length (2 ^ ds.length - 1) else 99999
theorem qthink_cg {E : qE} {b : Option Nat} {dec : Nat → Nat × Int32} {mk mk2 : Nat → Bool} {d : Nat} (h : ∀ i, i < d → mk i = mk2 i) : qthink E b dec mk d = qthink E b dec mk2 d := by
  have e : ∀ (m i : Nat) (P : qP), i + m ≤ d → qdcs (Ebt E b) dec mk (fun i => nI (100 + i)) i m P = qdcs (Ebt E b) dec mk2 (fun i => nI (100 + i)) i m P := by
    intro m
    induction m with
    | zero => intro i P _; rfl
    | succ m ih =>
      intro i P hi
      unfold qdcs
      rw [h i (by omega)]
      split
      · rfl
      · exact ih (i + 1) _ (by omega)
  unfold qthink qst
  rw [e d 0 qP0 (by omega)]
theorem allm_nI : ∀ d, d < 13 → allm d = nI (2 ^ d - 1) := by decide +kernel
theorem off_nI {a i : Nat} (hi : i < 31) : bitoff (nI a) i = nI (if a.testBit i = true then a ^^^ 2 ^ i else a) := by
  refine bt_ext (fun j hj => ?_)
  unfold bitoff
  rw [bt_and, bt_not _ hj, bt_shl1 (by omega), nI_bt hj, nI_bt hj]
  by_cases h : a.testBit i = true
  · rw [if_pos h, Nat.testBit_xor, Nat.testBit_two_pow]
    by_cases e : j = i
    · subst e; rw [h]; simp
    · rw [decide_eq_false e, decide_eq_false (fun q => e q.symm)]; simp
  · rw [if_neg h]
    by_cases e : j = i
    · subst e
      have : a.testBit j = false := by
        cases q : a.testBit j with
        | false => rfl
        | true => exact absurd q h
      rw [this]; rfl
    · rw [decide_eq_false e]; simp
section
variable {S : qW} {n k D Q lv x : Nat} {ds : List (Nat × Nat)}
theorem gone_ok {c : Nat × Nat} (h : CS S n k c ds lv) (hl : ds.length < 13) (a u v : Nat) (v1 v2 : Int32) (hu : vin 8 v1 = if u < 8 then some u else none) (hv : u < 8 → vN v2 = v ∧ v < 10) : s_gone S (nI a) v1 v2 = cgone n k ds a u v := by
  obtain ⟨hW, hN, hE, hR, hd, hdc, hlv⟩ := h
  have t := think_ok hE hN S.2.1.2.1.2 (fun i => a.testBit i) ds hdc
  have e : qthink (Et S.1) none S.2.1.2.1.2 (bt (nI a)) S.2.1.2.1.1 = qthink (Et S.1) none S.2.1.2.1.2 (fun i => a.testBit i) ds.length := by
    rw [hd]; exact qthink_cg (fun i hi => nI_bt (by omega))
  unfold s_gone cgone
  rw [e]
  generalize qthink (Et S.1) none S.2.1.2.1.2 (fun i => a.testBit i) ds.length = P at t
  generalize cthink n k (fun i => a.testBit i) ds = q at t
  obtain ⟨D1, Q1⟩ := q
  show _ = fN D1 fun D => decide (D = 0) || (decide (u < 8) && !fD D u v)
  rw [fN_eq]
  by_cases hD : D1 = 0
  · rw [(t.1 hD).1, decide_eq_true hD]; rfl
  · obtain ⟨f0, hA, hZ⟩ := t.2.1 hD
    rw [f0, decide_eq_false hD, Bool.false_or, Bool.false_or, hu]
    by_cases h8 : u < 8
    · obtain ⟨e1, e2⟩ := hv h8
      rw [if_pos h8, decide_eq_true h8, Bool.true_and]
      dsimp only
      rw [e1, hA u h8 v e2]
      rfl
    · rw [if_neg h8, decide_eq_false h8]; rfl
theorem whyf_ok {c : Nat × Nat} (h : CS S n k c ds lv) (hl : ds.length < 13) (u v : Nat) (v1 v2 : Int32) (hu : vin 8 v1 = if u < 8 then some u else none) (hv : u < 8 → vN v2 = v ∧ v < 10) : ∀ (m i a : Nat), i + m ≤ ds.length → whyf S v1 v2 i m (nI a) = nI (cwhyf n k ds u v i m a) := by
  intro m
  induction m with
  | zero => intro i a _; rfl
  | succ m ih =>
    intro i a hi
    unfold whyf cwhyf
    rw [fN_eq, off_nI (by omega), gone_ok h hl _ u v v1 v2 hu hv]
    generalize (if a.testBit i = true then a ^^^ 2 ^ i else a) = b
    by_cases g : cgone n k ds b u v = true
    · rw [if_pos g, if_pos g]; exact ih (i + 1) b (by omega)
    · rw [if_neg g, if_neg g]; exact ih (i + 1) a (by omega)
theorem cs_why {c : Nat × Nat} (h : CS S n k c ds lv) (hl : ds.length < 13) (u v : Nat) (v1 v2 : Int32) (hb : ¬ (¬ v1 = -1 ∧ (vis 8 v1 && vis 10 v2) = false)) (hu : vin 8 v1 = if u < 8 then some u else none) (hv : u < 8 → vN v2 = v ∧ v < 10) (hw : ¬ cwhy n k ds u v = 99999) : s_why S v1 v2 = nI (cwhy n k ds u v) := by
  unfold s_why
  rw [if_neg hb, h.2.2.2.2.1, allm_nI _ hl, gone_ok h hl _ u v v1 v2 hu hv]
  unfold cwhy at hw ⊢
  by_cases hg : cgone n k ds (2 ^ ds.length - 1) u v = true
  · rw [if_pos hg, if_pos hg]
    exact whyf_ok h hl u v v1 v2 hu hv ds.length 0 _ (by omega)
  · rw [if_neg hg] at hw
    exact absurd rfl hw
/-- why of a value, of a failure -/
theorem cs_why1 {c : Nat × Nat} (h : CS S n k c ds lv) (hl : ds.length < 13) {u v : Nat} (hu : u < 8) (hv : v < 10) (hw : ¬ cwhy n k ds u v = 99999) : s_why S (nI u) (nI v) = nI (cwhy n k ds u v) := by
  refine cs_why h hl u v (nI u) (nI v) ?_ ?_ ?_ hw
  · rw [vis_nI hu (by decide), vis_nI hv (by decide)]
    exact fun q => by cases q.2
  · exact vin_nI (by omega)
  · exact fun _ => ⟨vN_nI (by omega), hv⟩
theorem cs_why2 {c : Nat × Nat} (h : CS S n k c ds lv) (hl : ds.length < 13) (v2 : Int32) (hw : ¬ cwhy n k ds 8 0 = 99999) : s_why S (-1) v2 = nI (cwhy n k ds 8 0) := by
  refine cs_why h hl 8 0 (-1) v2 (fun q => q.1 rfl) ?_ (fun q => absurd q (by omega)) hw
  rw [if_neg (by omega)]
  decide
theorem cs_go (h : CS S n k (D, Q) ds lv) (P0 : qP) (D1 Q1 ch pk mo : Nat) (ln al : Bool) (hc : ch < 3) (hR : RP n P0 (D1, Q1)) : SR (s_go S P0 ch pk mo ln al) 0 (csr n k ch pk mo al 9 D1 Q1 0) := by
  obtain ⟨hW, hN, hE, -⟩ := h
  exact sr_ok hE hN (scfg S ch pk mo ln al) hc 9 [] P0 D1 Q1 0 0 0 (fun _ => 0) hR
/-- the digits of what was found -/
def cdg (D : Nat) : Nat := sdg (fun x => nthb (fD D x) 10 0 0) 8 0 0
theorem sdg_cg {f g : Nat → Nat} : ∀ (m k a : Nat), (∀ x, x < k + m → f x = g x) → sdg f m k a = sdg g m k a := by
  intro m
  induction m with
  | zero => intro k a _; rfl
  | succ m ih => intro k a h; unfold sdg; rw [h k (by omega)]; exact ih (k + 1) _ (fun x hx => h x (by omega))
def cfind (n k ch pk : Nat) (D Q : Nat) : Int32 := match csr n k ch pk 100 false 9 D Q 0 with
  | (c, _, _, D3) => if c = 2 then -6 else if c = 1 then nI (cdg D3) else -1
theorem cs_search0 (h : CS S n k (D, Q) ds lv) (ch pk : Nat) (ln : Int32) (hc : ch < 3) (hp : pk < 3) (hln : vis 2 ln = true) (h9 : ¬ (csr n k ch pk 100 false 9 D Q 0).1 = 9) : s_search S (nI ch) (nI pk) ln 0 = cfind n k ch pk D Q := by
  have g := cs_go h S.2.1.1 D Q ch pk 100 (decide (ln = 1)) false hc h.2.2.2.1 h9
  unfold s_search cfind
  rw [if_pos (by rw [vis_nI (show ch < 4 by omega) (by decide), vis_nI hp (by decide), hln]; decide), vN_nI (by omega), vN_nI (by omega)]
  generalize s_go S S.2.1.1 ch pk 100 (decide (ln = 1)) false = r at g ⊢
  generalize csr n k ch pk 100 false 9 D Q 0 = q at g
  obtain ⟨c, t, f, D3⟩ := q
  obtain ⟨a1, a2, a3, a4⟩ := g
  have a1 : r.1 = c := a1
  dsimp only
  rw [a1, if_pos rfl]
  by_cases c2 : c = 2
  · rw [if_pos c2, if_pos c2]
  · rw [if_neg c2, if_neg c2]
    by_cases c1 : c = 1
    · rw [if_pos c1, if_pos c1]
      congr 1
      exact sdg_cg 8 0 0 (fun x hx => a4 c1 x (by omega))
    · rw [if_neg c1, if_neg c1]
theorem cs_search1 (h : CS S n k (D, Q) ds lv) (ch pk : Nat) (ln : Int32) (hc : ch < 3) (hp : pk < 3) (hln : vis 2 ln = true) (h9 : ¬ (csr n k ch pk 100 false 9 D Q 0).1 = 9) (h2 : ¬ (csr n k ch pk 100 false 9 D Q 0).1 = 2) : s_search S (nI ch) (nI pk) ln 1 = nI (csr n k ch pk 100 false 9 D Q 0).2.1 := by
  have g := cs_go h S.2.1.1 D Q ch pk 100 (decide (ln = 1)) false hc h.2.2.2.1 h9
  unfold s_search
  rw [if_pos (by rw [vis_nI (show ch < 4 by omega) (by decide), vis_nI hp (by decide), hln]; decide), vN_nI (by omega), vN_nI (by omega)]
  obtain ⟨a1, a2, a3, a4⟩ := g
  rw [if_neg (by rw [a1]; exact h2), if_neg (by decide), if_pos rfl, a2]
theorem cs_solutions (h : CS S n k (D, Q) ds lv) (h9 : ¬ (csr n k 0 0 300 true 9 D Q 0).1 = 9) (h2 : ¬ (csr n k 0 0 300 true 9 D Q 0).1 = 2) : s_solutions S = (nI (csr n k 0 0 300 true 9 D Q 0).2.2.1).toInt64 := by
  obtain ⟨a1, a2, a3, a4⟩ := cs_go h S.2.1.1 D Q 0 0 300 false true (by omega) h.2.2.2.1 h9
  unfold s_solutions
  rw [if_neg (by rw [a1]; exact h2), a3, Nat.zero_add]
/-- least (w 0) and greatest (1); -99: another way than this one -/
def crch (n k D Q x w : Nat) : Nat → Nat → Int32
  | 0, _ => -1
  | m + 1, j => fN (if w = 0 then j else 9 - j) fun v => if fD D x v = true then (match cst n D Q x (2 ^ v) with
      | (D2, Q2) => fN D2 fun D2 => fN Q2 fun Q2 => match csr n k 0 0 100 false 9 D2 Q2 0 with
        | (c, _, _, _) => if c = 9 then -99 else if c = 2 then -6 else if c = 1 then nI v else crch n k D Q x w m (j + 1)) else crch n k D Q x w m (j + 1)
theorem rch_ok (h : CS S n k (D, Q) ds lv) (hD : ¬ D = 0) (hx : x < 8) {w : Nat} (hw : w < 2) : ∀ (m j : Nat), j + m ≤ 10 → ¬ crch n k D Q x w m j = -99 → rch S x (nI w) m j = crch n k D Q x w m j := by
  have hR := h.2.2.2.1
  obtain ⟨f0, hA, hZ⟩ := hR.2.1 hD
  intro m
  induction m with
  | zero => intro j _ _; rfl
  | succ m ih =>
    intro j hj h99
    have ev : rcv (nI w) j = if w = 0 then j else 9 - j := by
      unfold rcv
      by_cases w0 : w = 0
      · subst w0; rw [if_pos rfl, if_pos (by decide)]
      · have w1 : w = 1 := by omega
        subst w1; rw [if_neg (by decide), if_neg (by decide)]
    unfold rch
    unfold crch at h99 ⊢
    rw [fN_eq] at h99 ⊢
    rw [ev]
    have hv : (if w = 0 then j else 9 - j) < 10 := by split <;> omega
    generalize (if w = 0 then j else 9 - j) = v at hv h99 ⊢
    have ed : (!S.2.1.1.2.2.1 && S.2.1.1.1 x v) = fD D x v := by
      rw [f0, hA x hx v hv]; rfl
    rw [ed]
    by_cases hf : fD D x v = true
    · rw [if_pos hf] at h99 ⊢
      rw [if_pos hf]
      have h2 : RP n (qnw (Et S.1) x (sbit v) 100 S.2.1.1) (cst n D Q x (2 ^ v)) := nw_ok h.2.2.1 h.2.1 hR hD hx (sbit_tb hv)
      generalize hq : cst n D Q x (2 ^ v) = q2 at h2 h99 ⊢
      obtain ⟨D2, Q2⟩ := q2
      dsimp only at h99 ⊢
      rw [fN_eq, fN_eq] at h99 ⊢
      have g := cs_go h _ D2 Q2 0 0 100 false false (by omega) h2
      unfold rgo
      generalize s_go S (qnw (Et S.1) x (sbit v) 100 S.2.1.1) 0 0 100 false false = r at g ⊢
      generalize csr n k 0 0 100 false 9 D2 Q2 0 = q3 at g h99 ⊢
      obtain ⟨c, t, f, D3⟩ := q3
      dsimp only at h99 ⊢
      by_cases c9 : c = 9
      · rw [if_pos c9] at h99; exact absurd rfl h99
      · rw [if_neg c9] at h99 ⊢
        obtain ⟨a1, -⟩ := g c9
        have a1 : r.1 = c := a1
        rw [a1]
        by_cases c2 : c = 2
        · rw [if_pos c2, if_pos c2]
        · rw [if_neg c2] at h99 ⊢
          rw [if_neg c2]
          by_cases c1 : c = 1
          · rw [if_pos c1, if_pos c1]
          · rw [if_neg c1] at h99 ⊢
            rw [if_neg c1]
            exact ih (j + 1) (by omega) h99
    · rw [if_neg hf] at h99 ⊢
      rw [if_neg hf]
      exact ih (j + 1) (by omega) h99
theorem cs_reach (h : CS S n k (D, Q) ds lv) (hD : ¬ D = 0) (hx : x < 8) {w : Nat} (hw : w < 2) (h99 : ¬ crch n k D Q x w 10 0 = -99) : s_reach S (nI x) (nI w) = crch n k D Q x w 10 0 := by
  unfold s_reach
  rw [vin_nI (by omega), if_pos hx]
  dsimp only
  rw [if_pos (vis_nI hw (by decide))]
  exact rch_ok h hD hx hw 10 0 (by omega) h99
end
