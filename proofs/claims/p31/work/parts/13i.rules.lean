/-! the rules, taken in text by text -/
def sT (S : qW) (l : List Nat) : qW := l.foldl (fun S b => (s_feed S (nI b)).2) S
theorem W_sT : ∀ (l : List Nat) (S : qW), WI S → WI (sT S l) := by
  intro l
  induction l with
  | nil => intro S h; exact h
  | cons b l ih => intro S h; exact ih _ (W_feed h (nI b))
theorem sT_eq : ∀ (l : List Nat) (S : qW) (t : Nat) (f : Nat → Nat), S.2.2.2.1 = (t, f) → t + l.length ≤ 90 → (∀ b ∈ l, b < 256) → sT S l = setT S (t + l.length, tpf f t l) := by
  intro l
  induction l with
  | nil => intro S t f h _ _; show S = setT S (t, f); rw [← h]; rfl
  | cons b l ih =>
    intro S t f h hl hb
    rw [List.length_cons] at hl
    have hb0 := hb b List.mem_cons_self
    have e := s_feed3 (S := S) (k := b) (vis_nI hb0 (by decide)) hb0 (by rw [h]; show ¬ t = 90; omega)
    show sT (s_feed S (nI b)).2 l = _
    rw [e, h]
    have := ih (setT S (t + 1, updn f t b)) (t + 1) (updn f t b) rfl (by omega) (fun a ha => hb a (List.mem_cons_of_mem _ ha))
    rw [List.length_cons, show t + (l.length + 1) = t + 1 + l.length by omega]
    exact this
/-- behind j steps of the chain -/
def BS (S : qW) (j k : Nat) : Prop := WI S ∧ S.2.2.2.1 = (0, tpc k j) ∧ S.1.1 = j ∧ (∀ x v, S.2.1.1.1 x v = true) ∧ (∀ r, S.2.1.1.2.1 r = decide (r < j)) ∧ S.2.1.1.2.2.1 = false ∧ S.2.1.2.1.1 = 0 ∧ S.2.1.2.2.1.1 = 0 ∧ ∀ r, r < j → (∀ x, x < 8 → S.1.2.1 r x = (decide (x = r) || decide (x = r + 1))) ∧ S.1.2.2.2 r = 0 ∧ ∀ y, y < 10 → ∀ z, z < 10 → S.1.2.2.1 r y z 0 = decide (y + (k - 1) < z)
theorem BS0 (k : Nat) : BS S00 0 k := ⟨W00, rfl, rfl, fun _ _ => rfl, fun r => (decide_eq_false (Nat.not_lt_zero r)).symm, rfl, rfl, rfl, fun r h => absurd h (Nat.not_lt_zero r)⟩
theorem a10_at {p : Nat → Bool} (h : a10 p = true) {i : Nat} (hi : i < 10) : p i = true := List.all_eq_true.mp h i (List.mem_range.mpr hi)
theorem s_rule_ok {S : qW} {Ts : Nat → Nat → Nat → Bool} (h16 : ¬ S.1.1 = 16) (f0 : S.2.1.1.2.2.1 = false) (hr : (qrd S.2.2.2.1).1 = true) : s_rule S Ts = (nI S.1.1, (Rnew S.1 (qrd S.2.2.2.1) Ts, Knew S.2.1 S.1.1, S.2.2.1, (0, S.2.2.2.1.2), S.2.2.2.2)) := by
  unfold s_rule
  rw [if_neg h16, if_neg (by rw [f0]; decide), if_pos hr]
theorem tx1_lt {j k : Nat} (hj : j < 5) (hk : k < 3) : ∀ b ∈ tx1 j k, b < 256 := by
  intro b hb
  unfold tx1 at hb
  simp only [List.mem_cons, List.not_mem_nil, or_false] at hb
  omega
theorem tx2_lt {k : Nat} (hk : k < 3) : ∀ b ∈ tx2 k, b < 256 := by
  intro b hb
  unfold tx2 at hb
  simp only [List.mem_cons, List.not_mem_nil, or_false] at hb
  omega
theorem BS_step {S : qW} {j k : Nat} (h : BS S j k) (hj : j < 5) (k1 : 1 ≤ k) (k2 : k < 3) : (s_rule (sT S (tx1 j k)) Ts0).1 = nI j ∧ BS (s_rule (sT S (tx1 j k)) Ts0).2 (j + 1) k := by
  obtain ⟨hW, hT, hn, hD, hQ, f0, hd, hl, hR⟩ := h
  have hW1 := W_sT (tx1 j k) S hW
  have e := sT_eq (tx1 j k) S 0 (tpc k j) hT (by show 0 + 5 ≤ 90; omega) (tx1_lt hj k2)
  have e2 : sT S (tx1 j k) = setT S (5, tpc k (j + 1)) := e
  have ok := ok1_all k k2 k1 j hj
  unfold ok1 at ok
  rw [Bool.and_eq_true, Bool.and_eq_true, Bool.and_eq_true, decide_eq_true_eq] at ok
  obtain ⟨o1, o2, o3, o4⟩ := ok
  have hr : s_rule (sT S (tx1 j k)) Ts0 = _ := s_rule_ok (Ts := Ts0) (by rw [e2]; show ¬ S.1.1 = 16; omega) (by rw [e2]; exact f0) (by rw [e2]; exact o1)
  have hW2 : WI (s_rule (sT S (tx1 j k)) Ts0).2 := W_rule hW1
  rw [hr] at hW2 ⊢
  rw [e2] at hW2 ⊢
  refine ⟨by show nI S.1.1 = nI j; rw [hn], hW2, rfl, by show S.1.1 + 1 = j + 1; rw [hn], hD, fun r => ?_, f0, hd, hl, fun r hrj => ?_⟩
  · show (S.2.1.1.2.1 r || decide (r = S.1.1)) = decide (r < j + 1)
    rw [hQ r, hn, Bool.eq_iff_iff, Bool.or_eq_true, decide_eq_true_eq, decide_eq_true_eq, decide_eq_true_eq]
    omega
  · by_cases er : r = j
    · subst er
      refine ⟨fun x hx => ?_, ?_, fun y hy z hz => ?_⟩
      · show updg S.1.2.1 S.1.1 (rd1 k r).2.2.2.1 r x = _
        unfold updg
        rw [if_pos hn.symm]
        exact eq_of_beq (List.all_eq_true.mp o3 x (List.mem_range.mpr hx))
      · show updg S.1.2.2.2 S.1.1 (rd1 k r).2.2.1 r = 0
        unfold updg
        rw [if_pos hn.symm]; exact o2
      · show updg S.1.2.2.1 S.1.1 (tabW (rd1 k r).2.2.2.2 (rd1 k r).2.2.2.1 Ts0) r y z 0 = _
        unfold updg
        rw [if_pos hn.symm]
        exact eq_of_beq (a10_at (a10_at o4 hy) hz)
    · obtain ⟨g1, g2, g3⟩ := hR r (by omega)
      have ne : ¬ r = S.1.1 := by omega
      refine ⟨fun x hx => ?_, ?_, fun y hy z hz => ?_⟩
      · show updg S.1.2.1 S.1.1 (rd1 k j).2.2.2.1 r x = _
        unfold updg
        rw [if_neg ne]; exact g1 x hx
      · show updg S.1.2.2.2 S.1.1 (rd1 k j).2.2.1 r = 0
        unfold updg
        rw [if_neg ne]; exact g2
      · show updg S.1.2.2.1 S.1.1 (tabW (rd1 k j).2.2.2.2 (rd1 k j).2.2.2.1 Ts0) r y z 0 = _
        unfold updg
        rw [if_neg ne]; exact g3 y hy z hz
theorem vls_of {vs : Nat → Bool} {l : List Nat} {p : Nat → Bool} (h : ∀ x, x < 8 → vs x = p x) (hl : (List.range 8).filter p = l) : vls vs = l := by
  unfold vls
  rw [← hl]
  exact List.filter_congr (fun x hx => h x (List.mem_range.mp hx))
theorem vl2 : ∀ r, r < 6 → (List.range 8).filter (fun x => decide (x = r) || decide (x = r + 1)) = [r, r + 1] := by decide +kernel
theorem BS_end0 {S : qW} {n k : Nat} (R : rdR) (T : qTp) (h : BS S (n - 1) k) (hN : lawN n k) (hW2 : WI (Rnew S.1 R Ts0, Knew S.2.1 S.1.1, S.2.2.1, T, S.2.2.2.2)) (o2 : R.2.2.1 = 1) (o3 : (List.range 8).all (fun x => R.2.2.2.1 x == (decide (x = 0) || (decide (x = 1) || decide (x = 7)))) = true) (o4 : a10 (fun x => a10 (fun y => a10 (fun z => tabW R.2.2.2.2 R.2.2.2.1 Ts0 x y z == (if z = 1 then decide (x + k < y) else if z = 0 then !decide (x + k < y) else false)))) = true) : CS (Rnew S.1 R Ts0, Knew S.2.1 S.1.1, S.2.2.1, T, S.2.2.2.2) n k (cfull, 2 ^ n - 1) [] 0 := by
  obtain ⟨n1, n2, k1, k2⟩ := id hN
  obtain ⟨hW, hT, hn, hD, hQ, f0, hd, hl, hR⟩ := h
  have v1 : ∀ r, r + 1 < n → ∀ x, x < 8 → updg S.1.2.1 S.1.1 R.2.2.2.1 r x = (decide (x = r) || decide (x = r + 1)) := fun r hr x hx => by
    unfold updg
    rw [if_neg (by omega)]; exact (hR r (by omega)).1 x hx
  have v2 : ∀ x, x < 8 → updg S.1.2.1 S.1.1 R.2.2.2.1 (n - 1) x = (decide (x = 0) || (decide (x = 1) || decide (x = 7))) := fun x hx => by
    unfold updg
    rw [if_pos hn.symm]
    exact eq_of_beq (List.all_eq_true.mp o3 x (List.mem_range.mpr hx))
  refine ⟨hW2, hN, ⟨?_, rfl, fun _ => rfl, fun r hr x hx => ?_, fun r hr => ?_, fun r hr y hy z hz => ?_, fun x hx y hy z hz => ?_⟩, ⟨fun q => ?_, fun _ => ⟨f0, fun x hx v hv => ?_, cfull_NZ⟩, fun r hr => ?_, fun r _ q => ?_⟩, hd, fun j d hj => ?_, hl⟩
  · show S.1.1 + 1 = n
    omega
  · show updg S.1.2.1 S.1.1 R.2.2.2.1 r x = cvs n r x
    unfold cvs
    by_cases h1 : r + 1 < n
    · rw [if_pos h1]; exact v1 r h1 x hx
    · have er : r = n - 1 := by omega
      subst er
      rw [if_neg h1, decide_eq_true (show n - 1 + 1 = n by omega), Bool.true_and]
      exact v2 x hx
  · show (vls (updg S.1.2.1 S.1.1 R.2.2.2.1 r)).length + updg S.1.2.2.2 S.1.1 R.2.2.1 r = cpr n r
    unfold cpr
    by_cases h1 : r + 1 < n
    · rw [if_pos h1, vls_of (v1 r h1) (vl2 r (by omega))]
      unfold updg
      rw [if_neg (by omega), (hR r (by omega)).2.1]; rfl
    · have er : r = n - 1 := by omega
      subst er
      rw [if_neg h1, vls_of v2 (by decide +kernel : (List.range 8).filter (fun x => decide (x = 0) || (decide (x = 1) || decide (x = 7))) = [0, 1, 7])]
      unfold updg
      rw [if_pos hn.symm, o2]; rfl
  · show updg S.1.2.2.1 S.1.1 (tabW R.2.2.2.2 R.2.2.2.1 Ts0) r y z 0 = _
    unfold updg
    rw [if_neg (by omega)]; exact (hR r (by omega)).2.2 y hy z hz
  · show updg S.1.2.2.1 S.1.1 (tabW R.2.2.2.2 R.2.2.2.1 Ts0) (n - 1) x y z = _
    unfold updg
    rw [if_pos hn.symm]
    exact eq_of_beq (a10_at (a10_at (a10_at o4 hx) hy) hz)
  · have q : cfull = 0 := q
    exact absurd q (by decide)
  · show S.2.1.1.1 x v = _
    rw [hD x v, cfull_tb (by omega)]
  · show (S.2.1.1.2.1 r || decide (r = S.1.1)) = (2 ^ n - 1).testBit r
    rw [hQ r, hn, Nat.testBit_two_pow_sub_one, Bool.eq_iff_iff, Bool.or_eq_true, decide_eq_true_eq, decide_eq_true_eq, decide_eq_true_eq]
    omega
  · have q : (2 ^ n - 1).testBit r = true := q
    rw [Nat.testBit_two_pow_sub_one] at q
    exact of_decide_eq_true q
  · cases hj
theorem BS_end {S : qW} {n k : Nat} (h : BS S (n - 1) k) (hN : lawN n k) : (s_rule (sT S (tx2 k)) Ts0).1 = nI (n - 1) ∧ CS (s_rule (sT S (tx2 k)) Ts0).2 n k (cfull, 2 ^ n - 1) [] 0 := by
  obtain ⟨n1, n2, k1, k2⟩ := id hN
  have hW1 := W_sT (tx2 k) S h.1
  have e2 : sT S (tx2 k) = setT S (7, tpf (tpc k (n - 1)) 0 (tx2 k)) := sT_eq (tx2 k) S 0 (tpc k (n - 1)) h.2.1 (by show 0 + 7 ≤ 90; omega) (tx2_lt k2)
  have ok := ok2_all k k2 k1 n n2 n1
  unfold ok2 at ok
  rw [Bool.and_eq_true, Bool.and_eq_true, Bool.and_eq_true, decide_eq_true_eq] at ok
  obtain ⟨o1, o2, o3, o4⟩ := ok
  have hn := h.2.2.1
  have hr : s_rule (sT S (tx2 k)) Ts0 = (nI S.1.1, (Rnew S.1 (rd2 k n) Ts0, Knew S.2.1 S.1.1, S.2.2.1, (0, tpf (tpc k (n - 1)) 0 (tx2 k)), S.2.2.2.2)) := by
    rw [e2]
    exact s_rule_ok (S := setT S (7, tpf (tpc k (n - 1)) 0 (tx2 k))) (Ts := Ts0) (show ¬ S.1.1 = 16 by omega) h.2.2.2.2.2.1 o1
  have hW2 : WI (s_rule (sT S (tx2 k)) Ts0).2 := W_rule hW1
  rw [hr] at hW2 ⊢
  generalize rd2 k n = R at hW2 o2 o3 o4 ⊢
  exact ⟨by show nI S.1.1 = nI (n - 1); rw [hn], BS_end0 R _ h hN hW2 o2 o3 o4⟩
