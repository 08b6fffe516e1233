/-! the whole state, by numbers -/
def CS (S : qW) (n k : Nat) (c : Nat × Nat) (ds : List (Nat × Nat)) (lv : Nat) : Prop := WI S ∧ lawN n k ∧ RE (Et S.1) n k ∧ RP n S.2.1.1 c ∧ S.2.1.2.1.1 = ds.length ∧ Dcs S.2.1.2.1.2 0 ds ∧ S.2.1.2.2.1.1 = lv
/-- what comes of a state by decisions and runs -/
def FR (S S2 : qW) : Prop := S2.1 = S.1 ∧ S2.2.1.2.2.1 = S.2.1.2.2.1 ∧ text S.2.1.1.2.2.2 S2.2.1.1.2.2.2 ∧ S.2.1.2.1.1 ≤ S2.2.1.2.1.1 ∧ ∀ i, i < S.2.1.2.1.1 → S2.2.1.2.1.2 i = S.2.1.2.1.2 i
theorem FR_rf (S : qW) : FR S S := ⟨rfl, rfl, text_rf _, Nat.le_refl _, fun _ _ => rfl⟩
theorem FR_tr {A B C : qW} (h : FR A B) (g : FR B C) : FR A C := ⟨g.1.trans h.1, g.2.1.trans h.2.1, text_tr h.2.2.1 g.2.2.1, Nat.le_trans h.2.2.2.1 g.2.2.2.1, fun i hi => (g.2.2.2.2 i (Nat.lt_of_lt_of_le hi h.2.2.2.1)).trans (h.2.2.2.2 i hi)⟩
theorem nI_bt {m v : Nat} (hv : v < 32) : bt (nI m) v = m.testBit v := by
  unfold bt nI
  rw [Int32.toBitVec_ofNat', BitVec.getLsbD_ofNat, decide_eq_true hv, Bool.true_and]
def cnf (S : Nat → Bool) : Nat → Nat → Nat
  | 0, _ => 0
  | m + 1, k => (if S k = true then 1 else 0) + cnf S m (k + 1)
theorem cnf_cg {f g : Nat → Bool} : ∀ (m k : Nat), (∀ v, v < k + m → f v = g v) → cnf f m k = cnf g m k := by
  intro m
  induction m with
  | zero => intro k _; rfl
  | succ m ih => intro k h; unfold cnf; rw [ih (k + 1) (fun v hv => h v (by omega)), h k (by omega)]
theorem qent_cnf (x : Nat) (rs : Int32) (S : Nat → Bool) : ∀ (m k : Nat), (qent x rs S m k).length = cnf S m k := by
  intro m
  induction m with
  | zero => intro k; rfl
  | succ m ih =>
    intro k
    unfold qent cnf
    rw [List.length_append, ih]
    congr 1
    by_cases h : S k = true
    · rw [if_pos h, if_pos h]; rfl
    · rw [if_neg h, if_neg h]; rfl
theorem Dcs_app {dec : Nat → Nat × Int32} {ds : List (Nat × Nat)} {x m : Nat} {s : Int32} (h : Dcs dec 0 ds) (hx : x < 8) (hs : ∀ v, v < 10 → bt s v = m.testBit v) : Dcs (updd dec ds.length (x, s)) 0 (ds ++ [(x, m)]) := by
  intro j d hj
  rw [Nat.zero_add]
  unfold updd
  by_cases e : j = ds.length
  · subst e
    rw [List.getElem?_append_right (Nat.le_refl _), Nat.sub_self] at hj
    cases hj
    rw [if_pos rfl]
    exact ⟨rfl, hx, hs⟩
  · rw [if_neg e]
    have hl : j < ds.length := by
      have := (List.getElem?_eq_some_iff.mp hj).1
      rw [List.length_append] at this
      have : j < ds.length + 1 := this
      omega
    rw [List.getElem?_append_left hl] at hj
    have := h j d hj
    rw [Nat.zero_add] at this
    exact this
section
variable {S : qW} {n k D Q lv x : Nat} {ds : List (Nat × Nat)}
theorem cs_tell {m : Nat} (h : CS S n k (D, Q) ds lv) (hD : ¬ D = 0) (hx : x < 8) (hm : m < 1024) (hl : ds.length < 12) : (s_tell S (nI x) (nI m)).1 = nI (cnf (fun v => fD D x v && !m.testBit v) 10 0) ∧ CS (s_tell S (nI x) (nI m)).2 n k (cst n D Q x m) (ds ++ [(x, m)]) lv ∧ FR S (s_tell S (nI x) (nI m)).2 := by
  obtain ⟨hW, hN, hE, hR, hd, hdc, hv⟩ := h
  obtain ⟨f0, hA, hZ⟩ := hR.2.1 hD
  have hs : ∀ v, v < 10 → bt (nI m) v = m.testBit v := fun v hv => nI_bt (by omega)
  have e := s_tell5 (S := S) (v2 := nI m) (x := x) (v1 := nI x) (by rw [vin_nI (by omega), if_pos hx]) (vis_nI hm (by decide)) f0 (by omega)
  have hW2 := W_tell hW (nI x) (nI m)
  rw [e] at hW2 ⊢
  refine ⟨?_, ⟨hW2, hN, hE, nw_ok hE hN hR hD hx hs, ?_, ?_, hv⟩, rfl, rfl, ⟨_, rfl⟩, Nat.le_succ _, fun i hi => ?_⟩
  · dsimp only
    rw [qent_cnf]
    congr 1
    refine cnf_cg 10 0 (fun v hv => ?_)
    rw [hs v (by omega), hA x hx v (by omega)]
    rfl
  · show S.2.1.2.1.1 + 1 = (ds ++ [(x, m)]).length
    rw [List.length_append, hd]; rfl
  · show Dcs (updd S.2.1.2.1.2 S.2.1.2.1.1 (x, nI m)) 0 (ds ++ [(x, m)])
    rw [hd]
    exact Dcs_app hdc hx hs
  · show updd S.2.1.2.1.2 S.2.1.2.1.1 (x, nI m) i = _
    unfold updd
    rw [if_neg (by omega)]
theorem cs_run (h : CS S n k (D, Q) ds lv) : CS (s_run S).2 n k (citer n k 2024 D Q) ds lv ∧ FR S (s_run S).2 := by
  obtain ⟨hW, hN, hE, hR, hd, hdc, hv⟩ := h
  exact ⟨⟨W_run hW, hN, hE, iter_ok hE hN 2024 _ D Q hR, hd, hdc, hv⟩, rfl, rfl, qiter_ext _ 2024 _, Nat.le_refl _, fun _ _ => rfl⟩
theorem cs_domain (h : CS S n k (D, Q) ds lv) (hD : ¬ D = 0) (hx : x < 8) : s_domain S (nI x) = nI (dm D x) := by
  obtain ⟨hW, hN, hE, hR, hd, hdc, hv⟩ := h
  obtain ⟨f0, hA, hZ⟩ := hR.2.1 hD
  unfold s_domain
  rw [vin_nI (by omega), if_pos hx]
  dsimp only
  refine (mkn_ext (by omega) (fun i hi => ?_)).symm
  rw [nI_bt hi, dm_tb]
  by_cases h10 : i < 10
  · rw [hA x hx i h10]
  · rw [decide_eq_false h10]; rfl
theorem cs_failed (h : CS S n k (D, Q) ds lv) : s_count S 8 = if D = 0 then 1 else 0 := by
  obtain ⟨hW, hN, hE, hR, hd, hdc, hv⟩ := h
  have e : s_count S 8 = b2i S.2.1.1.2.2.1 := rfl
  rw [e]
  by_cases hD : D = 0
  · rw [if_pos hD, (hR.1 hD).1]; rfl
  · rw [if_neg hD, (hR.2.1 hD).1]; rfl
theorem cs_decided (h : CS S n k (D, Q) ds lv) : s_count S 2 = nI ds.length := by
  have e : s_count S 2 = nI S.2.1.2.1.1 := rfl
  rw [e, h.2.2.2.2.1]
theorem cs_settled (h : CS S n k (D, Q) ds lv) (hD : ¬ D = 0) : s_count S 6 = nI (qcnt (stl (fD D)) 8) := by
  obtain ⟨hW, hN, hE, hR, hd, hdc, hv⟩ := h
  obtain ⟨f0, hA, hZ⟩ := hR.2.1 hD
  have e : s_count S 6 = nI (qcnt (stl S.2.1.1.1) 8) := rfl
  rw [e]
  congr 1
  refine qcnt_cg 8 (fun y hy => ?_)
  unfold stl
  rw [qcnt_cg 10 (fun v hv => hA y hy v hv)]
  rfl
theorem plc_none {t : qT} {c : Nat} : ∀ (m i : Nat), i + m = t.length → plc t c i m = none → ∀ j, i ≤ j → j < t.length → ¬ (t.map Prod.fst)[j]? = some c := by
  intro m
  induction m with
  | zero => intro i h1 _ j h2 h3; omega
  | succ m ih =>
    intro i h1 h2 j h3 h4
    unfold plc at h2
    by_cases e : (t.map Prod.fst)[i]? = some c
    · rw [if_pos e] at h2; cases h2
    · rw [if_neg e] at h2
      by_cases ej : j = i
      · subst ej; exact e
      · exact ih (i + 1) (by omega) h2 j (by omega) h4
theorem plc_lt {t : qT} {c : Nat} : ∀ (m i b : Nat), plc t c i m = some b → b < i + m := by
  intro m
  induction m with
  | zero => intro i b h; cases h
  | succ m ih =>
    intro i b h
    unfold plc at h
    split at h
    · cases h; omega
    · have := ih (i + 1) b h; omega
theorem cs_trail (h : CS S n k (D, Q) ds lv) (hD : ¬ D = 0) (hx : x < 8) (hg : D.testBit (10 * x) = false) : ¬ s_trail S 0 (nI (1000 + 10 * x)) < 0 := by
  obtain ⟨hW, hN, hE, hR, hd, hdc, hv⟩ := h
  obtain ⟨f0, hA, hZ⟩ := hR.2.1 hD
  have hT : TW S.2.1.1.1 S.2.1.1.2.2.2 := hW.2.1.2.1
  have hlen := hT.len
  have hm := (hT.2.2 x hx 0 (by omega)).mp (by rw [hA x hx 0 (by omega)]; exact hg)
  unfold s_trail
  have e : (nI (1000 + 10 * x)).toInt = ((1000 + 10 * x : Nat) : Int) := nI_toInt (by omega)
  rw [e, if_pos (by omega), show (((1000 + 10 * x : Nat) : Int) - 1000).toNat = 10 * x by omega]
  cases hp : plc S.2.1.1.2.2.2 (10 * x) 0 S.2.1.1.2.2.2.length with
  | some b =>
    have := plc_lt _ _ b hp
    exact nI_pos (by omega)
  | none =>
    exfalso
    obtain ⟨j, hj, ej⟩ := List.mem_iff_getElem.mp hm
    rw [List.length_map] at hj
    refine plc_none _ 0 (by omega) hp j (Nat.zero_le _) hj ?_
    rw [List.getElem?_eq_getElem (by rw [List.length_map]; exact hj)]
    rw [Nat.add_zero] at ej
    rw [ej]
/-- a level -/
theorem cs_level (h : CS S n k (D, 0) ds lv) (hD : ¬ D = 0) (hl : lv < 8) : (s_level S).1 = nI (lv + 1) ∧ CS (s_level S).2 n k (D, 0) ds (lv + 1) := by
  obtain ⟨hW, hN, hE, hR, hd, hdc, hv⟩ := h
  obtain ⟨f0, hA, hZ⟩ := hR.2.1 hD
  have hq : qcnt S.2.1.1.2.1 24 = 0 := by
    have e := qcnt_cg (f := S.2.1.1.2.1) (g := fun _ => false) 24 (fun r hr => by rw [hR.2.2.1 r hr]; exact Nat.zero_testBit r)
    rw [e]; decide
  have hW2 := W_level hW
  have e := s_level4 f0 hq (by omega)
  rw [e] at hW2 ⊢
  exact ⟨by rw [hv], hW2, hN, hE, hR, hd, hdc, by show S.2.1.2.2.1.1 + 1 = lv + 1; rw [hv]⟩
theorem cs_level3 (h : CS S n k (0, Q) ds lv) : s_level S = (-3, S) := s_level1 (h.2.2.2.1.1 rfl).1
/-- .. and what is there again -/
theorem cs_undo {S0 : qW} {c : Nat × Nat} {ds2 : List (Nat × Nat)} (h0 : CS S0 n k (D, 0) ds lv) (hD : ¬ D = 0) (hl : lv < 8) (hF : FR (s_level S0).2 S) (h : CS S n k c ds2 (lv + 1)) : ¬ (s_undo S).1 < 0 ∧ CS (s_undo S).2 n k (D, 0) ds lv := by
  obtain ⟨hW0, hN, hE0, hR0, hd0, hdc0, hv0⟩ := h0
  obtain ⟨f0, hA0, hZ0⟩ := hR0.2.1 hD
  obtain ⟨hW, -, hE, hR, hd, hdc, hv⟩ := h
  have hq : qcnt S0.2.1.1.2.1 24 = 0 := by
    have e := qcnt_cg (f := S0.2.1.1.2.1) (g := fun _ => false) 24 (fun r hr => by rw [hR0.2.2.1 r hr]; exact Nat.zero_testBit r)
    rw [e]; decide
  have eL := s_level4 f0 hq (by omega)
  rw [eL] at hF
  obtain ⟨g1, g2, ⟨u, g3⟩, g4, g5⟩ := hF
  have g1 : S.1 = S0.1 := g1
  have g3 : S.2.1.1.2.2.2 = S0.2.1.1.2.2.2 ++ u := g3
  have g4 : S0.2.1.2.1.1 ≤ S.2.1.2.1.1 := g4
  have g5 : ∀ i, i < S0.2.1.2.1.1 → S.2.1.2.1.2 i = S0.2.1.2.1.2 i := g5
  have e1 : S.2.1.2.2.1.2.1 lv = S0.2.1.1.2.2.2.length := by
    rw [g2]; show updn S0.2.1.2.2.1.2.1 S0.2.1.2.2.1.1 S0.2.1.1.2.2.2.length lv = _
    unfold updn; rw [if_pos hv0.symm]
  have e2 : S.2.1.2.2.1.2.2.1 lv = S0.2.1.2.1.1 := by
    rw [g2]; show updn S0.2.1.2.2.1.2.2.1 S0.2.1.2.2.1.1 S0.2.1.2.1.1 lv = _
    unfold updn; rw [if_pos hv0.symm]
  have e3 : S.2.1.2.2.1.2.2.2 lv = S0.1.1 := by
    rw [g2]; show updn S0.2.1.2.2.1.2.2.2 S0.2.1.2.2.1.1 S0.1.1 lv = _
    unfold updn; rw [if_pos hv0.symm]
  have hW2 := W_undo hW
  have eu := s_undo2 (S := S) (by omega)
  rw [eu] at hW2 ⊢
  rw [hv, Nat.add_sub_cancel] at hW2 ⊢
  have hT : TW S.2.1.1.1 S.2.1.1.2.2.2 := hW.2.1.2.1
  have hT0 : TW S0.2.1.1.1 S0.2.1.1.2.2.2 := hW0.2.1.2.1
  have hlen := hT.len
  refine ⟨nI_pos (by omega), hW2, hN, ?_, ⟨fun q => absurd q hD, fun _ => ⟨rfl, fun y hy v hv2 => ?_, hZ0⟩, fun r hr => ?_, fun r _ q => ?_⟩, ?_, ?_, rfl⟩
  · show RE (Et S.1) n k
    rw [g1]; exact hE0
  · show qtb S.2.1.1.1 S.2.1.1.2.2.2 (S.2.1.2.2.1.2.1 lv) y v = D.testBit (10 * y + v)
    have t1 := (TW.take hT (S.2.1.2.2.1.2.1 lv)).2.2 y hy v hv2
    have t2 := hT0.2.2 y hy v hv2
    rw [e1] at t1 ⊢
    rw [g3] at t1 ⊢
    rw [List.take_left'] at t1
    · rw [← hA0 y hy v hv2, Bool.eq_iff_iff]
      have : (qtb S.2.1.1.1 (S0.2.1.1.2.2.2 ++ u) S0.2.1.1.2.2.2.length y v = false) ↔ (S0.2.1.1.1 y v = false) := t1.trans t2.symm
      constructor
      · intro q
        cases z : S0.2.1.1.1 y v with
        | true => rfl
        | false => rw [this.mpr z] at q; cases q
      · intro q
        cases z : qtb S.2.1.1.1 (S0.2.1.1.2.2.2 ++ u) S0.2.1.1.2.2.2.length y v with
        | true => rfl
        | false => rw [this.mp z] at q; cases q
    · rfl
  · show decide (S.2.1.2.2.1.2.2.2 lv ≤ r ∧ r < S.1.1) = (0 : Nat).testBit r
    rw [e3, g1, Nat.zero_testBit]
    exact decide_eq_false (by omega)
  · have q : (0 : Nat).testBit r = true := q
    rw [Nat.zero_testBit] at q; cases q
  · show S.2.1.2.2.1.2.2.1 lv = ds.length
    rw [e2, hd0]
  · show Dcs S.2.1.2.1.2 0 ds
    intro j d hj
    have hjl := (List.getElem?_eq_some_iff.mp hj).1
    have := hdc0 j d hj
    rw [Nat.zero_add] at this ⊢
    rw [g5 j (by omega)]
    exact this
end
