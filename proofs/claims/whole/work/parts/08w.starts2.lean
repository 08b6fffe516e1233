/-- what a thought thinks: from the start, with these decisions, these tries, without a rule -/
def qth (E : qE) (b : Option Nat) (dec : Nat → Nat × Int32) (mk : Nat → Bool) (d : Nat) (tr : Nat → Nat × Nat) (mk2 : Nat → Bool) : qP :=
  qiter (Ebt E b) 2024 (qwake (Ebt E b) (qdcs (Ebt E b) (fun i => ((tr i).1, 1 <<< (nI (tr i).2 &&& 31))) mk2 (fun _ => nI 100) 0 16 (qdcs (Ebt E b) dec mk (fun i => nI (100 + i)) 0 d qP0)))
theorem qdcs_s (E : qE) (dec : Nat → Nat × Int32) (mk : Nat → Bool) (rsf : Nat → Int32) (k m : Nat) (P : qP) : qdcs E dec mk rsf k (m + 1) P = if P.2.2.1 then P else qdcs E dec mk rsf (k + 1) m (if mk k then qnw E (dec k).1 (dec k).2 (rsf k) P else P) := rfl
def Tpic (E : qE) (b : Option Nat) (kd : Nat → Nat) (t0 : qT) (had : Int32) (P : qP) (h' : gH) : Prop := MX Vno h' P.1 qemp P.2.2.1 ∧ h' 65 9 = had ∧ h' 65 36 = 1 ∧ MT h' t0
theorem st163 {E : qE} {kd : Nat → Nat} {t0 : qT} {d : Nat} {dec : Nat → Nat × Int32} {mk2 : Nat → Bool} {tr : Nat → Nat × Nat} {P : qP} {b : Option Nat} (hb : ∀ b0, b = some b0 → b0 < En E) {h : gH} (H : SI h E kd t0 d dec mk2 tr P) (hIb : PI (Ebt E b) P) :
    Sp (fM_starts_163 (oI b) h) (Tpic E b kd t0 (nI (El E)) (qiter (Ebt E b) 2024 (qwake (Ebt E b) P))) := by
  obtain ⟨g1, g2, g3, g4, g5, g6, g7, g8⟩ := H
  have hn := g4.1
  unfold fM_starts_163
  refine st166 hn hb (f := P.2.2.1) (h0 := h) (En E) 0 gfu h (by omega) (by unfold gfu; omega) g4.2.2.1 g1.2.2 (fun r hr => by omega) (fun h1 a1 a2 => Sp_let ?_)
  have e9 : h1 65 9 = nI (El E) := by rw [a2 65 (by omega)]; exact g4.2.2.2.1
  rw [e9]
  have hM : ME (hu h1 65 9 0) (Ebt E none) kd := ME_bt g4 (hu_same _ _ _ _) (by rw [hu_k _ _ _ _ (by omega), a2 65 (by omega)]) (by rw [hu_ne (by omega), a2 67 (by omega)]) (by rw [hu_ne (by omega), a2 68 (by omega)]) (by rw [hu_ne (by omega), a2 69 (by omega)])
  have hX : MX (Eact (Ebt E none)) (hu h1 65 9 0) (qwake (Ebt E b) P).1 (qwake (Ebt E b) P).2.1 (qwake (Ebt E b) P).2.2.1 := by
    refine ⟨fun x hx => by rw [hu_o _ _ _ _ _ (by omega), a2 66 (by omega)]; exact g1.1 x hx, fun r hr hv => ?_, by rw [hu_k _ _ _ _ (by omega), a2 65 (by omega)]; exact g1.2.2⟩
    have hrn : r < En E := by
      have := (Eact_lt (E := Ebt E none) hn (Nat.zero_le _) hv).2
      rcases this with q | q
      · exact q
      · have h0 : El (Ebt E none) = 0 := rfl
        rw [h0] at q; omega
    rw [hu_o _ _ _ _ _ (by omega), a1 r hrn]
    congr 1
    unfold qwake
    dsimp only
    cases P.2.2.1 with
    | true => rfl
    | false =>
      rw [if_neg (by simp)]
      have hq : qact (En E) 0 0 r = true := by unfold qact; rw [decide_eq_true (by omega)]; rfl
      show (true && !decide (b = some r)) = (qact (En E) 0 0 r && Eac (Ebt E b) r)
      rw [hq]
      cases b with
      | none => rfl
      | some b0 =>
        show (true && !decide (some b0 = some r)) = (true && !decide (r = b0))
        congr 2
        apply decide_eq_decide.mpr
        constructor
        · intro e; exact (Option.some.inj e).symm
        · intro e; rw [e]
  obtain ⟨w1, w2⟩ := qwake_inv hIb g8
  refine Sp_eq (next_eq (Ebt_all E) hM hX.2.1 (fun i hi h => (bt_sub (w1.2.2 i hi h)).1)) ?_
  exact st223 (fun b0 e => by have := hb b0 e; omega) _ 2024 gfu (hu h1 65 9 0) _ (mu_le _) (by unfold gfu; omega) ⟨hM, hX, by rw [hu_k _ _ _ _ (by omega), a2 65 (by omega)]; exact g2, MT_of g3 (by rw [hu_k _ _ _ _ (by omega), a2 65 (by omega)]) (by rw [hu_ne (by omega), a2 74 (by omega)]) (by rw [hu_ne (by omega), a2 75 (by omega)])⟩ w1 w2
theorem st112 {E : qE} {kd : Nat → Nat} {t0 : qT} {d : Nat} {dec : Nat → Nat × Int32} {mk2 : Int32} {tr : Nat → Nat × Nat} {b : Option Nat} (hb : ∀ b0, b = some b0 → b0 < En E) : ∀ (m k fu : Nat) (h : gH) (P : qP), k + m = 16 → m < fu → SI h (E) kd t0 d dec (bt mk2) tr P → PI (Ebt E b) P →
    Sp (fM_starts_112 mk2 (oI b) fu (nI k) h) (Tpic E b kd t0 (nI (El E)) (qiter (Ebt E b) 2024 (qwake (Ebt E b) (qdcs (Ebt E b) (fun i => ((tr i).1, 1 <<< (nI (tr i).2 &&& 31))) (bt mk2) (fun _ => nI 100) k m P)))) := by
  intro m
  induction m with
  | zero =>
    intro k fu h P hk hfu H hIb
    obtain ⟨fu, rfl⟩ : ∃ f, fu = f + 1 := ⟨fu - 1, by omega⟩
    have hk : k = 16 := by omega
    subst hk
    unfold fM_starts_112
    exact Sp_neg (by decide) (st163 hb H hIb)
  | succ m ih =>
    intro k fu h P hk hfu H hIb
    obtain ⟨fu, rfl⟩ : ∃ f, fu = f + 1 := ⟨fu - 1, by omega⟩
    unfold fM_starts_112
    refine Sp_pos (nltT (show k < 16 by omega) (by decide)) ?_
    rw [H.1.2.2, qdcs]
    cases hf : P.2.2.1 with
    | true =>
      rw [if_pos (show true = true from rfl)]
      exact Sp_neg (by decide) (st163 hb H hIb)
    | false =>
      rw [if_neg (show ¬ (false = true) by simp)]
      refine Sp_pos rfl ?_
      rw [bt_test _ (by omega), nadd_l]
      cases hm : bt mk2 k with
      | false =>
        refine Sp_neg (by simp) ?_
        rw [if_neg (by simp)]
        exact ih (k + 1) fu h P (by omega) (by omega) H hIb
      | true =>
        have g := H.2.2.2.2.2.1 k (by omega) hm
        refine Sp_pos (by simp) (Sp_gg (gin_t (by omega) (by omega)) (Sp_gg (gin_t (by omega) (by omega)) ?_))
        rw [clampn (by omega), g.1, g.2.2, if_pos (show true = true from rfl)]
        refine Sp_bind (SI_dec (E2 := Ebt E b) g.2.1 _ (nI 100) H hf) ?_
        rintro h1 - a
        exact ih (k + 1) fu h1 _ (by omega) (by omega) a (qnw_PI g.2.1 hIb hf)
theorem st58 {E : qE} {kd : Nat → Nat} {t0 : qT} {d : Nat} {dec : Nat → Nat × Int32} {mk mk2 : Int32} {tr : Nat → Nat × Nat} {b : Option Nat} (hb : ∀ b0, b = some b0 → b0 < En E) : ∀ (m k fu : Nat) (h : gH) (P : qP), k + m = d → m < fu → SI h E kd t0 d dec (bt mk2) tr P → PI (Ebt E b) P →
    Sp (fM_starts_58 mk mk2 (oI b) fu (nI k) h) (Tpic E b kd t0 (nI (El E)) (qiter (Ebt E b) 2024 (qwake (Ebt E b) (qdcs (Ebt E b) (fun i => ((tr i).1, 1 <<< (nI (tr i).2 &&& 31))) (bt mk2) (fun _ => nI 100) 0 16 (qdcs (Ebt E b) dec (bt mk) (fun i => nI (100 + i)) k m P))))) := by
  intro m
  induction m with
  | zero =>
    intro k fu h P hk hfu H hIb
    obtain ⟨fu, rfl⟩ : ∃ f, fu = f + 1 := ⟨fu - 1, by omega⟩
    have hd12 := H.2.2.2.2.1.1
    unfold fM_starts_58 fM_starts_109
    rw [H.2.2.2.2.1.2.1]
    refine Sp_neg (fun z => by have := (nlt (by omega) (by omega)).mp z; omega) ?_
    exact st112 hb 16 0 gfu h P (by omega) (by unfold gfu; omega) H hIb
  | succ m ih =>
    intro k fu h P hk hfu H hIb
    obtain ⟨fu, rfl⟩ : ∃ f, fu = f + 1 := ⟨fu - 1, by omega⟩
    have hd12 := H.2.2.2.2.1.1
    unfold fM_starts_58
    rw [H.2.2.2.2.1.2.1]
    refine Sp_pos ((nlt (by omega) (by omega)).mpr (by omega)) ?_
    rw [H.1.2.2, qdcs_s (Ebt E b) dec]
    cases hf : P.2.2.1 with
    | true =>
      rw [if_pos (show true = true from rfl)]
      unfold fM_starts_109
      exact Sp_neg (by decide) (st112 hb 16 0 gfu h P (by omega) (by unfold gfu; omega) H hIb)
    | false =>
      rw [if_neg (show ¬ (false = true) by simp)]
      refine Sp_pos rfl ?_
      rw [bt_test _ (by omega), nadd_l]
      cases hm : bt mk k with
      | false =>
        refine Sp_neg (by simp) ?_
        rw [if_neg (show ¬ (false = true) by simp)]
        exact ih (k + 1) fu h P (by omega) (by omega) H hIb
      | true =>
        have g := H.2.2.2.2.1.2.2 k (by omega)
        refine Sp_pos (by simp) (Sp_gg (gin_t (by omega) (by omega)) (Sp_gg (gin_t (by omega) (by omega)) ?_))
        rw [clampn (by omega), g.1, g.2.1, if_pos (show true = true from rfl)]
        refine Sp_bind (SI_dec (E2 := Ebt E b) g.2.2 (dec k).2 (nI (100 + k)) H hf) ?_
        rintro h1 - a
        exact ih (k + 1) fu h1 _ (by omega) (by omega) a (qnw_PI g.2.2 hIb hf)
theorem starts_sp {E : qE} {kd : Nat → Nat} {t0 : qT} {d : Nat} {dec : Nat → Nat × Int32} {mk mk2 : Int32} {tr : Nat → Nat × Nat} {b : Option Nat} (hb : ∀ b0, b = some b0 → b0 < En E) {h : gH} (h36 : h 65 36 = 1) (ht : MT h t0) (hM : ME h E kd) (hD : MD h d dec) (htr : ∀ i, i < 16 → bt mk2 i = true → h 84 i = nI (tr i).1 ∧ (tr i).1 < 8 ∧ h 85 i = nI (tr i).2) :
    Sp (fM_starts mk mk2 (oI b) h) (Tpic E b kd t0 (nI (El E)) (qth E b dec (bt mk) d tr (bt mk2))) := by
  unfold fM_starts
  refine st3 8 0 gfu h (by omega) (by unfold gfu; omega) (fun x hx => by omega) (fun h1 a1 a2 => ?_)
  refine st29 24 0 gfu h1 (by omega) (by unfold gfu; omega) (fun h2 c0 c1 c2 => ?_)
  have o2 : ∀ c, c ≠ 71 → c ≠ 65 → c ≠ 66 → h2 c = h c := fun c x1 x2 x3 => (c1 c x1 x2).trans (a2 c x3)
  have f2 : ∀ j, j ≠ 2 → h2 65 j = h 65 j := fun j hj => by rw [c2 j hj, a2 65 (by omega)]
  have hd12 := hD.1
  refine st58 hb d 0 gfu h2 qP0 (by omega) (by unfold gfu; omega) ⟨⟨fun x hx => ?_, fun r _ h => (by cases h), c0⟩, by rw [f2 36 (by omega)]; exact h36, MT_of ht (f2 15 (by omega)) (o2 74 (by omega) (by omega) (by omega)) (o2 75 (by omega) (by omega) (by omega)), ME_fr hM (f2 8 (by omega)) (f2 9 (by omega)) (o2 67 (by omega) (by omega) (by omega)) (o2 68 (by omega) (by omega) (by omega)) (o2 69 (by omega) (by omega) (by omega)) (o2 70 (by omega) (by omega) (by omega)), ⟨hD.1, by rw [f2 12 (by omega)]; exact hD.2.1, fun i hi => by rw [o2 72 (by omega) (by omega) (by omega), o2 73 (by omega) (by omega) (by omega)]; exact hD.2.2 i hi⟩, fun i hi hm => by rw [o2 84 (by omega) (by omega) (by omega), o2 85 (by omega) (by omega) (by omega)]; exact htr i hi hm, (qP0_inv E).1.1, (qP0_inv E).2⟩ (qP0_inv _).1
  rw [c1 66 (by omega) (by omega), a1 x hx]; exact m1023
