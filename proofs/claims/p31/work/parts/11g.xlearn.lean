/-! the class learns -/
theorem qdcs_app (E : qE) (dec : Nat → Nat × Int32) (mk : Nat → Bool) (rsf : Nat → Int32) : ∀ (a b k : Nat) (P : qP), qdcs E dec mk rsf k (a + b) P = qdcs E dec mk rsf (k + a) b (qdcs E dec mk rsf k a P) := by
  intro a
  induction a with
  | zero => intro b k P; rw [Nat.zero_add]; rfl
  | succ a ih =>
    intro b k P
    rw [show a + 1 + b = (a + b) + 1 by omega, qdcs_s, qdcs_s]
    by_cases c : P.2.2.1 = true
    · rw [if_pos c, if_pos c]
      cases b with
      | zero => rfl
      | succ b => rw [qdcs_s, if_pos c]
    · rw [if_neg c, if_neg c, ih, show k + 1 + a = k + (a + 1) by omega]
theorem qdcs_tail {E : qE} {dec : Nat → Nat × Int32} {mk : Nat → Bool} {rsf : Nat → Int32} : ∀ (m k : Nat) (P : qP), (∀ i, k ≤ i → mk i = false) → qdcs E dec mk rsf k m P = P := by
  intro m
  induction m with
  | zero => intro k P _; rfl
  | succ m ih =>
    intro k P h
    rw [qdcs_s, h k (Nat.le_refl _)]
    split
    · rfl
    · exact ih (k + 1) P (fun i hi => h i (by omega))
theorem qnw_wake {E : qE} {x : Nat} {s rs : Int32} {P : qP} (hx : x < 8) (hN : NE P) (hf : P.2.2.1 = false) : qnw E x s rs (qwake E P) = qwake E (qnw E x s rs P) := by
  have hne := hN hf x hx
  have e : qwk (Eact E) (!qany (qnar P.1 x (bt s) x)) (qany (fun v => P.1 x v && !bt s v)) (fun r => Ev E r x && Eact E r) = if (!qany (qnar P.1 x (bt s) x)) = true then qemp else Eact E := by
    funext r
    unfold qwk
    by_cases c : qany (fun v => P.1 x v && !bt s v) = true
    · rw [if_pos c]
      cases hq : qany (qnar P.1 x (bt s) x)
      · rfl
      · show (true && (Eact E r || (Ev E r x && Eact E r))) = Eact E r
        cases Eact E r <;> simp
    · rw [if_neg c]
      have hq : qany (qnar P.1 x (bt s) x) = true := by
        obtain ⟨v, hv, hd⟩ := (qany_iff _).mp hne
        rw [qany_iff]
        refine ⟨v, hv, ?_⟩
        unfold qnar
        rw [if_pos rfl, hd]
        have := (qany_f _).mp (Bool.eq_false_iff.mpr c) v hv
        rw [hd] at this
        simpa using this
      rw [hq]; rfl
  unfold qwake qnw
  dsimp only
  rw [hf, if_neg (show ¬ false = true by decide), Bool.false_or, e]
theorem qdcs_wake {E : qE} {dec : Nat → Nat × Int32} {mk : Nat → Bool} {rsf : Nat → Int32} : ∀ (m k : Nat) (P : qP), NE P → (∀ i, k ≤ i → i < k + m → mk i = true → (dec i).1 < 8) → qdcs E dec mk rsf k m (qwake E P) = qwake E (qdcs E dec mk rsf k m P) := by
  intro m
  induction m with
  | zero => intro k P _ _; rfl
  | succ m ih =>
    intro k P hN hd
    rw [qdcs_s, qdcs_s]
    have ef : (qwake E P).2.2.1 = P.2.2.1 := rfl
    rw [ef]
    by_cases c : P.2.2.1 = true
    · rw [if_pos c, if_pos c]
    · rw [if_neg c, if_neg c]
      have hf : P.2.2.1 = false := Bool.eq_false_iff.mpr c
      cases hm : mk k
      · rw [if_neg (show ¬ false = true by decide), if_neg (show ¬ false = true by decide)]
        exact ih (k + 1) P hN (fun i h1 h2 => hd i (by omega) (by omega))
      · rw [if_pos (show true = true from rfl), if_pos (show true = true from rfl), qnw_wake (hd k (by omega) (by omega) hm) hN hf]
        exact ih (k + 1) _ (qnw_NE hN hf) (fun i h1 h2 => hd i (by omega) (by omega))
theorem PI_NE {E : qE} {P : qP} (h : PI E P) : NE P := h.1
/-- the tries on the class's side -/
def XPth (h : gH) (pth : List (Nat × Nat)) : Prop := h 38 9 = nI pth.length ∧ ∀ i, i < pth.length → h 39 i = nI (pth.getD i (0, 0)).1 ∧ h 40 i = sbit (pth.getD i (0, 0)).2
def XLn (c : sC) (h : gH) (E : qE) (pth : List (Nat × Nat)) : Prop := XE h E ∧ XD h (cd c) (cdec c) ∧ h 33 10 = 0 ∧ h 34 8 = 1 ∧ XPth h pth ∧ h 38 12 = nI (El E)
theorem Ebt_act {E : qE} (r : Nat) : Eact (Ebt E none) r = decide (r < En E) := by
  show (qact (En E) 0 0 r && true) = _
  rw [Bool.and_true]
  unfold qact
  rw [Bool.eq_iff_iff]
  simp
  omega
theorem XE_ebt {h : gH} {E : qE} (H : XE h E) (hA : Eall E) : XE h (Ebt E none) := by
  obtain ⟨a1, a2, a3, a4, a5, a6, a7⟩ := H
  have act : ∀ r, Eact (Ebt E none) r = true → Eact E r = true := fun r hr => by
    rw [Ebt_act] at hr
    have := of_decide_eq_true hr
    unfold Eact qact
    rw [hA r, decide_eq_true (show 0 ≤ r ∧ r < En E from ⟨Nat.zero_le _, this⟩)]; rfl
  exact ⟨a1, Nat.zero_le _, a3, a4, fun j hj => absurd hj (Nat.not_lt_zero _), fun r hr => a6 r (act r hr), fun x hx => ⟨(a7 x hx).1, fun r hr => (a7 x hx).2 r (act r hr)⟩⟩
theorem xtr27 {E : qE} {pth : List (Nat × Nat)} (hp : ∀ a ∈ pth, a.1 < 8) (hl : pth.length ≤ 8) (mk : Int32) : ∀ (m k fu : Nat) (h : gH) (P : qP), k + m = pth.length → m < fu → XE h E → HP h 33 E P → XPth h pth → PI E P → PT P → Sp (fS_startTrial_27 mk fu (nI k) h) (fun h1 => HP h1 33 E (qdcs E (fun i => ((pth.getD i (0, 0)).1, sbit (pth.getD i (0, 0)).2)) (bt mk) (fun _ => nI 100) k m P)) := by
  intro m
  induction m with
  | zero =>
    intro k fu h P hk hfu hE H X I T
    obtain ⟨fu, rfl⟩ : ∃ f, fu = f + 1 := ⟨fu - 1, by omega⟩
    have : k = pth.length := by omega
    subst this
    unfold fS_startTrial_27
    exact Sp_neg (by rw [X.1]; exact nI_nlt (Nat.le_refl _) (by omega)) (Sp_some H)
  | succ m ih =>
    intro k fu h P hk hfu hE H X I T
    obtain ⟨fu, rfl⟩ : ∃ f, fu = f + 1 := ⟨fu - 1, by omega⟩
    unfold fS_startTrial_27
    rw [qdcs_s]
    refine Sp_pos (by rw [X.1]; exact (nlt (by omega) (by omega)).mpr (by omega)) ?_
    have e9 : h 33 9 = b2i P.2.2.1 := H.2.2.2.1
    cases hf : P.2.2.1 with
    | true =>
      rw [if_pos (show true = true from rfl)]
      exact Sp_neg (by rw [e9, hf]; decide) (Sp_some H)
    | false =>
      rw [if_neg (show ¬ false = true by decide)]
      refine Sp_pos (by rw [e9, hf]; rfl) ?_
      rw [bt_test mk (show k < 32 by omega)]
      cases hb : bt mk k
      · rw [if_neg (show ¬ false = true by decide), nadd_l k 1]
        exact Sp_neg (by decide) (ih (k + 1) fu h P (by omega) (by omega) hE H X I T)
      · rw [if_pos (show true = true from rfl), if_pos (show true = true from rfl)]
        refine Sp_pos rfl (Sp_gg (gin_t (by omega) (by omega)) (Sp_gg (gin_t (by omega) (by omega)) ?_))
        obtain ⟨x1, x2⟩ := X.2 k (by omega)
        have hx := hp _ (getD_mem (show k < pth.length by omega))
        rw [clampn (by omega), x1, x2, nadd_l k 1]
        refine Sp_bind (Sp_and (narrow_HP (o := 33) (by unfold gHall; omega) hx (sbit (pth.getD k (0, 0)).2) (nI 100) hE H) (fun _ e => fH_narrow_fr (by unfold gHall; omega) e)) (fun p _ q => ?_)
        obtain ⟨q, fr⟩ := q
        have w : ∀ b, ¬ (33 ≤ b ∧ b ≤ 37) → p.2 b = h b := fun b hb => funext fun k => fr b k (by simp; omega) (by simp; omega)
        refine ih (k + 1) fu p.2 _ (by omega) (by omega) (XE_fr hE (by rw [w 1 (by omega)]) (w 3 (by omega)) (w 4 (by omega)) (w 5 (by omega)) (w 6 (by omega)) (w 7 (by omega)) (w 8 (by omega))) q.2 ⟨by rw [w 38 (by omega)]; exact X.1, fun i hi => by rw [w 39 (by omega), w 40 (by omega)]; exact X.2 i hi⟩ (qnw_PI hx I hf) (qnw_PT hx T)
/-- a trial on the class's side comes to the same -/
theorem xtrial {c : sC} {h : gH} {E : qE} {pth : List (Nat × Nat)} (H : XLn c h E pth) (hA : Eall E) {P0 : qP} (hp : sPC pth P0) {mk : Int32} (hm : ∀ i, bt mk i = true → i < pth.length) {K : gH → Option (Int32 × gH)} {Q : Int32 × gH → Prop} (hK : ∀ h2, XLn c h2 E pth → h2 33 9 = b2i (strf c E pth mk) → Sp (K h2) Q) : Sp ((fS_startTrial mk h).bind fun h7 => (fH_runAll 33 h7).bind fun p9 => K p9.2) Q := by
  obtain ⟨g1, g2, g3, g4, g5, g6⟩ := H
  have hp8 : ∀ a ∈ pth, a.1 < 8 := fun a ha => (hp.2 a ha).1
  have hl8 := sI_len hp
  have gE := XE_ebt g1 hA
  have frK : ∀ h2, (∀ b, ¬ (33 ≤ b ∧ b ≤ 37) → h2 b = h b) → h2 33 10 = h 33 10 → h2 34 8 = h 34 8 → XLn c h2 E pth := fun h2 w a b => ⟨XE_fr g1 (by rw [w 1 (by omega)]) (w 3 (by omega)) (w 4 (by omega)) (w 5 (by omega)) (w 6 (by omega)) (w 7 (by omega)) (w 8 (by omega)), ⟨g2.1, by rw [w 22 (by omega)]; exact g2.2.1, fun i hi => by rw [w 23 (by omega), w 24 (by omega)]; exact g2.2.2 i hi⟩, a.trans g3, b.trans g4, ⟨by rw [w 38 (by omega)]; exact g5.1, fun i hi => by rw [w 39 (by omega), w 40 (by omega)]; exact g5.2 i hi⟩, by rw [w 38 (by omega)]; exact g6⟩
  have ho : gHall 33 := by unfold gHall; omega
  -- started
  have st : Sp (fS_startTrial mk h) (fun h1 => HP h1 33 (Ebt E none) (qdcs (Ebt E none) (fun i => ((pth.getD i (0, 0)).1, sbit (pth.getD i (0, 0)).2)) (bt mk) (fun _ => nI 100) 0 pth.length (qst (Ebt E none) (cdec c) (bt (allm (cd c))) (cd c)))) := by
    unfold fS_startTrial
    have pa : fP_all 22 h = some (allm (cd c), h) := by unfold fP_all; rw [g2.2.1]; rfl
    have ra : fR_all h = some (mkn 24 (Eact (Ebt E none)), h) := by
      unfold fR_all
      rw [g1.2.2.1, all_mask _ (by have := g1.1; omega)]
      refine congrArg some (Prod.ext ?_ rfl)
      exact mkn_congr (fun i _ => (Ebt_act i).symm)
    refine Sp_eq pa (Sp_eq ra ?_)
    refine Sp_bind (Sp_and (start_sp (o := 33) (Or.inr rfl) (allm (cd c)) gE g2 g4) (fun _ e => fH_start_fr ho e)) (fun h1 _ q => ?_)
    obtain ⟨q, fr⟩ := q
    have w : ∀ b, ¬ (33 ≤ b ∧ b ≤ 37) → h1 b = h b := fun b hb => funext fun k => fr b k (by simp; omega) (by simp; omega)
    obtain ⟨i1, i2⟩ := qst_inv (E := Ebt E none) (dec := cdec c) (mk := bt (allm (cd c))) (d := cd c) (fun i hi => (g2.2.2 i hi).2.2)
    have x0 := xtr27 (E := Ebt E none) hp8 hl8 mk pth.length 0 gfu h1 _ (by omega) (by unfold gfu; omega) (XE_fr gE (by rw [w 1 (by omega)]) (w 3 (by omega)) (w 4 (by omega)) (w 5 (by omega)) (w 6 (by omega)) (w 7 (by omega)) (w 8 (by omega))) q ⟨by rw [w 38 (by omega)]; exact g5.1, fun i hi => by rw [w 39 (by omega), w 40 (by omega)]; exact g5.2 i hi⟩ i1 i2
    rw [nI_0] at x0
    exact x0
  refine Sp_bind (Sp_and st (fun _ e => fS_startTrial_fr e)) (fun h1 _ q => ?_)
  obtain ⟨q, fr⟩ := q
  have w : ∀ b, ¬ (33 ≤ b ∧ b ≤ 37) → h1 b = h b := fun b hb => funext fun k => fr b k (by simp; omega) (by simp; omega)
  have e10 : h1 33 10 = 0 := by rw [fr 33 10 (by simp) (by simp)]; exact g3
  obtain ⟨i1, i2⟩ := qst_inv (E := Ebt E none) (dec := cdec c) (mk := bt (allm (cd c))) (d := cd c) (fun i hi => (g2.2.2 i hi).2.2)
  have I1 := qdcs_inv (E := Ebt E none) (dec := fun i => ((pth.getD i (0, 0)).1, sbit (pth.getD i (0, 0)).2)) (mk := bt mk) (rsf := fun _ => nI 100) pth.length 0 _ (fun i _ hi => hp8 _ (getD_mem (by omega))) i1 i2
  refine Sp_bind (Sp_and (runAll_sp ho (XE_fr gE (by rw [w 1 (by omega)]) (w 3 (by omega)) (w 4 (by omega)) (w 5 (by omega)) (w 6 (by omega)) (w 7 (by omega)) (w 8 (by omega))) q I1.1 e10) (fun _ e => fH_runAll_fr ho e)) (fun p _ r => ?_)
  obtain ⟨⟨-, r, -⟩, fr2⟩ := r
  have w2 : ∀ b, ¬ (33 ≤ b ∧ b ≤ 37) → p.2 b = h b := fun b hb => by rw [← w b hb]; exact funext fun k => fr2 b k (by simp; omega) (by simp; omega)
  refine hK p.2 (frK p.2 w2 (by rw [fr2 33 10 (by simp) (by simp)]; exact fr 33 10 (by simp) (by simp)) ?_) ?_
  · rw [r.2.1, g4]
  · rw [r.2.2.2.1]
    refine congrArg b2i ?_
    unfold strf qth qst
    have hq := qdcs_inv (E := Ebt E none) (dec := cdec c) (mk := bt (allm (cd c))) (rsf := fun i => nI (100 + i)) (cd c) 0 qP0 (fun i _ hi => (g2.2.2 i (by omega)).2.2) (qP0_inv (Ebt E none)).1 (qP0_inv (Ebt E none)).2
    rw [qdcs_wake _ _ _ (PI_NE hq.1) (fun i _ hi _ => hp8 _ (getD_mem (by omega)))]
    generalize hX : qdcs (Ebt E none) (cdec c) (bt (allm (cd c))) (fun i => nI (100 + i)) 0 (cd c) qP0 = X
    have et := qdcs_tail (E := Ebt E none) (dec := fun i => ((pth.getD i (0, 0)).1, sbit (pth.getD i (0, 0)).2)) (mk := bt mk) (rsf := fun _ => nI 100) (16 - pth.length) (0 + pth.length) (qdcs (Ebt E none) (fun i => ((pth.getD i (0, 0)).1, sbit (pth.getD i (0, 0)).2)) (bt mk) (fun _ => nI 100) 0 pth.length X) (fun i hi => by
      cases hb : bt mk i
      · rfl
      · have := hm i hb; omega)
    have ea := qdcs_app (Ebt E none) (fun i => ((pth.getD i (0, 0)).1, sbit (pth.getD i (0, 0)).2)) (bt mk) (fun _ => nI 100) pth.length (16 - pth.length) 0 X
    rw [et, show pth.length + (16 - pth.length) = 16 by omega] at ea
    exact congrArg (fun Y => (qiter (Ebt E none) 2024 (qwake (Ebt E none) Y)).2.2.1) ea.symm
/-- a lesson is entered -/
theorem rlearn {E : qE} {pth : List (Nat × Nat)} {mk : Int32} {P0 : qP} (hp : sPC pth P0) (h8 : El E < 8) (hA : Eall E) {h : gH} (hE : XE h E) (h42 : ∀ x, x < 8 → h 42 x = if slV pth mk x = true then sbit (slp pth x) else 0) : Sp (fR_learn (nI (El E)) (mkn 8 (slV pth mk)) h) (fun p => p.1 = nI (16 + El E) ∧ XE p.2 (sEln E pth mk)) := by
  obtain ⟨a1, a2, a3, a4, a5, a6, a7⟩ := hE
  have hv : ∀ x, slp pth x < 10 := slp_lt (fun a ha => (hp.2 a ha).2.1)
  unfold fR_learn
  rw [show (16 : Int32) + nI (El E) = nI (16 + El E) from nI_add 16 _, show nI (El E) * (8 : Int32) = nI (8 * El E) by rw [show nI (El E) * (8 : Int32) = nI (El E * 8) from nmul (El E) 8, Nat.mul_comm]]
  have en : Sp (fR_enter (nI (16 + El E)) (mkn 8 (slV pth mk)) 9 h) (fun h8 => (h8 3 (16 + El E) = mkn 8 (slV pth mk) ∧ ∀ i, i ≠ 16 + El E → h8 3 i = h 3 i) ∧ (h8 4 (16 + El E) = nI 9 ∧ ∀ i, i ≠ 16 + El E → h8 4 i = h 4 i) ∧ (∀ x, x < 8 → h8 5 x = mkn 24 (fun i => if i = 16 + El E then slV pth mk x else bt (h 5 x) i)) ∧ ∀ b, b ≠ 3 → b ≠ 4 → b ≠ 5 → h8 b = h b) := by
    unfold fR_enter
    refine Sp_gg (gin_t (by omega) (by omega)) (Sp_let (Sp_gg (gin_t (by omega) (by omega)) (Sp_let ?_)))
    rw [clampn (by omega), ← nI_0]
    have k5 : ∀ x, hu (hu h 3 (16 + El E) (mkn 8 (slV pth mk))) 4 (16 + El E) 9 5 x = h 5 x := fun x => by rw [hu_ne (by decide), hu_ne (by decide)]
    refine Sp_mono (enter17 (show 16 + El E < 24 by omega) (h0 := hu (hu h 3 (16 + El E) (mkn 8 (slV pth mk))) 4 (16 + El E) 9) (fun x hx => by rw [k5]; exact (a7 x hx).1) 8 0 gfu _ (by omega) (by unfold gfu; omega) (fun x hx => absurd hx (Nat.not_lt_zero _)) (fun _ _ => rfl) (fun _ _ => rfl)) (fun h8 q => ?_)
    obtain ⟨q1, q2⟩ := q
    refine ⟨⟨?_, fun i hi => ?_⟩, ⟨?_, fun i hi => ?_⟩, fun x hx => ?_, fun b b3 b4' b5 => ?_⟩
    · rw [q2 3 (by decide), hu_ne (by decide), hu_same]
    · rw [q2 3 (by decide), hu_ne (by decide), hu_k _ _ _ _ hi]
    · rw [q2 4 (by decide), hu_same]; rfl
    · rw [q2 4 (by decide), hu_k _ _ _ _ hi, hu_ne (by decide)]
    · rw [q1 x hx]
      refine mkn_congr (fun i _ => ?_)
      rw [k5]
    · rw [q2 b b5, hu_ne b4', hu_ne b3]
  refine Sp_bind en (fun h1 _ q => ?_)
  obtain ⟨c3, c4, c5, c0⟩ := q
  refine Sp_gg ?_ (Sp_let (Sp_some ⟨rfl, ?_⟩))
  · unfold gcpo
    rw [clampn (by omega), show (8 : Int32).toNatClampNeg = 8 by decide, show (0 : Int32).toNatClampNeg = 0 from rfl]
    exact decide_eq_true ⟨by decide, nI_pos (by omega), by decide, by omega, by omega⟩
  rw [clampn (by omega), show (8 : Int32).toNatClampNeg = 8 by decide, show (0 : Int32).toNatClampNeg = 0 from rfl]
  dsimp only
  have w : ∀ b, b ≠ 8 → gcp h1 42 0 8 (8 * El E) 8 b = h1 b := fun b hb => gcp_o _ _ _ _ _ _ hb
  have w8 : ∀ k, gcp h1 42 0 8 (8 * El E) 8 8 k = if 8 * El E ≤ k ∧ k < 8 * El E + 8 then h 42 (k - 8 * El E) else h 8 k := fun k => by
    show (if 8 = 8 then va_cpy (h1 42) (h1 8) 0 (8 * El E) 8 k else h1 8 k) = _
    rw [if_pos rfl, cpy_at, c0 42 (by decide) (by decide) (by decide), c0 8 (by decide) (by decide) (by decide), Nat.zero_add]
  generalize gcp h1 42 0 8 (8 * El E) 8 = h2 at w w8
  have en3 : h2 3 = h1 3 := w 3 (by decide)
  have act : ∀ r, Eact (sEln E pth mk) r = true → r ≠ 16 + El E → Eact E r = true := fun r ha hr => by rw [Eact_ln hr] at ha; exact ha
  have lt24 : ∀ r, Eact (sEln E pth mk) r = true → r < 24 := fun r ha => by
    unfold Eact qact at ha
    rw [Bool.and_eq_true, Bool.or_eq_true] at ha
    rcases ha.1 with z | z
    · have z := of_decide_eq_true z
      have z2 : r < En E := z.2
      omega
    · have z := of_decide_eq_true z
      have z2 : r < 16 + (El E + 1) := z.2.1
      omega
  refine ⟨a1, by show El E + 1 ≤ 8; omega, by rw [w 1 (by decide), c0 1 (by decide) (by decide) (by decide)]; exact a3, fun r hr => ?_, fun j hj => ?_, fun r hr => ?_, fun x hx => ?_⟩
  · have hr : r < En E := hr
    show XRr h2 r (updg (Ev E) (16 + El E) (slV pth mk) r) (ET E r)
    rw [updg_o _ _ (by omega)]
    have := a4 r hr
    unfold XRr at this ⊢
    rw [w 3 (by decide), w 6 (by decide), w 7 (by decide), c3.2 r (by omega), c0 6 (by decide) (by decide) (by decide), c0 7 (by decide) (by decide) (by decide)]
    exact this
  · have hj : j < El E + 1 := hj
    show XNr h2 (16 + j) (updg (Ev E) (16 + El E) (slV pth mk) (16 + j)) (updg (Ep E) (16 + El E) (slp pth) (16 + j))
    unfold XNr
    rw [show 16 + j - 16 = j by omega, w 3 (by decide)]
    by_cases ej : j = El E
    · subst ej
      rw [updg_n, updg_n]
      refine ⟨c3.1, fun x hx => ?_, fun x _ _ => hv x⟩
      rw [w8, if_pos (by omega), show 8 * El E + x - 8 * El E = x by omega, h42 x hx]
      by_cases hs : slV pth mk x = true
      · rw [if_pos hs]
        unfold sbit
        rw [mkn_one (n := 10) (by decide) (hv x)]
        exact mkn_congr (fun v _ => by rw [hs, Bool.true_and])
      · rw [if_neg hs, mkn_0 10 (by decide)]
        exact mkn_congr (fun v _ => by rw [Bool.eq_false_iff.mpr hs, Bool.false_and])
    · rw [updg_o _ _ (show 16 + j ≠ 16 + El E by omega), updg_o _ _ (show 16 + j ≠ 16 + El E by omega), c3.2 _ (by omega)]
      obtain ⟨n1, n2, n3⟩ := a5 j (by omega)
      refine ⟨n1, fun x hx => ?_, n3⟩
      rw [w8, if_neg (by omega)]
      have := n2 x hx
      rw [show 16 + j - 16 = j by omega] at this
      exact this
  · show h2 4 r = nI (updg (Er E) (16 + El E) 9 r) ∧ updg (Er E) (16 + El E) 9 r < 100
    rw [w 4 (by decide)]
    by_cases er : r = 16 + El E
    · rw [er, updg_n]; exact ⟨c4.1, by omega⟩
    · rw [updg_o _ _ er, c4.2 r er]; exact a6 r (act r hr er)
  · rw [w 5 (by decide), c5 x hx]
    refine ⟨mkn_of (by decide) (fun i hi h24 => by rw [bt_mkn (by decide), decide_eq_false (by omega)]; rfl), fun r hr => ?_⟩
    rw [bt_mkn (by decide), decide_eq_true (lt24 r hr), Bool.true_and]
    show _ = updg (Ev E) (16 + El E) (slV pth mk) r x
    by_cases er : r = 16 + El E
    · rw [if_pos er, er, updg_n]
    · rw [if_neg er, updg_o _ _ er]; exact (a7 x hx).2 r (act r hr er)
theorem xl25 {c : sC} {E : qE} {pth : List (Nat × Nat)} {mk : Int32} {P0 : qP} (hp : sPC pth P0) (h8 : El E < 8) (hA : Eall E) {h0 : gH} (H0 : XLn c h0 E pth) : ∀ (m k fu : Nat) (h : gH), k + m = pth.length → m < fu → (∀ b, b ≠ 42 → h b = h0 b) → (∀ x, x < 8 → h 42 x = if ((List.range k).any fun i => bt mk i && decide ((pth.getD i (0, 0)).1 = x)) = true then sbit (slp pth x) else 0) → Sp (fS_learn_25 mk fu (mkn 8 (fun x => (List.range k).any fun i => bt mk i && decide ((pth.getD i (0, 0)).1 = x))) (nI k) h) (fun p => p.1 = nI (16 + El E) ∧ XE p.2 (sEln E pth mk) ∧ p.2 38 12 = nI (El E + 1) ∧ p.2 34 8 = 1) := by
  have hl8 := sI_len hp
  intro m
  induction m with
  | zero =>
    intro k fu h hk hfu a b
    obtain ⟨fu, rfl⟩ : ∃ f, fu = f + 1 := ⟨fu - 1, by omega⟩
    have : k = pth.length := by omega
    subst this
    obtain ⟨g1, g2, g3, g4, g5, g6⟩ := H0
    unfold fS_learn_25
    refine Sp_neg (by rw [a 38 (by decide), g5.1]; exact nI_nlt (Nat.le_refl _) (by omega)) (Sp_let ?_)
    rw [a 38 (by decide), g6, nadd_l (El E) 1, hu_same, show nI (El E + 1) - (1 : Int32) = nI (El E) from nsub (a := El E + 1) (b := 1) (by omega)]
    have w : ∀ b, b ≠ 38 → b ≠ 42 → hu h 38 12 (nI (El E + 1)) b = h0 b := fun b b1 b2 => by rw [hu_ne b1, a b b2]
    refine Sp_bind (Sp_and (rlearn (mk := mk) hp h8 hA (XE_fr g1 (by rw [w 1 (by decide) (by decide)]) (w 3 (by decide) (by decide)) (w 4 (by decide) (by decide)) (w 5 (by decide) (by decide)) (w 6 (by decide) (by decide)) (w 7 (by decide) (by decide)) (w 8 (by decide) (by decide))) (fun x hx => by rw [hu_ne (by decide)]; exact b x hx)) (fun _ e => fR_learn_fr e)) (fun p _ q => Sp_some ⟨q.1.1, q.1.2, ?_, ?_⟩)
    · rw [q.2 38 12 (by simp) (by simp), hu_same]
    · rw [q.2 34 8 (by simp) (by simp), w 34 (by decide) (by decide)]; exact g4
  | succ m ih =>
    intro k fu h hk hfu a b
    obtain ⟨fu, rfl⟩ : ∃ f, fu = f + 1 := ⟨fu - 1, by omega⟩
    have g5 := H0.2.2.2.2.1
    have hx := (hp.2 _ (getD_mem (show k < pth.length by omega))).1
    have rs : ∀ x, ((List.range (k + 1)).any fun i => bt mk i && decide ((pth.getD i (0, 0)).1 = x)) = (((List.range k).any fun i => bt mk i && decide ((pth.getD i (0, 0)).1 = x)) || (bt mk k && decide ((pth.getD k (0, 0)).1 = x))) := fun x => by rw [List.range_succ, List.any_append, List.any_cons, List.any_nil, Bool.or_false]
    unfold fS_learn_25
    refine Sp_pos (by rw [a 38 (by decide), g5.1]; exact (nlt (by omega) (by omega)).mpr (by omega)) ?_
    rw [bt_test mk (show k < 32 by omega)]
    cases hb : bt mk k
    · refine Sp_neg (by decide) ?_
      rw [nadd_l k 1]
      have := ih (k + 1) fu h (by omega) (by omega) a (fun x hx => by rw [b x hx, rs x, hb, Bool.false_and, Bool.or_false])
      rw [mkn_congr (fun x _ => by rw [rs x, hb, Bool.false_and, Bool.or_false])] at this
      exact this
    · obtain ⟨x1, x2⟩ := g5.2 k (by omega)
      refine Sp_pos rfl (Sp_gg (gin_t (by omega) (by omega)) (Sp_gg (gin_t (by omega) (by omega)) (Sp_gg (gin_t (by omega) (by omega)) ?_)))
      rw [clampn (show k < 2 ^ 31 by omega), a 39 (by decide), a 40 (by decide), x1, x2]
      refine Sp_gg (gin_t hx (by omega)) (Sp_let ?_)
      rw [clampn (show (pth.getD k (0, 0)).1 < 2 ^ 31 by omega), nadd_l k 1, mkn_ins (by decide) hx]
      have := ih (k + 1) fu (hu h 42 (pth.getD k (0, 0)).1 (sbit (pth.getD k (0, 0)).2)) (by omega) (by omega) (fun b hb => by rw [hu_ne hb]; exact a b hb) (fun x hx => by
        rw [rs x, hb, Bool.true_and]
        by_cases ex : x = (pth.getD k (0, 0)).1
        · rw [ex, hu_same, decide_eq_true rfl, Bool.or_true, if_pos rfl, slp_at hp.1 (by omega)]
        · rw [hu_k _ _ _ _ ex, decide_eq_false (fun z => ex z.symm), Bool.or_false]; exact b x hx)
      rw [mkn_congr (g := fun x => ((List.range k).any fun i => bt mk i && decide ((pth.getD i (0, 0)).1 = x)) || decide (x = (pth.getD k (0, 0)).1)) (fun x _ => by rw [rs x, hb, Bool.true_and, decide_eq_decide.mpr (eq_comm : x = (pth.getD k (0, 0)).1 ↔ _)])] at this
      exact this
theorem xl4 {c : sC} {E : qE} {pth : List (Nat × Nat)} {mk : Int32} {P0 : qP} (hp : sPC pth P0) (h8 : El E < 8) (hA : Eall E) {h0 : gH} (H0 : XLn c h0 E pth) : ∀ (m k fu : Nat) (h : gH), k + m = 8 → m < fu → (∀ b, b ≠ 42 → h b = h0 b) → (∀ x, x < k → h 42 x = 0) → Sp (fS_learn_4 mk 0 fu (nI k) h) (fun p => p.1 = nI (16 + El E) ∧ XE p.2 (sEln E pth mk) ∧ p.2 38 12 = nI (El E + 1) ∧ p.2 34 8 = 1) := by
  intro m
  induction m with
  | zero =>
    intro k fu h hk hfu a b
    obtain ⟨fu, rfl⟩ : ∃ f, fu = f + 1 := ⟨fu - 1, by omega⟩
    have : k = 8 := by omega
    subst this
    unfold fS_learn_4
    refine Sp_neg (by decide) ?_
    have x0 := xl25 (mk := mk) hp h8 hA H0 pth.length 0 gfu h (by omega) (by have := sI_len hp; unfold gfu; omega) a (fun x hx => by rw [b x hx]; rfl)
    have e0 : mkn 8 (fun x => (List.range 0).any fun i => bt mk i && decide ((pth.getD i (0, 0)).1 = x)) = 0 := (mkn_0 8 (by decide)).symm
    rw [e0, nI_0] at x0
    exact x0
  | succ m ih =>
    intro k fu h hk hfu a b
    obtain ⟨fu, rfl⟩ : ∃ f, fu = f + 1 := ⟨fu - 1, by omega⟩
    unfold fS_learn_4
    refine Sp_pos (nltT (show k < 8 by omega) (by decide)) (Sp_gg (gin_t (by omega) (by omega)) (Sp_let ?_))
    rw [nadd_l k 1, clampn (by omega)]
    refine ih (k + 1) fu _ (by omega) (by omega) (fun o ho => by rw [hu_ne ho]; exact a o ho) (fun x hx => ?_)
    by_cases e : x = k
    · rw [e, hu_same]
    · rw [hu_k _ _ _ _ e]; exact b x (by omega)
theorem xl47 {c : sC} {E : qE} {pth : List (Nat × Nat)} {P0 : qP} (hp : sPC pth P0) (h8 : El E < 8) (hA : Eall E) : ∀ (m k fu : Nat) (a : Int32) (h : gH), k + m = pth.length → m < fu → XLn c h E pth → (∀ i, bt a i = true → i < pth.length) → Sp (fS_learnFromTries_47 fu a (nI k) h) (fun p => p.1 = nI (16 + El E) ∧ XE p.2 (sEln E pth (slsh (strf c E pth) m k a)) ∧ p.2 38 12 = nI (El E + 1) ∧ p.2 34 8 = 1) := by
  have hl8 := sI_len hp
  intro m
  induction m with
  | zero =>
    intro k fu a h hk hfu H ha
    obtain ⟨fu, rfl⟩ : ∃ f, fu = f + 1 := ⟨fu - 1, by omega⟩
    have : k = pth.length := by omega
    subst this
    unfold fS_learnFromTries_47 slsh
    refine Sp_neg (by rw [H.2.2.2.2.1.1]; exact nI_nlt (Nat.le_refl _) (by omega)) ?_
    unfold fS_learn
    have x0 := xl4 (mk := a) hp h8 hA H 8 0 gfu h rfl (by unfold gfu; omega) (fun _ _ => rfl) (fun x hx => absurd hx (Nat.not_lt_zero _))
    rw [nI_0] at x0
    exact Sp_bind x0 (fun p _ q => Sp_some q)
  | succ m ih =>
    intro k fu a h hk hfu H ha
    obtain ⟨fu, rfl⟩ : ∃ f, fu = f + 1 := ⟨fu - 1, by omega⟩
    unfold fS_learnFromTries_47 slsh
    refine Sp_pos (by rw [H.2.2.2.2.1.1]; exact (nlt (by omega) (by omega)).mpr (by omega)) ?_
    refine xtrial (mk := bitoff a k) H hA hp (fun i hb => ha i (bt_off (by omega) hb)) (K := fun g => if (g 33 9) = (0 : Int32) then fS_learnFromTries_47 fu a (nI k + (1 : Int32)) g else fS_learnFromTries_47 fu (a &&& (((1 : Int32) <<< (nI k &&& 31)) ^^^ (-1 : Int32))) (nI k + (1 : Int32)) g) (fun h2 H2 q2 => ?_)
    rw [nadd_l k 1]
    cases hf : strf c E pth (bitoff a k) with
    | false =>
      rw [if_neg (show ¬ false = true by decide)]
      exact Sp_pos (by rw [q2, hf]; rfl) (ih (k + 1) fu a h2 (by omega) (by omega) H2 ha)
    | true =>
      rw [if_pos (show true = true from rfl)]
      exact Sp_neg (by rw [q2, hf]; decide) (ih (k + 1) fu (bitoff a k) h2 (by omega) (by omega) H2 (fun i hb => ha i (bt_off (by omega) hb)))
theorem xlearns {c : sC} {E : qE} {pth : List (Nat × Nat)} {P0 : qP} (hp : sPC pth P0) (hA : Eall E) {h : gH} (H : XLn c h E pth) : Sp (fS_learnFromTries h) (fun p => match slearn c E pth with
    | none => p.1 = -1 ∧ XE p.2 E ∧ p.2 38 12 = nI (El E) ∧ p.2 34 8 = 1
    | some E2 => p.1 = nI (16 + El E) ∧ XE p.2 E2 ∧ p.2 38 12 = nI (El E2) ∧ p.2 34 8 = 1) := by
  have hl8 := sI_len hp
  have g8 := H.1.2.1
  unfold fS_learnFromTries slearn
  by_cases h8 : El E < 8
  · rw [if_pos h8]
    refine Sp_pos (by rw [H.2.2.2.2.2]; exact (nI_ltI (b := 8) (by omega) (by decide)).mpr h8) ?_
    have ea : ((1 : Int32) <<< ((h 38 9) &&& 31)) - (1 : Int32) = allm pth.length := by rw [H.2.2.2.2.1.1]; rfl
    rw [ea]
    have ha : ∀ i, bt (allm pth.length) i = true → i < pth.length := fun i hb => by rw [bt_allm (by omega)] at hb; exact of_decide_eq_true hb
    refine xtrial (mk := allm pth.length) H hA hp ha (K := fun g => if (g 33 9) = (0 : Int32) then some ((-1 : Int32), g) else fS_learnFromTries_47 gfu (allm pth.length) (0 : Int32) g) (fun h2 H2 q2 => ?_)
    cases hf : strf c E pth (allm pth.length) with
    | false =>
      rw [if_neg (show ¬ false = true by decide)]
      exact Sp_pos (by rw [q2, hf]; rfl) (Sp_some ⟨rfl, H2.1, H2.2.2.2.2.2, H2.2.2.2.1⟩)
    | true =>
      rw [if_pos (show true = true from rfl)]
      refine Sp_neg (by rw [q2, hf]; decide) ?_
      have x0 := xl47 hp h8 hA pth.length 0 gfu (allm pth.length) h2 (by omega) (by unfold gfu; omega) H2 ha
      rw [nI_0] at x0
      exact x0
  · rw [if_neg h8]
    exact Sp_neg (by rw [H.2.2.2.2.2]; exact fun z => h8 ((nI_ltI (b := 8) (by omega) (by decide)).mp z)) (Sp_some ⟨rfl, H.1, H.2.2.2.2.2, H.2.2.2.1⟩)

