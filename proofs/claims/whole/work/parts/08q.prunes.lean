theorem qany_one (g : Nat → Bool) : qany (fun x => one8 x && g x) = g 0 := by
  rw [Bool.eq_iff_iff, qany_iff]
  unfold one8
  constructor
  · rintro ⟨v, _, h⟩; simp at h; rw [h.1] at h; exact h.2
  · intro h; exact ⟨0, by omega, by simp [h]⟩
theorem qany_one2 (g : Nat → Bool) : qany (fun x => g x && one8 x) = g 0 := by
  rw [qany_congr (g := fun x => one8 x && g x) (fun v _ => Bool.and_comm _ _)]; exact qany_one g
theorem vls_nodup (vs : Nat → Bool) : (vls vs).Nodup := by unfold vls; exact List.Pairwise.filter _ List.nodup_range
def sAj (j : Nat) (d0 d1 d2 : Nat → Bool) (T : Nat → Nat → Nat → Bool) : Nat → Bool := if j = 0 then sA0 d0 d1 d2 T else if j = 1 then sA1 d0 d1 d2 T else sA2 d0 d1 d2 T
theorem kp_eq {vs : Nat → Bool} (hc : (vls vs).length ≤ 3) {j u : Nat} (hj : (vls vs)[j]? = some u) (T : Nat → Nat → Nat → Bool) (D : Nat → Nat → Bool) (v : Nat) : kpS vs T D u v = sAj j (dvr vs D 0) (dvr vs D 1) (dvr vs D 2) T v := by
  have hn := vls_nodup vs
  have hm : ∀ a, a ∈ vls vs → a < 8 := fun a ha => ((mem_vls vs a).mp ha).1
  have hdl : ∀ a, a ∈ vls vs → dsl D a = D a := fun a ha => by unfold dsl; rw [if_neg (by have := hm a ha; omega)]
  unfold kpS slt dvr
  generalize vls vs = l at hc hj hn hm hdl ⊢
  match l, hc with
  | [], _ => cases hj
  | [a], _ =>
    have : j = 0 := by
      match j, hj with
      | 0, _ => rfl
      | j + 1, h => simp at h
    subst this
    cases hj
    have ha := hm u (by simp)
    have hd := hdl u (by simp)
    simp only [List.length_singleton, sAj]
    simp only [show (2 + 1 < 3) = False by simp, show (0 + 1 < 3) = True by simp, show (1 + 1 < 3) = True by simp, if_true, if_false]
    simp only [show 2 + 1 - 3 = 0 by rfl, List.getD_cons_zero, if_true, hd, show dsl D 8 = one8 from rfl]
    unfold sA2 sA0 swz Wof
    simp only [List.getElem?_cons_zero, show ([u] : List Nat)[1]? = none from rfl, show ([u] : List Nat)[2]? = none from rfl, qany_one, qany_one2]
    simp
  | [a, b], _ =>
    have hab : a ≠ b := by simp at hn; exact hn
    have da := hdl a (by simp)
    have db := hdl b (by simp)
    simp only [List.length_cons, List.length_nil]
    simp only [show (2 + (0 + 1 + 1) < 3) = False by simp, show (0 + (0 + 1 + 1) < 3) = True by simp, show (1 + (0 + 1 + 1) < 3) = False by simp, if_true, if_false]
    simp only [show 2 + (0 + 1 + 1) - 3 = 1 by rfl, show 1 + (0 + 1 + 1) - 3 = 0 by rfl, List.getD_cons_zero, List.getD_cons_succ, da, db, show dsl D 8 = one8 from rfl]
    simp only [List.getElem?_cons_zero, show ([a, b] : List Nat)[1]? = some b from rfl, show ([a, b] : List Nat)[2]? = none from rfl]
    match j, hj with
    | 0, h =>
      cases h
      rw [if_neg hab, if_pos rfl]
      unfold sAj sA1 sA0 swz Wof
      simp only [qany_one, qany_one2, if_true]
      congr 1
      exact qany_congr (fun z _ => by simp [Bool.and_comm])
    | 1, h =>
      cases h
      rw [if_pos rfl]
      unfold sAj sA2 sA1 swz Wof
      simp only [qany_one, qany_one2, if_true]
      simp
    | j + 2, h => simp at h
  | [a, b, c], _ =>
    have hab : a ≠ b := by simp at hn; exact hn.1.1
    have hac : a ≠ c := by simp at hn; exact hn.1.2
    have hbc : b ≠ c := by simp at hn; exact hn.2
    have da := hdl a (by simp)
    have db := hdl b (by simp)
    have dc := hdl c (by simp)
    simp only [List.length_cons, List.length_nil]
    simp only [show (2 + (0 + 1 + 1 + 1) < 3) = False by simp, show (0 + (0 + 1 + 1 + 1) < 3) = False by simp, show (1 + (0 + 1 + 1 + 1) < 3) = False by simp, if_false]
    simp only [show 2 + (0 + 1 + 1 + 1) - 3 = 2 by rfl, show 1 + (0 + 1 + 1 + 1) - 3 = 1 by rfl, show 0 + (0 + 1 + 1 + 1) - 3 = 0 by rfl, List.getD_cons_zero, List.getD_cons_succ, da, db, dc]
    simp only [List.getElem?_cons_zero, show ([a, b, c] : List Nat)[1]? = some b from rfl, show ([a, b, c] : List Nat)[2]? = some c from rfl]
    have hW : Wof (0 + 1 + 1 + 1) T = T := by funext x y z; unfold Wof; rw [if_pos rfl]
    rw [hW]
    match j, hj with
    | 0, h => cases h; rw [if_neg hac, if_neg hab]; rfl
    | 1, h => cases h; rw [if_neg hbc, if_pos rfl]; rfl
    | 2, h => cases h; rw [if_pos rfl]; rfl
    | j + 3, h => simp at h
/-- the model in the midst of a run -/
def MS (E : qE) (h : gH) (Q : Nat → Bool) (th : Bool) (t0 : qT) (st : qS) : Prop := MX (Eact E) h st.1 (if st.2.1 then qemp else Q) st.2.1 ∧ MT h (if th then t0 else st.2.2.1) ∧ h 65 36 = b2i th ∧ h 65 35 = mkn 8 st.2.2.2
theorem qent_congr {x : Nat} {rs : Int32} {S S2 : Nat → Bool} : ∀ (m k : Nat), (∀ v, k ≤ v → v < k + m → S v = S2 v) → qent x rs S m k = qent x rs S2 m k := by
  intro m
  induction m with
  | zero => intro k _; rfl
  | succ m ih => intro k h; rw [qent, qent, ih (k + 1) (fun v h1 h2 => h v (by omega) (by omega)), h k (by omega) (by omega)]
theorem keepsS {E : qE} {x : Nat} (hx : x < 8) {h : gH} {Q : Nat → Bool} {th : Bool} {t0 : qT} {st : qS} {K : Nat → Nat → Bool} (s rs : Int32) (H : MS E h Q th t0 st) (hf : st.2.1 = false) (hne : qany (st.1 x) = true) (hT : TW st.1 st.2.2.1) (hK : ∀ v, v < 10 → (st.1 x v && bt s v) = (st.1 x v && K x v)) :
    Sp (fM_keeps (nI x) s rs h) (fun h' => MS E h' Q th t0 (pstep K rs st x)) := by
  obtain ⟨h1, h2, h3, h4⟩ := H
  rw [hf] at h1
  have hr : th = true ∨ TW st.1 (if th then t0 else st.2.2.1) := by
    cases th with
    | true => exact Or.inl rfl
    | false => exact Or.inr hT
  refine Sp_mono (keeps_sp hx s rs h1 h3 h2 hne hr) ?_
  rintro h' ⟨a1, a2, a3, a4⟩
  have e0 : pstep K rs st x = (qnar st.1 x (K x), !qany (qnar st.1 x (K x) x), st.2.2.1 ++ qent x rs (fun v => st.1 x v && !K x v) 10 0, fun y => st.2.2.2 y || (decide (y = x) && qany (fun v => st.1 x v && !K x v))) := by
    unfold pstep; rw [hf, if_neg (by simp)]
  have e1 : ∀ y, y < 8 → ∀ v, v < 10 → qnar st.1 x (K x) y v = qnar st.1 x (bt s) y v := fun y _ v hv => by
    unfold qnar
    by_cases e : y = x
    · subst e; rw [if_pos rfl, if_pos rfl, hK v hv]
    · rw [if_neg e, if_neg e]
  have e2 : ∀ v, v < 10 → (st.1 x v && !K x v) = (st.1 x v && !bt s v) := fun v hv => by
    have := hK v hv
    revert this
    cases st.1 x v <;> cases bt s v <;> cases K x v <;> simp
  have e3 := qany_congr (fun v hv => e1 x hx v hv)
  have e4 := qany_congr e2
  rw [e0]
  refine ⟨?_, ?_, a3, ?_⟩
  · dsimp only
    rw [e3]
    refine MX_congr a1 e1 (fun r _ _ => ?_) rfl
    cases qany (qnar st.1 x (bt s) x) <;> rfl
  · dsimp only
    rw [qent_congr 10 0 (fun v _ h => e2 v (by omega))]
    cases th with
    | true => exact a2
    | false => exact a2
  · dsimp only
    rw [a4, h4, e4]
    cases hc : qany (fun v => st.1 x v && !bt s v) with
    | true => rw [if_pos rfl, mkn_ins (by omega) hx]; exact mkn_congr (fun i _ => by simp)
    | false => rw [if_neg (by simp)]; exact mkn_congr (fun i _ => by simp)
theorem and_wk {vs ch : Nat → Bool} : decide (¬ (mkn 8 vs &&& mkn 8 ch) = 0) = (List.range 8).any (fun x => ch x && vs x) := by
  rw [mkn_and (by omega), Bool.eq_iff_iff, decide_eq_true_eq, mkn_zero (by omega), List.any_eq_true]
  constructor
  · intro h
    apply Classical.byContradiction
    intro q
    apply h
    intro i hi
    cases hv : (vs i && ch i) with
    | false => rfl
    | true => exact absurd ⟨i, List.mem_range.mpr hi, by rw [Bool.and_comm]; exact hv⟩ q
  · rintro ⟨x, h1, h2⟩ h
    rw [Bool.and_comm, h x (List.mem_range.mp h1)] at h2; cases h2
/-- the model's rules are E: kinds kd -/
def ME (h : gH) (E : qE) (kd : Nat → Nat) : Prop :=
  En E ≤ 16 ∧ El E ≤ 8 ∧ h 65 8 = nI (En E) ∧ h 65 9 = nI (El E) ∧ (∀ r, r < En E → h 68 r = mkn 8 (Ev E r) ∧ h 67 r = nI (kd r) ∧ kd r < 3 ∧ (vls (Ev E r)).length ≤ 3 ∧ Er E r = (vls (Ev E r)).length + kd r ∧ TB h r (ET E r)) ∧
    ∀ j, j < El E → h 68 (16 + j) = mkn 8 (Ev E (16 + j)) ∧ h 67 (16 + j) = 3 ∧ Er E (16 + j) = 9 ∧ ∀ x, x < 8 → Ev E (16 + j) x = true → h 70 (8 * j + x) = nI (Ep E (16 + j) x) ∧ Ep E (16 + j) x < 10
/-- all rules count -/
def Eall (E : qE) : Prop := ∀ r, Eac E r = true
theorem Eall_act {E : qE} (h : Eall E) (r : Nat) : Eact E r = qact (En E) (El E) 0 r := by unfold Eact; rw [h r, Bool.and_true]
theorem ME_68 {h : gH} {E : qE} {kd : Nat → Nat} (H : ME h E kd) {r : Nat} (ha : Eact E r = true) : h 68 r = mkn 8 (Ev E r) := by
  have hl := Eact_lt H.1 H.2.1 ha
  rcases hl.2 with q | q
  · exact (H.2.2.2.2.1 r q).1
  · have := (H.2.2.2.2.2 (r - 16) (by omega)).1
    rw [show 16 + (r - 16) = r by omega] at this; exact this
/-- the end of a run: who is woken -/
theorem prunes231 {h : gH} {E : qE} {kd : Nat → Nat} (hM : ME h E kd) (hA : Eall E) {Q : Nat → Bool} {th : Bool} {t0 : qT} {st : qS} {r : Nat} (hr : r < 24) (H : MS E h Q th t0 st) :
    Sp (fM_prunes_231 (nI r) h) (fun h' => MX (Eact E) h' st.1 (qafter Q st.2.1 (wk st.2.2.2 (fun x i => Ev E i x)) (Eact E) r) st.2.1 ∧ ∀ b, b ≠ 71 → h' b = h b) := by
  unfold fM_prunes_231
  refine Sp_bind (queues_sp hM.1 hM.2.1 (h 65 35) (nI r) H.1 hM.2.2.1 hM.2.2.2.1) ?_
  rintro h1 - ⟨a1, a2⟩
  refine Sp_some ⟨MX_congr a1 (fun _ _ _ _ => rfl) (fun i hi hact => ?_) rfl, a2⟩
  unfold qafter
  cases hf : st.2.1 with
  | true => rfl
  | false =>
    simp only [Bool.not_false, Bool.true_and, if_neg (show ¬ (false = true) by simp)]
    congr 1
    · have h1 : qact (En E) (El E) 0 i = true := by rw [← Eall_act hA]; exact hact
      rw [h1, ME_68 hM hact, H.2.2.2, and_wk]
      have e : decide (¬ nI i = nI r) = !decide (i = r) := by
        rw [Bool.eq_iff_iff]; simp only [decide_eq_true_eq, Bool.not_eq_true', decide_eq_false_iff_not]
        rw [nI_eq (by omega) (by omega)]
      rw [e]
      unfold wk
      rw [hact, Bool.true_and, Bool.and_true, Bool.and_comm]
