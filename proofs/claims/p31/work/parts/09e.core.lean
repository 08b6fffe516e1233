/-! step, run, tell -/
def setK (S : qW) (K : qK) : qW := (S.1, K, S.2.2)
theorem Sp_to {α : Type} {o : Option α} {Q R : α → Prop} (h : Sp o Q) (k : ∀ x, o = some x → Q x → R x) : Sp o R := by
  obtain ⟨x, e, q⟩ := h
  exact ⟨x, e, k x e q⟩
/-- what a call does to the core -/
def cX (h : gH) (S : qW) (s : Int32 × qW) (p : Int32 × gH) : Prop := p.1 = s.1 ∧ (s.2 = S ∧ p.2 = h ∨ ∃ K, s.2 = setK S K ∧ XC p.2 17 22 (Et S.1) K ∧ p.2 17 10 = 0)
theorem gfr_out {W : List Nat} {F : List (Nat × Nat)} {h h1 : gH} (a : gfr W F h h1) (lo hi : Nat) (w : W.all (fun b => decide (lo ≤ b ∧ b ≤ hi)) = true) (f : F.all (fun b => decide (lo ≤ b.1 ∧ b.1 ≤ hi)) = true) : ∀ b, ¬ (lo ≤ b ∧ b ≤ hi) → h1 b = h b := fun b hb => funext fun k => a b k (fun z => hb (of_decide_eq_true (List.all_eq_true.mp w b z))) (fun z => hb (of_decide_eq_true (List.all_eq_true.mp f _ z)))
theorem AX_core {h h1 : gH} {S : qW} {K : qK} (H : AX h S) (a : ∀ b, ¬ (17 ≤ b ∧ b ≤ 27) → h1 b = h b) (z : h1 17 10 = 0) (C : XC h1 17 22 (Et S.1) K) : AX h1 (setK S K) :=
  ⟨XRk_fr H.1 (fun b _ _ => a b (by omega)), C, XKp_fr H.2.2.1 (a 0 (by omega)) (fun b _ _ => a b (by omega)), XTp_fr H.2.2.2.1 (by rw [a 10 (by omega)]) (a 11 (by omega)), XSh_fr H.2.2.2.2.1 (fun b _ _ => a b (by omega)), ⟨z, by rw [a 45 (by omega)]; exact H.2.2.2.2.2.1.2⟩,
    by have := H.2.2.2.2.2.2; unfold XTh at this ⊢; rw [a 28 (by omega), a 33 (by omega), a 29 (by omega), a 34 (by omega)]; exact this⟩
theorem KI_PI {S : qW} (H : KI S.1.1 S.2.1) : PI (Et S.1) S.2.1.1 := H.1 S.1.2.1 S.1.2.2.1 S.1.2.2.2
theorem PI_any {R : qR} {P : qP} (h : PI (Et R) P) : ∀ vs T kd, PI (Et (R.1, vs, T, kd)) P := fun _ _ _ => h
theorem NEt_ext {t s : qT} {c : Nat} (hc : c ≤ t.length) (h : NEt t c) : NEt (t ++ s) c := by
  intro x hx
  obtain ⟨v, hv, h1⟩ := h x hx
  refine ⟨v, hv, ?_⟩
  rw [List.take_append_of_le_length hc]; exact h1
/-- the trail has grown -/
def text (t t2 : qT) : Prop := ∃ s, t2 = t ++ s
theorem text_rf (t : qT) : text t t := ⟨[], (List.append_nil t).symm⟩
theorem text_tr {a b c : qT} (h1 : text a b) (h2 : text b c) : text a c := by
  obtain ⟨s, rfl⟩ := h1; obtain ⟨u, rfl⟩ := h2; exact ⟨s ++ u, List.append_assoc _ _ _⟩
theorem KI_ext {R : qR} {K : qK} {P : qP} {D : qD} {v : Int32} (H : KI R.1 K) (hI : PI (Et R) P) (hT : PT P) (hx : text K.1.2.2.2 P.2.2.2) (hd : K.2.1.1 ≤ D.1) : KI R.1 (P, D, K.2.2.1, v) := by
  obtain ⟨s, e⟩ := hx
  obtain ⟨h1, h2, h3, h4, h5⟩ := H
  refine ⟨PI_any hI, hT, h3, fun i hi => ?_, h5⟩
  obtain ⟨a, b, c, d⟩ := h4 i hi
  refine ⟨?_, Nat.le_trans b hd, c, ?_⟩
  · show _ ≤ P.2.2.2.length
    rw [e, List.length_append]; exact Nat.le_trans a (Nat.le_add_right _ _)
  · show NEt P.2.2.2 _
    rw [e]; exact NEt_ext a d
theorem qone_ext (E : qE) (r : Nat) (P : qP) : text P.2.2.2 (qone E r P).2.2.2 := by
  unfold qone
  refine vls_fold_ind (fun st => text P.2.2.2 st.2.2.1) _ _ (text_rf _) (fun st x _ _ hc => ?_)
  unfold pstep
  split
  · exact hc
  · exact text_tr hc ⟨_, rfl⟩
theorem qiter_ext (E : qE) : ∀ (k : Nat) (P : qP), text P.2.2.2 (qiter E k P).2.2.2 := by
  intro k
  induction k with
  | zero => intro P; exact text_rf _
  | succ k ih =>
    intro P
    unfold qiter
    cases qnx (Er E) P.2.1 24 with
    | none => exact text_rf _
    | some r => exact text_tr (qone_ext E r P) (ih _)
theorem cX_AX {h : gH} {S : qW} {s : Int32 × qW} {o : Option (Int32 × gH)} {W : List Nat} {F : List (Nat × Nat)} (H : AX h S) (q : Sp o (cX h S s)) (fr : ∀ x, o = some x → gfr W F h x.2) (w : W.all (fun b => decide (17 ≤ b ∧ b ≤ 27)) = true) (f : F.all (fun b => decide (17 ≤ b.1 ∧ b.1 ≤ 27)) = true) : Sp o (fun p => p.1 = s.1 ∧ AX p.2 s.2) :=
  Sp_to q (fun p e q => by
    obtain ⟨q1, q2⟩ := q
    refine ⟨q1, ?_⟩
    rcases q2 with ⟨e1, e2⟩ | ⟨K, e1, c, z⟩
    · rw [e1, e2]; exact H
    · rw [e1]; exact AX_core H (gfr_out (fr p e) 17 27 w f) z c)
/-! run -/
def s_run (S : qW) : Int32 × qW := (nI (qlen (Et S.1) 2024 S.2.1.1), setK S (qiter (Et S.1) 2024 S.2.1.1, S.2.1.2.1, S.2.1.2.2.1, S.2.1.2.2.2 + nI (qlen (Et S.1) 2024 S.2.1.1)))
theorem W_run {S : qW} (H : WI S) : WI (s_run S).2 := by
  have q := qiter_done (Et S.1) 2024 S.2.1.1 (KI_PI H.2.1) H.2.1.2.1 (mu_le _)
  exact ⟨H.1, KI_ext H.2.1 q.1 q.2.1 (qiter_ext _ _ _) (Nat.le_refl _), H.2.2⟩
theorem X_run {h : gH} {S : qW} (H : AX h S) (W : WI S) : Sp (fX_run h) (fun p => p.1 = (s_run S).1 ∧ AX p.2 (s_run S).2) := by
  have C := H.2.1
  refine cX_AX H ?_ (fun x e => fX_run_fr e) (by decide) (by decide)
  unfold fX_run s_run
  refine Sp_bind (Sp_and (runAll_sp gH17 H.1.1 C.1 (KI_PI W.2.1) H.2.2.2.2.2.1.1) (fun x e => fH_runAll_fr gH17 e)) (fun p1 _ q => Sp_some ?_)
  obtain ⟨q, fr⟩ := q
  refine ⟨q.1, Or.inr ⟨_, rfl, ⟨q.2.1, by rw [q.2.2, C.2.1], XDo_fr C.2.2.1 (fun b b1 b2 => ?_), XLv_fr C.2.2.2 (fun b b1 b2 => ?_)⟩, ?_⟩⟩
  · exact gfr_out fr 17 21 (by decide) (by decide) b (by omega)
  · exact gfr_out fr 17 21 (by decide) (by decide) b (by omega)
  · exact (gfr_fld fr 17 10 (by decide) (by decide)).trans H.2.2.2.2.2.1.1
