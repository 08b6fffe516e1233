/-! the model's thoughts -/
def Vno : Nat → Bool := fun _ => false
theorem MX_weak {V V2 : Nat → Bool} {h : gH} {D : Nat → Nat → Bool} {Q Q2 : Nat → Bool} {f : Bool} (H : MX V h D Q f) (hv : ∀ r, r < 24 → V2 r = true → V r = true ∧ Q2 r = Q r) : MX V2 h D Q2 f := ⟨H.1, fun r hr h2 => by rw [(hv r hr h2).2]; exact H.2.1 r hr (hv r hr h2).1, H.2.2⟩
def MD (h : gH) (d : Nat) (dec : Nat → Nat × Int32) : Prop := d ≤ 12 ∧ h 65 12 = nI d ∧ ∀ i, i < d → h 72 i = nI (dec i).1 ∧ h 73 i = (dec i).2 ∧ (dec i).1 < 8
/-- the rules of the texts alone, all or but one -/
def Ebt (E : qE) (b : Option Nat) : qE := (En E, 0, Ev E, ET E, Ep E, Er E, match b with
  | none => fun _ => true
  | some b => fun r => !decide (r = b))
theorem Ebt_all (E : qE) : Eall (Ebt E none) := fun _ => rfl
theorem ME_bt {h h1 : gH} {E : qE} {kd : Nat → Nat} (H : ME h E kd) (a9 : h1 65 9 = 0) (a8 : h1 65 8 = h 65 8) (b67 : h1 67 = h 67) (b68 : h1 68 = h 68) (b69 : h1 69 = h 69) : ME h1 (Ebt E none) kd := by
  obtain ⟨g1, g2, g3, g4, g5, g6⟩ := H
  refine ⟨g1, Nat.zero_le _, by rw [a8]; exact g3, a9, fun r hr => ?_, fun j hj => absurd hj (Nat.not_lt_zero j)⟩
  have := g5 r hr
  unfold TB at this ⊢
  rw [b67, b68, b69]; exact this
theorem st3 {v1 v2 v3 : Int32} {Q : gH → Prop} : ∀ (m k fu : Nat) (h : gH), k + m = 8 → m < fu → (∀ x, x < k → h 66 x = 1023) →
    (∀ h', (∀ x, x < 8 → h' 66 x = 1023) → (∀ b, b ≠ 66 → h' b = h b) → Sp (fM_starts_29 v1 v2 v3 gfu 0 h') Q) → Sp (fM_starts_3 v1 v2 v3 fu (nI k) h) Q := by
  intro m
  induction m with
  | zero =>
    intro k fu h hk hfu hx hend
    obtain ⟨fu, rfl⟩ : ∃ f, fu = f + 1 := ⟨fu - 1, by omega⟩
    have hk : k = 8 := by omega
    subst hk
    unfold fM_starts_3
    exact Sp_neg (by decide) (hend h hx (fun _ _ => rfl))
  | succ m ih =>
    intro k fu h hk hfu hx hend
    obtain ⟨fu, rfl⟩ : ∃ f, fu = f + 1 := ⟨fu - 1, by omega⟩
    unfold fM_starts_3
    refine Sp_pos (nltT (show k < 8 by omega) (by decide)) (Sp_gg (gin_t (by omega) (by omega)) (Sp_let ?_))
    rw [clampn (by omega), nadd_l]
    refine ih (k + 1) fu _ (by omega) (by omega) (fun x h1 => ?_) (fun h' a1 a2 => hend h' a1 (fun b hb => (a2 b hb).trans (hu_ne hb)))
    by_cases e : x = k
    · subst e; rw [hu_same]
    · rw [hu_k _ _ _ _ e]; exact hx x (by omega)
theorem st29 {v1 v2 v3 : Int32} {Q : gH → Prop} : ∀ (m k fu : Nat) (h : gH), k + m = 24 → m < fu →
    (∀ h', h' 65 2 = 0 → (∀ b, b ≠ 71 → b ≠ 65 → h' b = h b) → (∀ j, j ≠ 2 → h' 65 j = h 65 j) → Sp (fM_starts_58 v1 v2 v3 gfu 0 h') Q) → Sp (fM_starts_29 v1 v2 v3 fu (nI k) h) Q := by
  intro m
  induction m with
  | zero =>
    intro k fu h hk hfu hend
    obtain ⟨fu, rfl⟩ : ∃ f, fu = f + 1 := ⟨fu - 1, by omega⟩
    have hk : k = 24 := by omega
    subst hk
    unfold fM_starts_29
    exact Sp_neg (by decide) (Sp_let (hend _ (hu_same _ _ _ _) (fun b _ hb => hu_ne hb) (fun j hj => hu_k _ _ _ _ hj)))
  | succ m ih =>
    intro k fu h hk hfu hend
    obtain ⟨fu, rfl⟩ : ∃ f, fu = f + 1 := ⟨fu - 1, by omega⟩
    unfold fM_starts_29
    refine Sp_pos (nltT (show k < 24 by omega) (by decide)) (Sp_gg (gin_t (by omega) (by omega)) (Sp_let ?_))
    rw [clampn (by omega), nadd_l]
    exact ih (k + 1) fu _ (by omega) (by omega) (fun h' a0 a1 a2 => hend h' a0 (fun b h1 h2 => (a1 b h1 h2).trans (hu_ne h1)) (fun j hj => (a2 j hj).trans (hu_o _ _ _ _ _ (by omega))))
def NE (P : qP) : Prop := P.2.2.1 = false → ∀ x, x < 8 → qany (P.1 x) = true
theorem qnw_NE {E : qE} {x : Nat} {s rs : Int32} {P : qP} (hI : NE P) (hf : P.2.2.1 = false) : NE (qnw E x s rs P) := by
  have hne := hI hf
  intro h y hy
  unfold qnw at h ⊢
  dsimp only at h ⊢
  by_cases e : y = x
  · subst e; rw [hf] at h; simpa using h
  · rw [qany_congr (g := P.1 y) (fun v _ => by unfold qnar; rw [if_neg e])]; exact hne y hy
/-- in thought, while decisions are made -/
def SI (h : gH) (E : qE) (kd : Nat → Nat) (t0 : qT) (d : Nat) (dec : Nat → Nat × Int32) (mk2 : Nat → Bool) (tr : Nat → Nat × Nat) (P : qP) : Prop :=
  MX Vno h P.1 qemp P.2.2.1 ∧ h 65 36 = 1 ∧ MT h t0 ∧ ME h E kd ∧ MD h d dec ∧ (∀ i, i < 16 → mk2 i = true → h 84 i = nI (tr i).1 ∧ (tr i).1 < 8 ∧ h 85 i = nI (tr i).2) ∧ NE P ∧ PT P
theorem SI_dec {h : gH} {E E2 : qE} {kd : Nat → Nat} {t0 : qT} {d : Nat} {dec : Nat → Nat × Int32} {mk2 : Nat → Bool} {tr : Nat → Nat × Nat} {P : qP} {x : Nat} (hx : x < 8) (s rs : Int32) (H : SI h E kd t0 d dec mk2 tr P) (hf : P.2.2.1 = false) :
    Sp (fM_decides (nI x) s 0 h) (fun h' => SI h' E kd t0 d dec mk2 tr (qnw E2 x s rs P)) := by
  obtain ⟨g1, g2, g3, g4, g5, g6, g7, g8⟩ := H
  rw [hf] at g1
  refine Sp_mono (Sp_and (decides_sp (th := true) hx g4.1 g4.2.1 s 0 g1 g2 g3 (g7 hf x hx) (Or.inl rfl) g4.2.2.1 g4.2.2.2.1) (fun _ e => fM_decides_fr e)) ?_
  rintro h' ⟨⟨a1, a2⟩, fr⟩
  have f65 : ∀ k, k ≠ 35 → k ≠ 15 → k ≠ 2 → h' 65 k = h 65 k := fun k h1 h2 h3 => fr 65 k (by decide) (by simp; omega)
  have fo : ∀ b, b ≠ 65 → b ≠ 66 → b ≠ 74 → b ≠ 75 → b ≠ 71 → h' b = h b := fun b h0 h1 h2 h3 h4 => funext fun k => fr b k (by simp; omega) (by simp; omega)
  have ef : (qnw E2 x s rs P).2.2.1 = !qany (qnar P.1 x (bt s) x) := by unfold qnw; dsimp only; rw [hf]; rfl
  refine ⟨?_, by rw [f65 36 (by omega) (by omega) (by omega)]; exact g2, a2, ME_fr g4 (f65 8 (by omega) (by omega) (by omega)) (f65 9 (by omega) (by omega) (by omega)) (fo 67 (by omega) (by omega) (by omega) (by omega) (by omega)) (fo 68 (by omega) (by omega) (by omega) (by omega) (by omega)) (fo 69 (by omega) (by omega) (by omega) (by omega) (by omega)) (fo 70 (by omega) (by omega) (by omega) (by omega) (by omega)), ⟨g5.1, by rw [f65 12 (by omega) (by omega) (by omega)]; exact g5.2.1, fun i hi => by rw [fo 72 (by omega) (by omega) (by omega) (by omega) (by omega), fo 73 (by omega) (by omega) (by omega) (by omega) (by omega)]; exact g5.2.2 i hi⟩, fun i hi hm => by rw [fo 84 (by omega) (by omega) (by omega) (by omega) (by omega), fo 85 (by omega) (by omega) (by omega) (by omega) (by omega)]; exact g6 i hi hm, qnw_NE g7 hf, qnw_PT hx g8⟩
  rw [ef]
  exact MX_weak a1 (fun r _ h => by cases h)
/-- the queue of a thought: all, or all but one -/
theorem st166 {b : Option Nat} {Q : gH → Prop} {n : Nat} (hn : n ≤ 16) (hb : ∀ b0, b = some b0 → b0 < n) {f : Bool} {h0 : gH} : ∀ (m k fu : Nat) (h : gH), k + m = n → m < fu → h 65 8 = nI n → h 65 2 = b2i f → (∀ r, r < k → h 71 r = b2i (!f && !decide (b = some r))) →
    (∀ h', (∀ r, r < n → h' 71 r = b2i (!f && !decide (b = some r))) → (∀ c, c ≠ 71 → h' c = h c) → Sp (glet (hu h' 65 9 0) fun h3 => (fM_nextRule h3).bind fun p5 => fM_starts_223 (oI b) (h' 65 9) gfu p5.1 p5.2) Q) → Sp (fM_starts_166 (oI b) fu (nI k) h) Q := by
  intro m
  induction m with
  | zero =>
    intro k fu h hk hfu h8 h2 hq hend
    obtain ⟨fu, rfl⟩ : ∃ f, fu = f + 1 := ⟨fu - 1, by omega⟩
    have hk : k = n := by omega
    subst hk
    unfold fM_starts_166
    rw [h8]
    exact Sp_neg (fun z => by have := (nlt (by omega) (by omega)).mp z; omega) (hend h hq (fun _ _ => rfl))
  | succ m ih =>
    intro k fu h hk hfu h8 h2 hq hend
    obtain ⟨fu, rfl⟩ : ∃ f, fu = f + 1 := ⟨fu - 1, by omega⟩
    have fin : ∀ v : Bool, v = (!f && !decide (b = some k)) → Sp (fM_starts_199 (fM_starts_166 (oI b) fu) (oI b) (nI k) (nI k) (b2i v) h) Q := by
      intro v hv
      unfold fM_starts_199
      refine Sp_gg (gin_t (by omega) (by omega)) (Sp_gg (by cases v <;> rfl) (Sp_let ?_))
      rw [clampn (by omega), nadd_l]
      refine ih (k + 1) fu _ (by omega) (by omega) (by rw [hu_o _ _ _ _ _ (by omega)]; exact h8) (by rw [hu_o _ _ _ _ _ (by omega)]; exact h2) (fun r hr => ?_) (fun h' a1 a2 => hend h' a1 (fun c hc => (a2 c hc).trans (hu_ne hc)))
      by_cases e : r = k
      · subst e; rw [hu_same, hv]
      · rw [hu_k _ _ _ _ e]; exact hq r (by omega)
    unfold fM_starts_166
    rw [h8]
    refine Sp_pos ((nlt (by omega) (by omega)).mpr (by omega)) ?_
    by_cases hbk : b = some k
    · subst hbk
      refine Sp_pos rfl ?_
      unfold fM_starts_198
      exact fin false (by simp)
    · refine Sp_neg (fun z => ?_) ?_
      · cases b with
        | none => exact neq_m1 (by omega) z
        | some b0 => exact hbk (by rw [(nI_eq (by omega) (by have := hb b0 rfl; omega)).mp z])
      · rw [h2]
        cases hf : f with
        | false =>
          refine Sp_pos rfl ?_
          exact fin true (by rw [hf]; simp [hbk])
        | true =>
          refine Sp_neg (by decide) ?_
          unfold fM_starts_198
          exact fin false (by rw [hf]; rfl)
theorem bt_sub {E : qE} {b : Option Nat} {r : Nat} (h : Eact (Ebt E b) r = true) : Eact (Ebt E none) r = true ∧ b ≠ some r := by
  unfold Eact Ebt at h ⊢
  simp only [Bool.and_eq_true] at h ⊢
  refine ⟨⟨h.1, rfl⟩, fun e => ?_⟩
  subst e
  have := h.2
  unfold Eac at this
  simp at this
theorem qafter_bt {E : qE} {b0 r : Nat} {Q w : Nat → Bool} {f : Bool} (hq : Q b0 = false) (i : Nat) : qafter Q f w (Eact (Ebt E (some b0))) r i = (qafter Q f w (Eact (Ebt E none)) r i && !decide (i = b0)) := by
  unfold qafter
  by_cases e : i = b0
  · subst e
    have : Eact (Ebt E (some i)) i = false := by unfold Eact Eac Ebt; simp
    rw [this, hq]; simp
  · have : Eact (Ebt E (some b0)) i = Eact (Ebt E none) i := by
      have h1 : Eac (Ebt E (some b0)) i = true := by unfold Eac Ebt; simp [e]
      have h2 : Eac (Ebt E none) i = true := rfl
      show (qact (En E) 0 0 i && _) = (qact (En E) 0 0 i && _)
      rw [h1, h2]
    rw [this]; simp [e]
theorem qone_bt {E : qE} {b0 r : Nat} {P : qP} (hq : P.2.1 b0 = false) : (qone (Ebt E (some b0)) r P).1 = (qone (Ebt E none) r P).1 ∧ (qone (Ebt E (some b0)) r P).2.2 = (qone (Ebt E none) r P).2.2 ∧ ∀ i, (qone (Ebt E (some b0)) r P).2.1 i = ((qone (Ebt E none) r P).2.1 i && !decide (i = b0)) := by
  refine ⟨rfl, rfl, fun i => ?_⟩
  exact qafter_bt (Q := fun i => P.2.1 i && !decide (i = r)) (by rw [hq]; rfl) i
/-- the thought runs -/
def TI (h : gH) (E : qE) (kd : Nat → Nat) (t0 : qT) (P : qP) : Prop := ME h (Ebt E none) kd ∧ MX (Eact (Ebt E none)) h P.1 P.2.1 P.2.2.1 ∧ h 65 36 = 1 ∧ MT h t0
theorem st223 {E : qE} {kd : Nat → Nat} {t0 : qT} {b : Option Nat} (hb : ∀ b0, b = some b0 → b0 < 16) (had : Int32) : ∀ (k fu : Nat) (h : gH) (P : qP), mu P ≤ k → k < fu → TI h E kd t0 P → PI (Ebt E b) P → PT P →
    Sp (fM_starts_223 (oI b) had fu (oI (qnx (Er E) P.2.1 24)) h) (fun h' => MX Vno h' (qiter (Ebt E b) k P).1 qemp (qiter (Ebt E b) k P).2.2.1 ∧ h' 65 9 = had ∧ h' 65 36 = 1 ∧ MT h' t0) := by
  intro k
  induction k with
  | zero =>
    intro fu h P hm hfu H hI hT
    obtain ⟨fu, rfl⟩ : ∃ f, fu = f + 1 := ⟨fu - 1, by omega⟩
    rw [qnx_none.mpr (mu_0 (P := P) (by omega))]
    unfold fM_starts_223
    refine Sp_pos rfl (Sp_some ⟨?_, hu_same _ _ _ _, by rw [hu_k _ _ _ _ (by omega)]; exact H.2.2.1, MT_of H.2.2.2 (by rw [hu_k _ _ _ _ (by omega)]) (by rw [hu_ne (by omega)]) (by rw [hu_ne (by omega)])⟩)
    exact ⟨fun x hx => by rw [hu_o _ _ _ _ _ (by omega)]; exact H.2.1.1 x hx, fun r _ h => (by cases h), by rw [hu_k _ _ _ _ (by omega)]; exact H.2.1.2.2⟩
  | succ k ih =>
    intro fu h P hm hfu H hI hT
    obtain ⟨fu, rfl⟩ : ∃ f, fu = f + 1 := ⟨fu - 1, by omega⟩
    have hEr : Er (Ebt E b) = Er E := rfl
    rw [qiter, hEr]
    cases hq : qnx (Er E) P.2.1 24 with
    | none =>
      unfold fM_starts_223
      refine Sp_pos rfl (Sp_some ⟨?_, hu_same _ _ _ _, by rw [hu_k _ _ _ _ (by omega)]; exact H.2.2.1, MT_of H.2.2.2 (by rw [hu_k _ _ _ _ (by omega)]) (by rw [hu_ne (by omega)]) (by rw [hu_ne (by omega)])⟩)
      exact ⟨fun x hx => by rw [hu_o _ _ _ _ _ (by omega)]; exact H.2.1.1 x hx, fun r _ h => (by cases h), by rw [hu_k _ _ _ _ (by omega)]; exact H.2.1.2.2⟩
    | some r =>
      obtain ⟨h1, h2⟩ := qnx_lt hq
      have hlt := mu_lt hI hT h1 h2
      have hI0 : PI (Ebt E none) P := ⟨hI.1, hI.2.1, fun i hi h => (bt_sub (hI.2.2 i hi h)).1⟩
      have hI2 := qone_PI hI hT h1 h2
      have hT2 := qone_PT hI hT h1 h2
      unfold fM_starts_223
      refine Sp_neg (neq_m1 (by omega)) (Sp_gg (gin_t h1 (by omega)) (Sp_let ?_))
      show Sp ((fM_prunes (nI r) (hu h 71 (nI r).toNatClampNeg 0)).bind _) _
      rw [clampn (by omega)]
      have hMP : MP h (Ebt E none) kd true t0 P := ⟨⟨Ebt_all E, H.1⟩, H.2.1, H.2.2.1, H.2.2.2⟩
      refine Sp_bind (mone hMP hI0 hT h1 h2 0).2 ?_
      rintro h6 - ⟨⟨-, a1⟩, a2, a3, a4⟩
      cases hbb : b with
      | none =>
        subst hbb
        refine Sp_pos rfl ?_
        unfold fM_starts_255
        refine Sp_eq (next_eq (Ebt_all E) a1 a2.2.1 hI2.2.2) ?_
        exact ih fu h6 _ (by omega) (by omega) ⟨a1, a2, a3, a4⟩ hI2 hT2
      | some b0 =>
        subst hbb
        have hb0 := hb b0 rfl
        refine Sp_neg (neq_m1 (by omega)) (Sp_gg (gin_t (by omega) (by omega)) ?_)
        unfold fM_starts_255
        show Sp ((fM_nextRule (hu h6 71 (nI b0).toNatClampNeg 0)).bind _) _
        rw [clampn (by omega)]
        have hqb : P.2.1 b0 = false := by
          cases hq : P.2.1 b0 with
          | false => rfl
          | true => exact absurd rfl (bt_sub (hI.2.2 b0 (by omega) hq)).2
        obtain ⟨c1, c2, c3⟩ := qone_bt (E := E) (b0 := b0) (r := r) hqb
        have a1' : ME (hu h6 71 b0 0) (Ebt E none) kd := ME_fr a1 (by rw [hu_o _ _ _ _ _ (by omega)]) (by rw [hu_o _ _ _ _ _ (by omega)]) (hu_ne (by omega)) (hu_ne (by omega)) (hu_ne (by omega)) (hu_ne (by omega))
        have a2' : MX (Eact (Ebt E none)) (hu h6 71 b0 0) (qone (Ebt E (some b0)) r P).1 (qone (Ebt E (some b0)) r P).2.1 (qone (Ebt E (some b0)) r P).2.2.1 := by
          refine ⟨fun x hx => by rw [hu_o _ _ _ _ _ (by omega), c1]; exact a2.1 x hx, fun i hi hv => ?_, by rw [hu_o _ _ _ _ _ (by omega), c2]; exact a2.2.2⟩
          rw [c3]
          by_cases e : i = b0
          · subst e; rw [hu_same]; simp [b2i]
          · rw [hu_k _ _ _ _ e, a2.2.1 i hi hv]; simp [e]
        refine Sp_eq (next_eq (Ebt_all E) a1' a2'.2.1 (fun i hi h => (bt_sub (hI2.2.2 i hi h)).1)) ?_
        exact ih fu (hu h6 71 b0 0) _ (by omega) (by omega) ⟨a1', a2', by rw [hu_o _ _ _ _ _ (by omega)]; exact a3, MT_of a4 (by rw [hu_o _ _ _ _ _ (by omega)]) (hu_ne (by omega)) (hu_ne (by omega))⟩ hI2 hT2
