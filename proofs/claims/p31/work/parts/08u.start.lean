/-! decisions, one after the other, from the start -/
def qnw (E : qE) (x : Nat) (s rs : Int32) (P : qP) : qP :=
  (qnar P.1 x (bt s), qwk P.2.1 (P.2.2.1 || !qany (qnar P.1 x (bt s) x)) (qany (fun v => P.1 x v && !bt s v)) (fun r => Ev E r x && Eact E r), P.2.2.1 || !qany (qnar P.1 x (bt s) x), P.2.2.2 ++ qent x rs (fun v => P.1 x v && !bt s v) 10 0)
def qfull : Nat → Nat → Bool := fun _ _ => true
def qP0 : qP := (qfull, qemp, false, [])
def qdcs (E : qE) (dec : Nat → Nat × Int32) (mk : Nat → Bool) (rsf : Nat → Int32) : Nat → Nat → qP → qP
  | _, 0, P => P
  | k, m + 1, P => if P.2.2.1 then P else qdcs E dec mk rsf (k + 1) m (if mk k then qnw E (dec k).1 (dec k).2 (rsf k) P else P)
def qwake (E : qE) (P : qP) : qP := (P.1, if P.2.2.1 then qemp else Eact E, P.2.2.1, P.2.2.2)
theorem narrow_HP {o : Nat} (ho : gHall o) {x : Nat} (hx : x < 8) {E : qE} {h : gH} {P : qP} (s rs : Int32) (hE : XE h E) (H : HP h o E P) :
    Sp (fH_narrow o (nI x) s rs h) (fun p => p.1 = nI (qent x rs (fun v => P.1 x v && !bt s v) 10 0).length ∧ HP p.2 o E (qnw E x s rs P)) := by
  refine Sp_mono (narrow_sp ho hx s rs H (hE.2.2.2.2.2.2 x hx).1) ?_
  rintro p ⟨a1, a2⟩
  refine ⟨a1, HX_congr a2 (fun _ _ _ _ => rfl) (fun r hr => ?_) rfl rfl⟩
  unfold qnw qwk
  dsimp only
  cases ha : Eact E r with
  | false => simp
  | true => rw [(hE.2.2.2.2.2.2 x hx).2 r ha]
theorem qnw_PI {E : qE} {x : Nat} (hx : x < 8) {s rs : Int32} {P : qP} (hI : PI E P) (hf : P.2.2.1 = false) : PI E (qnw E x s rs P) := by
  have hne := hI.1 hf
  refine ⟨fun h y hy => ?_, fun h r hr => ?_, fun r hr h => ?_⟩
  · unfold qnw at h ⊢
    dsimp only at h ⊢
    by_cases e : y = x
    · subst e; rw [hf] at h; simpa using h
    · rw [qany_congr (g := P.1 y) (fun v _ => by unfold qnar; rw [if_neg e])]; exact hne y hy
  · unfold qnw at h ⊢
    dsimp only at h ⊢
    have hc : qany (fun v => P.1 x v && !bt s v) = true := by
      cases hc : qany (fun v => P.1 x v && !bt s v) with
      | true => rfl
      | false =>
        rw [hf] at h
        have h2 := (qany_f _).mp hc
        have : qany (qnar P.1 x (bt s) x) = true := by
          rw [qany_congr (g := P.1 x) (fun v hv => by
            unfold qnar; rw [if_pos rfl]
            have := h2 v hv
            revert this; cases P.1 x v <;> cases bt s v <;> simp)]
          exact hne x hx
        rw [this] at h; simp at h
    unfold qwk
    rw [hc, h]; rfl
  · unfold qnw qwk at h
    dsimp only at h
    cases hc : qany (fun v => P.1 x v && !bt s v) with
    | false => rw [hc] at h; exact hI.2.2 r hr h
    | true =>
      rw [hc] at h
      simp only [if_true, Bool.and_eq_true, Bool.or_eq_true] at h
      rcases h.2 with q | q
      · exact hI.2.2 r hr q
      · exact q.2
theorem qnw_PT {E : qE} {x : Nat} (hx : x < 8) {s rs : Int32} {P : qP} (hT : PT P) : PT (qnw E x s rs P) := hT.drop hx rs (bt s)
theorem qdcs_inv {E : qE} {dec : Nat → Nat × Int32} {mk : Nat → Bool} {rsf : Nat → Int32} : ∀ (m k : Nat) (P : qP), (∀ i, k ≤ i → i < k + m → (dec i).1 < 8) → PI E P → PT P → PI E (qdcs E dec mk rsf k m P) ∧ PT (qdcs E dec mk rsf k m P) := by
  intro m
  induction m with
  | zero => intro k P _ h1 h2; exact ⟨h1, h2⟩
  | succ m ih =>
    intro k P hd h1 h2
    rw [qdcs]
    cases hf : P.2.2.1 with
    | true => rw [if_pos rfl]; exact ⟨h1, h2⟩
    | false =>
      rw [if_neg (by simp)]
      have hk := hd k (Nat.le_refl _) (by omega)
      refine ih (k + 1) _ (fun i a b => hd i (by omega) (by omega)) ?_ ?_
      · split
        · exact qnw_PI hk h1 hf
        · exact h1
      · split
        · exact qnw_PT hk h2
        · exact h2
theorem qP0_inv (E : qE) : PI E qP0 ∧ PT qP0 := by
  refine ⟨⟨fun _ x _ => (qany_iff _).mpr ⟨0, by omega, rfl⟩, fun h => (by cases h), fun r _ h => (by cases h)⟩, ?_, ?_, ?_⟩
  · intro a ha; cases ha
  · exact List.nodup_nil
  · intro x _ v _; unfold qP0 qfull; simp
theorem qwake_inv {E : qE} {P : qP} (h : PI E P) (hT : PT P) : PI E (qwake E P) ∧ PT (qwake E P) := by
  refine ⟨⟨h.1, fun hf r hr => ?_, fun r _ hq => ?_⟩, hT⟩
  · unfold qwake at hf ⊢
    dsimp only at hf ⊢
    rw [if_pos hf]; rfl
  · unfold qwake at hq
    dsimp only at hq
    split at hq
    · cases hq
    · exact hq
/-- the past holds d decisions dec -/
def XD (h : gH) (d : Nat) (dec : Nat → Nat × Int32) : Prop := d ≤ 12 ∧ h 22 5 = nI d ∧ ∀ i, i < d → h 23 i = nI (dec i).1 ∧ h 24 i = (dec i).2 ∧ (dec i).1 < 8
theorem clear_loop {o : Nat} (ho : gHall o) (tk : Int32) : ∀ (m k fu : Nat) (h : gH), k + m = 8 → m < fu → (∀ x, x < k → h (o + 1) x = 1023) → h (o + 1) 8 = 1 →
    Sp (fH_clear_2 o tk fu (nI k) h) (fun h' => (∀ x, x < 8 → h' (o + 1) x = 1023) ∧ h' (o + 1) 8 = 1 ∧ h' o 5 = 0 ∧ h' o 6 = tk ∧ h' o 7 = 0 ∧ h' o 9 = 0) := by
  intro m
  induction m with
  | zero =>
    intro k fu h hk hfu hx h8
    obtain ⟨fu, rfl⟩ : ∃ f, fu = f + 1 := ⟨fu - 1, by omega⟩
    have hk : k = 8 := by omega
    subst hk
    unfold fH_clear_2
    refine Sp_neg (by decide) (Sp_let (Sp_let (Sp_let (Sp_some ⟨fun x h1 => ?_, ?_, ?_, ?_, ?_, ?_⟩))))
    · rw [hu_o _ _ _ _ _ (by omega), hu_o _ _ _ _ _ (by omega), hu_o _ _ _ _ _ (by omega), hu_o _ _ _ _ _ (by omega)]; exact hx x h1
    · rw [hu_o _ _ _ _ _ (by omega), hu_o _ _ _ _ _ (by omega), hu_o _ _ _ _ _ (by omega), hu_o _ _ _ _ _ (by omega)]; exact h8
    · rw [hu_k _ _ _ _ (by omega), hu_k _ _ _ _ (by omega), hu_k _ _ _ _ (by omega), hu_same]
    · rw [hu_k _ _ _ _ (by omega), hu_k _ _ _ _ (by omega), hu_same]
    · rw [hu_k _ _ _ _ (by omega), hu_same]
    · rw [hu_same]
  | succ m ih =>
    intro k fu h hk hfu hx h8
    obtain ⟨fu, rfl⟩ : ∃ f, fu = f + 1 := ⟨fu - 1, by omega⟩
    unfold fH_clear_2
    refine Sp_pos (nltT (show k < 8 by omega) (by decide)) (Sp_gg (gin_t (by omega) (by omega)) (Sp_let ?_))
    rw [clampn (by omega), nadd_l]
    refine ih (k + 1) fu _ (by omega) (by omega) (fun x h1 => ?_) ?_
    · by_cases e : x = k
      · subst e; rw [hu_same]
      · rw [hu_k _ _ _ _ e]; exact hx x (by omega)
    · rw [hu_k _ _ _ _ (by omega)]; exact h8
theorem m1023 : (1023 : Int32) = mkn 10 (fun _ => true) := by decide +kernel
theorem clear_sp {o : Nat} (ho : gHall o) {E : qE} {h : gH} (h8 : h (o + 1) 8 = 1) : Sp (fH_clear o (mkn 24 (Eact E)) h) (fun h' => HP h' o E qP0) := by
  unfold fH_clear
  refine Sp_mono (clear_loop ho _ 8 0 gfu h (by omega) (by unfold gfu; omega) (fun x hx => by omega) h8) ?_
  rintro h' ⟨a1, a2, a3, a4, a5, a6⟩
  exact ⟨fun x hx => (a1 x hx).trans m1023, a2, a5.trans (mkn_0 24 (by omega)), a6, ⟨a3, fun i a hi => by simp [qP0] at hi⟩, a4, (qP0_inv E).2⟩
theorem wake_HP {o : Nat} (ho : gHall o) {E : qE} {h : gH} {P : qP} (H : HP h o E P) (hI : PI E P) : Sp (fH_wake o (h o 6) h) (fun h' => HP h' o E (qwake E P)) := by
  obtain ⟨h1, h2, h3, h4, h5, h6, h7⟩ := H
  rw [wake_eq]
  refine Sp_some ⟨fun x hx => ?_, ?_, ?_, ?_, ⟨?_, fun i a hi => ?_⟩, ?_, h7⟩
  · rw [hu_o _ _ _ _ _ (by omega)]; exact h1 x hx
  · rw [hu_o _ _ _ _ _ (by omega)]; exact h2
  · rw [hu_same, h3, h4, h6]
    unfold qwake
    dsimp only
    cases hf : P.2.2.1 with
    | false =>
      rw [if_pos (by decide), if_neg (by simp), mkn_and (by omega), mkn_or (by omega)]
      refine mkn_congr (fun i hi => ?_)
      have := hI.2.2 i hi
      cases hq : P.2.1 i with
      | false => simp
      | true => rw [this hq]; rfl
    | true => rw [if_neg (by decide), if_pos rfl]; exact mkn_0 24 (by omega)
  · rw [hu_k _ _ _ _ (by omega)]; exact h4
  · rw [hu_k _ _ _ _ (by omega)]; exact h5.1
  · rw [hu_o _ _ _ _ _ (by omega), hu_o _ _ _ _ _ (by omega)]; exact h5.2 i a hi
  · rw [hu_k _ _ _ _ (by omega)]; exact h6
theorem XE_hall {h h1 : gH} {E : qE} (H : XE h E) (fr : ∀ b k, b < 17 → h1 b k = h b k) : XE h1 E := XE_fr H (fr 1 8 (by omega)) (funext fun k => fr 3 k (by omega)) (funext fun k => fr 4 k (by omega)) (funext fun k => fr 5 k (by omega)) (funext fun k => fr 6 k (by omega)) (funext fun k => fr 7 k (by omega)) (funext fun k => fr 8 k (by omega))
theorem start_loop {o : Nat} (ho : o = 28 ∨ o = 33) {E : qE} {d : Nat} {dec : Nat → Nat × Int32} (mk : Int32) : ∀ (m k fu : Nat) (h : gH) (P : qP), k + m = d → m < fu → XE h E → HP h o E P → XD h d dec → PI E P → PT P →
    Sp (fH_start_8 o mk fu (nI k) h) (fun h' => HP h' o E (qwake E (qdcs E dec (bt mk) (fun i => nI (100 + i)) k m P))) := by
  have hg : gHall o := by rcases ho with rfl | rfl; exact gH28; exact gH33
  intro m
  induction m with
  | zero =>
    intro k fu h P hk hfu hE H hd hI hT
    obtain ⟨fu, rfl⟩ : ∃ f, fu = f + 1 := ⟨fu - 1, by omega⟩
    have hd12 := hd.1
    unfold fH_start_8 fH_start_64
    rw [hd.2.1]
    refine Sp_neg (fun q => by have := (nlt (by omega) (by omega)).mp q; omega) (Sp_bind (wake_HP hg H hI) ?_)
    rintro h' - a
    exact Sp_some a
  | succ m ih =>
    intro k fu h P hk hfu hE H hd hI hT
    obtain ⟨fu, rfl⟩ : ∃ f, fu = f + 1 := ⟨fu - 1, by omega⟩
    have hd12 := hd.1
    unfold fH_start_8
    rw [hd.2.1]
    refine Sp_pos ((nlt (by omega) (by omega)).mpr (by omega)) ?_
    rw [H.2.2.2.1, qdcs]
    cases hf : P.2.2.1 with
    | true =>
      rw [if_pos rfl]
      unfold fH_start_64
      refine Sp_neg (by decide) (Sp_bind (wake_HP hg H hI) ?_)
      rintro h' - a
      exact Sp_some a
    | false =>
      rw [if_neg (show ¬ (false = true) by simp)]
      refine Sp_pos rfl ?_
      rw [bt_test _ (by omega), nadd_l, nadd_r]
      cases hb : bt mk k with
      | false =>
        refine Sp_neg (by simp) ?_
        rw [if_neg (by simp)]
        exact ih (k + 1) fu h P (by omega) (by omega) hE H hd hI hT
      | true =>
        refine Sp_pos (by simp) (Sp_gg (gin_t (by omega) (by omega)) (Sp_gg (gin_t (by omega) (by omega)) ?_))
        have g := hd.2.2 k (by omega)
        rw [clampn (by omega), g.1, g.2.1, if_pos rfl]
        refine Sp_bind (Sp_and (narrow_HP hg g.2.2 (dec k).2 (nI (100 + k)) hE H) (fun _ e => fH_narrow_fr hg e)) ?_
        rintro p - ⟨⟨-, a⟩, fr⟩
        have hE2 : XE p.2 E := XE_hall hE (fun b k hb => fr b k (by rcases ho with rfl | rfl <;> simp <;> omega) (by rcases ho with rfl | rfl <;> simp <;> omega))
        have f22 : ∀ b k, 22 ≤ b → b < 28 → p.2 b k = h b k := fun b k h1 h2 => fr b k (by rcases ho with rfl | rfl <;> simp <;> omega) (by rcases ho with rfl | rfl <;> simp <;> omega)
        exact ih (k + 1) fu p.2 _ (by omega) (by omega) hE2 a ⟨hd.1, by rw [f22 22 5 (by omega) (by omega)]; exact hd.2.1, fun i hi => by rw [f22 23 i (by omega) (by omega), f22 24 i (by omega) (by omega)]; exact hd.2.2 i hi⟩ (qnw_PI g.2.2 hI hf) (qnw_PT g.2.2 hT)
def qst (E : qE) (dec : Nat → Nat × Int32) (mk : Nat → Bool) (d : Nat) : qP := qwake E (qdcs E dec mk (fun i => nI (100 + i)) 0 d qP0)
theorem qst_inv {E : qE} {dec : Nat → Nat × Int32} {mk : Nat → Bool} {d : Nat} (hd : ∀ i, i < d → (dec i).1 < 8) : PI E (qst E dec mk d) ∧ PT (qst E dec mk d) := by
  have h := qdcs_inv (E := E) (dec := dec) (mk := mk) (rsf := fun i => nI (100 + i)) d 0 qP0 (fun i _ hi => hd i (by omega)) (qP0_inv E).1 (qP0_inv E).2
  exact qwake_inv h.1 h.2
theorem start_sp {o : Nat} (ho : o = 28 ∨ o = 33) {E : qE} {d : Nat} {dec : Nat → Nat × Int32} {h : gH} (mk : Int32) (hE : XE h E) (hd : XD h d dec) (h8 : h (o + 1) 8 = 1) :
    Sp (fH_start o mk (mkn 24 (Eact E)) h) (fun h' => HP h' o E (qst E dec (bt mk) d)) := by
  have hg : gHall o := by rcases ho with rfl | rfl; exact gH28; exact gH33
  unfold fH_start
  refine Sp_bind (Sp_and (clear_sp hg h8) (fun _ e => fH_clear_fr hg e)) ?_
  rintro h1 - ⟨a, fr⟩
  have hE2 : XE h1 E := XE_hall hE (fun b k hb => fr b k (by rcases ho with rfl | rfl <;> simp <;> omega) (by rcases ho with rfl | rfl <;> simp <;> omega))
  have f22 : ∀ b k, 22 ≤ b → b < 28 → h1 b k = h b k := fun b k g1 g2 => fr b k (by rcases ho with rfl | rfl <;> simp <;> omega) (by rcases ho with rfl | rfl <;> simp <;> omega)
  have hd12 := hd.1
  exact start_loop ho mk d 0 gfu h1 qP0 (by omega) (by unfold gfu; omega) hE2 a ⟨hd.1, by rw [f22 22 5 (by omega) (by omega)]; exact hd.2.1, fun i hi => by rw [f22 23 i (by omega) (by omega), f22 24 i (by omega) (by omega)]; exact hd.2.2 i hi⟩ (qP0_inv E).1 (qP0_inv E).2

