theorem MX_congr {V : Nat → Bool} {h : gH} {D D2 : Nat → Nat → Bool} {Q Q2 : Nat → Bool} {f f2 : Bool} (H : MX V h D Q f) (hD : ∀ x, x < 8 → ∀ v, v < 10 → D2 x v = D x v) (hQ : ∀ r, r < 24 → V r = true → Q2 r = Q r) (hf : f2 = f) : MX V h D2 Q2 f2 :=
  ⟨fun x hx => (H.1 x hx).trans (mkn_congr (fun v hv => (hD x hx v hv).symm)), fun r hr hv => by rw [hQ r hr hv]; exact H.2.1 r hr hv, by rw [hf]; exact H.2.2⟩
theorem keeps_loop {V : Nat → Bool} {x : Nat} (hx : x < 8) (S : Nat → Bool) (rs : Int32) (th : Bool) : ∀ (m k n : Nat) (h : gH) (D : Nat → Nat → Bool) (Q : Nat → Bool) (t : qT), k + m = 10 → m < n → MX V h D Q false → h 65 36 = b2i th → MT h t → (∀ v, k ≤ v → v < 10 → S v = true → D x v = true) → qany (D x) = true → (th = true ∨ t.length + (qent x rs S m k).length ≤ 80) →
    Sp (fM_keeps_15 (nI x) rs (mkn 10 S) n (nI k) h) (fun h' => MX V h' (qnar D x (fun v => !(decide (k ≤ v) && S v))) (if qany (qnar D x (fun v => !(decide (k ≤ v) && S v)) x) then Q else qemp) (!qany (qnar D x (fun v => !(decide (k ≤ v) && S v)) x)) ∧ MT h' (if th then t else t ++ qent x rs S m k) ∧ h' 65 36 = b2i th ∧ h' 65 35 = (if qany (fun v => decide (k ≤ v) && S v) then (h 65 35 ||| (1 <<< (nI x &&& 31))) else h 65 35)) := by
  intro m
  induction m with
  | zero =>
    intro k n h D Q t hk hn H hth ht hS hne hr
    obtain ⟨n, rfl⟩ : ∃ n', n = n' + 1 := ⟨n - 1, by omega⟩
    have hk : k = 10 := by omega
    subst hk
    unfold fM_keeps_15
    have e1 : ∀ y, y < 8 → ∀ v, v < 10 → qnar D x (fun v => !(decide (10 ≤ v) && S v)) y v = D y v := fun y _ v hv => by
      unfold qnar
      have : decide (10 ≤ v) = false := decide_eq_false (by omega)
      split <;> simp [this]
    have e2 : qany (qnar D x (fun v => !(decide (10 ≤ v) && S v)) x) = true := by rw [qany_congr (fun v hv => e1 x hx v hv)]; exact hne
    have e3 : qany (fun v => decide (10 ≤ v) && S v) = false := (qany_f _).mpr (fun v hv => by
      have : decide (10 ≤ v) = false := decide_eq_false (by omega)
      simp [this])
    refine Sp_neg (by decide) (Sp_some ⟨?_, ?_, hth, ?_⟩)
    · rw [e2]; exact MX_congr H e1 (fun _ _ _ => rfl) rfl
    · simp only [qent, List.append_nil]; cases th <;> exact ht
    · rw [e3]; rfl
  | succ m ih =>
    intro k n h D Q t hk hn H hth ht hS hne hr
    obtain ⟨n, rfl⟩ : ∃ n', n = n' + 1 := ⟨n - 1, by omega⟩
    have hk10 : k < 10 := by omega
    unfold fM_keeps_15
    refine Sp_pos (nltT hk10 (by decide)) (Sp_pos H.2.2 ?_)
    rw [nadd_l, mkn_test (by omega) hk10]
    rcases hSk : S k with _ | _
    · refine Sp_neg (by simp) ?_
      have hq : qent x rs S (m + 1) k = qent x rs S m (k + 1) := by simp [qent, hSk]
      rw [hq] at hr ⊢
      have e0 : ∀ v, (decide (k ≤ v) && S v) = (decide (k + 1 ≤ v) && S v) := fun v => by
        by_cases hv : v = k
        · subst hv; simp [hSk]
        · have : decide (k + 1 ≤ v) = decide (k ≤ v) := by apply decide_eq_decide.mpr; omega
          rw [this]
      have e1 : (fun v => !(decide (k ≤ v) && S v)) = (fun v => !(decide (k + 1 ≤ v) && S v)) := by funext v; rw [e0]
      have e2 : (fun v => (decide (k ≤ v) && S v)) = (fun v => (decide (k + 1 ≤ v) && S v)) := by funext v; rw [e0]
      rw [e1, e2]
      exact ih (k + 1) n h D Q t (by omega) (by omega) H hth ht (fun v h1 h2 h3 => hS v (by omega) h2 h3) hne hr
    · refine Sp_pos (by simp) ?_
      have hq : qent x rs S (m + 1) k = (10 * x + k, rs) :: qent x rs S m (k + 1) := by simp [qent, hSk]
      rw [hq] at hr ⊢
      have hr1 : th = true ∨ t.length < 80 := by
        rcases hr with hr | hr
        · exact Or.inl hr
        · right; simp at hr; omega
      refine Sp_bind (Sp_and (goes_sp hx hk10 rs H hth ht hr1) (fun _ e => fM_goes_fr e)) ?_
      rintro h1 - ⟨⟨a1, a2, a3⟩, fr⟩
      have hth1 : h1 65 36 = b2i th := by rw [fr 65 36 (by decide) (by decide)]; exact hth
      have e4 : qany (fun v => decide (k ≤ v) && S v) = true := (qany_iff _).mpr ⟨k, hk10, by simp [hSk]⟩
      have e5 : ∀ y, y < 8 → ∀ v, v < 10 → qnar D x (fun v => !(decide (k ≤ v) && S v)) y v = qnar (qnar D x (fun i => !decide (i = k))) x (fun v => !(decide (k + 1 ≤ v) && S v)) y v := fun y _ v hv => by
        unfold qnar
        by_cases hyx : y = x
        · simp only [if_pos hyx]
          by_cases hvk : v = k
          · subst hvk; simp [hSk]
          · have : decide (k + 1 ≤ v) = decide (k ≤ v) := by apply decide_eq_decide.mpr; omega
            rw [this]; simp [hvk]
        · simp only [if_neg hyx]
      cases hq1 : qany (qnar D x (fun i => !decide (i = k)) x) with
      | true =>
        rw [hq1] at a1
        refine Sp_mono (ih (k + 1) n h1 (qnar D x (fun i => !decide (i = k))) Q (if th then t else t ++ [(10 * x + k, rs)]) (by omega) (by omega) a1 hth1 a2 ?_ hq1 ?_) ?_
        · intro v h1 h2 h3
          unfold qnar
          rw [if_pos rfl, hS v (by omega) h2 h3]
          have : v ≠ k := by omega
          simp [this]
        · rcases hr with hr | hr
          · exact Or.inl hr
          · cases th with
            | true => exact Or.inl rfl
            | false => right; simp at hr ⊢; omega
        · rintro h' ⟨b1, b2, b3, b4⟩
          have e6 := qany_congr (fun v hv => e5 x hx v hv)
          refine ⟨?_, ?_, b3, ?_⟩
          · rw [e6]; exact MX_congr b1 e5 (fun _ _ _ => rfl) rfl
          · cases th with
            | true => exact b2
            | false => simpa using b2
          · rw [b4, e4, a3, if_pos rfl]
            split
            · refine bt_ext (fun i _ => ?_)
              rw [bt_or, bt_or]; cases bt (h 65 35) i <;> simp
            · rfl
      | false =>
        rw [hq1] at a1
        have hno : ∀ v, k + 1 ≤ v → v < 10 → S v = false := fun v h1 h2 => by
          cases hv : S v with
          | false => rfl
          | true =>
            have h3 := (qany_f _).mp hq1 v h2
            unfold qnar at h3
            rw [if_pos rfl, hS v (by omega) h2 hv] at h3
            have : v ≠ k := by omega
            simp [this] at h3
        have e7 : ∀ y, y < 8 → ∀ v, v < 10 → qnar D x (fun v => !(decide (k ≤ v) && S v)) y v = qnar D x (fun i => !decide (i = k)) y v := fun y hy v hv => by
          rw [e5 y hy v hv]
          unfold qnar
          by_cases hyx : y = x
          · simp only [if_pos hyx]
            by_cases hvk : k + 1 ≤ v
            · rw [hno v hvk hv]; simp
            · rw [decide_eq_false hvk]; simp
          · simp only [if_neg hyx]
        have e8 : qent x rs S m (k + 1) = [] := by
          cases hl : qent x rs S m (k + 1) with
          | nil => rfl
          | cons a l =>
            obtain ⟨v, g1, g2, g3, -⟩ := (mem_qent m (k + 1) a).mp (by rw [hl]; exact List.mem_cons_self)
            rw [hno v (by omega) (by omega)] at g3; cases g3
        have hend : Sp (fM_keeps_15 (nI x) rs (mkn 10 S) n (nI (k + 1)) h1) (fun h' => h' = h1) := by
          obtain ⟨n, rfl⟩ : ∃ n', n = n' + 1 := ⟨n - 1, by omega⟩
          unfold fM_keeps_15
          refine Sp_if (fun _ => Sp_neg ?_ (Sp_some rfl)) (fun _ => Sp_some rfl)
          rw [a1.2.2]; decide
        refine Sp_mono hend ?_
        rintro h' rfl
        have e9 := qany_congr (fun v hv => e7 x hx v hv)
        refine ⟨?_, ?_, hth1, ?_⟩
        · rw [e9, hq1]; exact MX_congr a1 e7 (fun _ _ _ => rfl) rfl
        · rw [e8]; exact a2
        · rw [e4, a3]; rfl
theorem keeps_sp {V : Nat → Bool} {x : Nat} (hx : x < 8) {h : gH} {D : Nat → Nat → Bool} {Q : Nat → Bool} {th : Bool} {t : qT} (s rs : Int32) (H : MX V h D Q false) (hth : h 65 36 = b2i th) (ht : MT h t) (hne : qany (D x) = true) (hr : th = true ∨ TW D t) :
    Sp (fM_keeps (nI x) s rs h) (fun h' => MX V h' (qnar D x (bt s)) (if qany (qnar D x (bt s) x) then Q else qemp) (!qany (qnar D x (bt s) x)) ∧ MT h' (if th then t else t ++ qent x rs (fun v => D x v && !bt s v) 10 0) ∧ h' 65 36 = b2i th ∧ h' 65 35 = (if qany (fun v => D x v && !bt s v) then (h 65 35 ||| (1 <<< (nI x &&& 31))) else h 65 35)) := by
  unfold fM_keeps
  refine Sp_gg (gin_t (by omega) (by omega)) ?_
  rw [clampn (by omega), H.1 x hx]
  have eS : mkn 10 (D x) &&& (s ^^^ (-1)) = mkn 10 (fun v => D x v && !bt s v) := by
    rw [mkn_andx (by omega)]
    exact mkn_congr (fun i hi => by rw [bt_not _ (by omega)])
  rw [eS]
  have hr2 : th = true ∨ t.length + (qent x rs (fun v => D x v && !bt s v) 10 0).length ≤ 80 := by
    rcases hr with hr | hr
    · exact Or.inl hr
    · right; have := (hr.drop hx rs (bt s)).len; rw [List.length_append] at this; exact this
  refine Sp_mono (keeps_loop hx _ rs th 10 0 gfu h D Q t (by omega) (by unfold gfu; omega) H hth ht (fun v _ _ q => by simp at q; exact q.1) hne hr2) ?_
  rintro h' ⟨a1, a2, a3, a4⟩
  have e : ∀ y, y < 8 → ∀ v, v < 10 → qnar D x (bt s) y v = qnar D x (fun v => !(decide (0 ≤ v) && (D x v && !bt s v))) y v := fun y _ v _ => by
    unfold qnar
    by_cases hyx : y = x
    · subst hyx; simp only [if_pos rfl]; cases D y v <;> cases bt s v <;> simp
    · simp only [if_neg hyx]
  have e2 := qany_congr (fun v hv => e x hx v hv)
  refine ⟨?_, a2, a3, ?_⟩
  · rw [e2]; exact MX_congr a1 e (fun _ _ _ => rfl) rfl
  · rw [a4]; simp
