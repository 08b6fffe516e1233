/-! whether a rule does nothing -/
def like8 (D1 D2 : Nat → Nat → Bool) : Nat → Nat → Bool
  | _, 0 => true
  | k, m + 1 => decide (mkn 10 (D1 k) = mkn 10 (D2 k)) && like8 D1 D2 (k + 1) m
def s_idle (S : qW) (r : Nat) : Bool :=
  let A := qthink (Et S.1) none S.2.1.2.1.2 (bt (allm S.2.1.2.1.1)) S.2.1.2.1.1
  let B := qthink (Et S.1) (some r) S.2.1.2.1.2 (bt (allm S.2.1.2.1.1)) S.2.1.2.1.1
  if A.2.2.1 = true then B.2.2.1 else if B.2.2.1 = true then false else like8 A.1 B.1 0 8
theorem isLike36 {h : gH} {D1 D2 : Nat → Nat → Bool} (h1 : ∀ x, x < 8 → h 29 x = mkn 10 (D1 x)) (h2 : ∀ x, x < 8 → h 34 x = mkn 10 (D2 x)) : ∀ (m k fu : Nat), k + m = 8 → m < fu → fH_isLike_36 28 33 fu (nI k) h = some (b2i (like8 D1 D2 k m), h) := by
  intro m
  induction m with
  | zero =>
    intro k fu hk hfu
    obtain ⟨fu, rfl⟩ : ∃ f, fu = f + 1 := ⟨fu - 1, by omega⟩
    have : k = 8 := by omega
    subst this
    unfold fH_isLike_36
    rw [if_neg (by decide)]; rfl
  | succ m ih =>
    intro k fu hk hfu
    obtain ⟨fu, rfl⟩ : ∃ f, fu = f + 1 := ⟨fu - 1, by omega⟩
    unfold fH_isLike_36 like8
    rw [if_pos (nltT (show k < 8 by omega) (by decide)), gg_t (gin_t (by omega) (by omega)), gg_t (gin_t (by omega) (by omega)), clampn (by omega), show h (28 + 1) k = _ from h1 k (by omega), show h (33 + 1) k = _ from h2 k (by omega), nadd_l k 1, ih (k + 1) fu (by omega) (by omega)]
    by_cases e : mkn 10 (D1 k) = mkn 10 (D2 k)
    · rw [if_pos e, decide_eq_true e, Bool.true_and]
    · rw [if_neg e, decide_eq_false e, Bool.false_and]; rfl
theorem X_isIdle {h : gH} {S : qW} (H : AX h S) (W : WI S) {r : Nat} (hr : r < S.1.1) : Sp (fX_isIdle (nI r) h) (fun p => p.1 = b2i (s_idle S r) ∧ AX p.2 S) := by
  have hd : h 22 5 = nI S.2.1.2.1.1 := H.2.1.2.2.1.2.1
  have h16 := W.1
  obtain ⟨t1, t2, t3, t4⟩ := H.2.2.2.2.2.2
  unfold fX_isIdle
  refine Sp_eq (x := (allm S.2.1.2.1.1, h)) (by unfold fP_all; rw [hd]; rfl) (Sp_eq (rall_eq H W) ?_)
  refine xthink (b := none) (k := fun h2 => (fP_all 22 h2).bind fun p9 => (fR_all p9.2).bind fun p11 => (fH_start 33 p9.1 (p11.1 &&& (((1 : Int32) <<< ((nI r) &&& 31)) ^^^ (-1 : Int32))) p11.2).bind fun h13 => (fH_runAll 33 h13).bind fun p15 => (fH_isLike 28 33 p15.2).bind fun p17 => gg (gbo p17.1) <| some (p17.1, p17.2)) (Or.inl rfl) (allm S.2.1.2.1.1) H.1.1 H.2.1.2.2.1 t3 t1 (fun h2 hp fr z => ?_)
  have hA2 : AX h2 S := AX_think H (fun c hc => fr c (by omega)) z (by rw [fr 33 (by omega)]; exact t2) hp.2.1 (by rw [fr 34 (by omega)]; exact t4)
  have hd2 : h2 22 5 = nI S.2.1.2.1.1 := hA2.2.1.2.2.1.2.1
  refine Sp_eq (x := (allm S.2.1.2.1.1, h2)) (by unfold fP_all; rw [hd2]; rfl) (Sp_eq (rall_eq hA2 W) ?_)
  dsimp only
  have em : mkn 24 (Eact (Ebt (Et S.1) none)) &&& (((1 : Int32) <<< ((nI r) &&& 31)) ^^^ (-1 : Int32)) = mkn 24 (Eact (Ebt (Et S.1) (some r))) := by
    rw [mkn_del (by omega) (by omega)]
    exact mkn_congr (fun i _ => (Eact_bt S.1 r i).symm)
  rw [em]
  refine xthink (b := some r) (k := fun h3 => (fH_isLike 28 33 h3).bind fun p17 => gg (gbo p17.1) <| some (p17.1, p17.2)) (Or.inr rfl) (allm S.2.1.2.1.1) hA2.1.1 hA2.2.1.2.2.1 hA2.2.2.2.2.2.2.2.2.2 hA2.2.2.2.2.2.2.2.1 (fun h3 hp3 fr3 z3 => ?_)
  have hA3 : AX h3 S := AX_think hA2 (fun c hc => fr3 c (by omega)) (by rw [fr3 28 (by omega)]; exact z) z3 (by rw [fr3 29 (by omega)]; exact hp.2.1) hp3.2.1
  have a9 : h3 28 9 = b2i (qthink (Et S.1) none S.2.1.2.1.2 (bt (allm S.2.1.2.1.1)) S.2.1.2.1.1).2.2.1 := by rw [fr3 28 (by omega)]; exact hp.2.2.2.1
  have b9 : h3 33 9 = b2i (qthink (Et S.1) (some r) S.2.1.2.1.2 (bt (allm S.2.1.2.1.1)) S.2.1.2.1.1).2.2.1 := hp3.2.2.2.1
  suffices q : Sp (fH_isLike 28 33 h3) (fun p => p = (b2i (s_idle S r), h3)) from Sp_bind q (fun p _ e => by rw [e]; exact Sp_gg (gbo_b _) (Sp_some ⟨rfl, hA3⟩))
  unfold fH_isLike fH_isLike_14 s_idle
  dsimp only
  cases fa : (qthink (Et S.1) none S.2.1.2.1.2 (bt (allm S.2.1.2.1.1)) S.2.1.2.1.1).2.2.1 with
  | true =>
    rw [fa] at a9
    rw [if_pos (show true = true from rfl)]
    refine Sp_neg (by rw [a9]; decide) (Sp_neg (by rw [a9]; decide) ?_)
    cases fb : (qthink (Et S.1) (some r) S.2.1.2.1.2 (bt (allm S.2.1.2.1.1)) S.2.1.2.1.1).2.2.1 with
    | true => rw [fb] at b9; exact Sp_neg (by rw [b9]; decide) (Sp_some rfl)
    | false => rw [fb] at b9; exact Sp_pos (by rw [b9]; rfl) (Sp_some rfl)
  | false =>
    rw [fa] at a9
    rw [if_neg (show ¬ false = true by decide)]
    refine Sp_pos (by rw [a9]; rfl) ?_
    cases fb : (qthink (Et S.1) (some r) S.2.1.2.1.2 (bt (allm S.2.1.2.1.1)) S.2.1.2.1.1).2.2.1 with
    | true =>
      rw [fb] at b9
      rw [if_pos (show true = true from rfl)]
      exact Sp_neg (by rw [b9]; decide) (Sp_pos (by rw [a9]; rfl) (Sp_some rfl))
    | false =>
      rw [fb] at b9
      rw [if_neg (show ¬ false = true by decide)]
      refine Sp_pos (by rw [b9]; rfl) ?_
      have i0 := isLike36 (h := h3) (D1 := (qthink (Et S.1) none S.2.1.2.1.2 (bt (allm S.2.1.2.1.1)) S.2.1.2.1.1).1) (D2 := (qthink (Et S.1) (some r) S.2.1.2.1.2 (bt (allm S.2.1.2.1.1)) S.2.1.2.1.1).1) (fun x hx => by rw [fr3 29 (by omega)]; exact hp.1 x hx) hp3.1 8 0 gfu (by omega) (by unfold gfu; omega)
      rw [nI_0] at i0
      rw [i0]; exact Sp_some rfl
theorem idle25 {v1 v2 : Int32} {Q : Int32 × gH → Prop} : ∀ (m k fu : Nat) (h : gH), k + m = 8 → m < fu → (∀ x, x < k → h 86 x = h 66 x) →
    (∀ h', (∀ x, x < 8 → h' 86 x = h 66 x) → (∀ b, b ≠ 86 → h' b = h b) → Sp ((fM_starts (((1 : Int32) <<< ((h' 65 12) &&& 31)) - (1 : Int32)) (0 : Int32) v1 h').bind fun h5 => if (h5 65 2) = v2 then fM_isIdle_76 v2 (1 : Int32) h5 else fM_isIdle_76 v2 (0 : Int32) h5) Q) → Sp (fM_isIdle_25 v1 v2 fu (nI k) h) Q := by
  intro m
  induction m with
  | zero =>
    intro k fu h hk hfu hd hend
    obtain ⟨fu, rfl⟩ : ∃ f, fu = f + 1 := ⟨fu - 1, by omega⟩
    have : k = 8 := by omega
    subst this
    unfold fM_isIdle_25
    exact Sp_neg (by decide) (hend h hd (fun _ _ => rfl))
  | succ m ih =>
    intro k fu h hk hfu hd hend
    obtain ⟨fu, rfl⟩ : ∃ f, fu = f + 1 := ⟨fu - 1, by omega⟩
    unfold fM_isIdle_25
    refine Sp_pos (nltT (show k < 8 by omega) (by decide)) (Sp_gg (gin_t (by omega) (by omega)) (Sp_gg (gin_t (by omega) (by omega)) (Sp_let ?_)))
    rw [nadd_l k 1, clampn (by omega)]
    refine ih (k + 1) fu _ (by omega) (by omega) (fun x hx => ?_) (fun h' a1 a2 => hend h' (fun x hx => ?_) (fun b hb => ?_))
    · by_cases e : x = k
      · rw [e, hu_same, hu_ne (by omega)]
      · rw [hu_k _ _ _ _ e, hu_ne (by omega)]; exact hd x (by omega)
    · rw [a1 x hx, hu_ne (by omega)]
    · rw [a2 b hb, hu_ne hb]
theorem idle80 {v2 : Int32} {b2 : Bool} (hv2 : v2 = b2i b2) {D1 D2 : Nat → Nat → Bool} {h : gH} (h1 : ∀ x, x < 8 → h 86 x = mkn 10 (D1 x)) (h2 : ∀ x, x < 8 → h 66 x = mkn 10 (D2 x)) {Q : Int32 × gH → Prop} : ∀ (m k fu : Nat) (b3 : Bool), k + m = 8 → m < fu → Sp (fM_isIdle_124 (b2i (if b2 then b3 else b3 && like8 D1 D2 k m)) h) Q → Sp (fM_isIdle_80 v2 fu (b2i b3) (nI k) h) Q := by
  intro m
  induction m with
  | zero =>
    intro k fu b3 hk hfu hq
    obtain ⟨fu, rfl⟩ : ∃ f, fu = f + 1 := ⟨fu - 1, by omega⟩
    have : k = 8 := by omega
    subst this
    unfold fM_isIdle_80
    refine Sp_neg (by decide) ?_
    unfold like8 at hq
    rw [Bool.and_true] at hq
    cases b2 <;> exact hq
  | succ m ih =>
    intro k fu b3 hk hfu hq
    obtain ⟨fu, rfl⟩ : ∃ f, fu = f + 1 := ⟨fu - 1, by omega⟩
    unfold fM_isIdle_80 fM_isIdle_116 fM_isIdle_117
    refine Sp_pos (nltT (show k < 8 by omega) (by decide)) ?_
    rw [nadd_l k 1]
    cases b2 with
    | true => exact Sp_neg (by rw [hv2]; decide) hq
    | false =>
      refine Sp_pos hv2 ?_
      cases b3 with
      | false => exact Sp_pos rfl (ih (k + 1) fu false (by omega) (by omega) hq)
      | true =>
        refine Sp_neg (by decide) (Sp_gg (gin_t (by omega) (by omega)) (Sp_gg (gin_t (by omega) (by omega)) ?_))
        rw [clampn (by omega)]
        unfold like8 at hq
        by_cases e : mkn 10 (D1 k) = mkn 10 (D2 k)
        · rw [decide_eq_true e, Bool.true_and] at hq
          exact Sp_pos (by rw [h1 k (by omega), h2 k (by omega), e]) (ih (k + 1) fu true (by omega) (by omega) hq)
        · rw [decide_eq_false e, Bool.false_and] at hq
          exact Sp_neg (by rw [h1 k (by omega), h2 k (by omega)]; exact fun z => e z.symm) (ih (k + 1) fu false (by omega) (by omega) hq)
theorem M_isIdle {h : gH} {S : qW} (H : BM h S) (W : WI S) {r : Nat} (hr : r < S.1.1) : Sp (fM_isIdle (nI r) h) (fun p => p.1 = b2i (s_idle S r) ∧ BM p.2 S) := by
  refine Sp_to (Q := fun p => p.1 = b2i (s_idle S r) ∧ MC p.2 S.1 S.2.1) ?_ (fun p e q => ⟨q.1, BM_same H (fM_isIdle_fr e) (by decide) (by decide) q.2 (fM_isIdle_zb H.2.2.2.2 e)⟩)
  unfold fM_isIdle
  refine Sp_bind (TH_aside H.1 H.2.2.2.2) (fun h1 _ T => ?_)
  have e : h1 65 12 = nI S.2.1.2.1.1 := T.2.2.2.2.2.2.2.1.2.1
  rw [e]
  refine Sp_bind (TH_starts T (allm S.2.1.2.1.1) (b := none) (fun b0 z => by cases z)) (fun h2 _ q => ?_)
  obtain ⟨q1, q2⟩ := q
  have x0 := idle25 (v1 := nI r) (v2 := h2 65 2) (Q := fun p => p.1 = b2i (s_idle S r) ∧ MC p.2 S.1 S.2.1) 8 0 gfu h2 (by omega) (by unfold gfu; omega) (fun x hx => by omega) (fun h3 a1 a2 => ?_)
  · rw [nI_0] at x0; exact x0
  · have T3 : TH h S.1 S.2.1 h3 := by
      obtain ⟨t1, t2, t3, t4, t5, t6, t7, t8, t9, z⟩ := q1
      refine ⟨?_, ?_, ?_, ?_, ?_, ?_, ?_, ?_, ?_, ?_⟩
      · intro x hx; rw [a2 82 (by omega)]; exact t1 x hx
      · intro x hx; rw [a2 83 (by omega)]; exact t2 x hx
      · rw [a2 65 (by omega)]; exact t3
      · rw [a2 65 (by omega)]; exact t4
      · rw [a2 65 (by omega)]; exact t5
      · exact MT_of t6 (by rw [a2 65 (by omega)]) (a2 74 (by omega)) (a2 75 (by omega))
      · exact ME_fr t7 (by rw [a2 65 (by omega)]) (by rw [a2 65 (by omega)]) (a2 67 (by omega)) (a2 68 (by omega)) (a2 69 (by omega)) (a2 70 (by omega))
      · exact MD_fr t8 (by rw [a2 65 (by omega)]) (a2 72 (by omega)) (a2 73 (by omega))
      · exact MLv_fr t9 (by rw [a2 65 (by omega)]) (a2 76 (by omega)) (a2 77 (by omega)) (a2 78 (by omega))
      · refine ⟨fun o ho k => ?_, fun k hk => by rw [a2 65 (by omega)]; exact z.2 k hk⟩
        rw [a2 o (by have : ∀ o ∈ zbo, o ≠ 86 := by decide
                     exact this o ho)]
        exact z.1 o ho k
    have e3 : h3 65 12 = nI S.2.1.2.1.1 := T3.2.2.2.2.2.2.2.1.2.1
    rw [e3]
    refine Sp_bind (Sp_and (TH_starts T3 (allm S.2.1.2.1.1) (b := some r) (fun b0 z => by cases z; exact hr)) (fun x e => fM_starts_fr e)) (fun h4 _ q => ?_)
    obtain ⟨⟨q3, q4⟩, fr⟩ := q
    have a9 := q2.2.2
    have b9 := q4.2.2
    have d1 : ∀ x, x < 8 → h4 86 x = mkn 10 ((qthink (Et S.1) none S.2.1.2.1.2 (bt (allm S.2.1.2.1.1)) S.2.1.2.1.1).1 x) := fun x hx => by rw [gfr_row fr 86 (by decide) (by decide), a1 x hx]; exact q2.1 x hx
    have fin : ∀ b, b = s_idle S r → Sp (fM_isIdle_124 (b2i b) h4) (fun p => p.1 = b2i (s_idle S r) ∧ MC p.2 S.1 S.2.1) := by
      intro b hb
      unfold fM_isIdle_124
      refine Sp_bind (TH_back q3 H.1) (fun h5 _ q => Sp_gg (gbo_b _) (Sp_some ⟨?_, q.1⟩))
      rw [hb]
    have go : ∀ b3 : Bool, (if (qthink (Et S.1) none S.2.1.2.1.2 (bt (allm S.2.1.2.1.1)) S.2.1.2.1.1).2.2.1 then b3 else b3 && like8 (qthink (Et S.1) none S.2.1.2.1.2 (bt (allm S.2.1.2.1.1)) S.2.1.2.1.1).1 (qthink (Et S.1) (some r) S.2.1.2.1.2 (bt (allm S.2.1.2.1.1)) S.2.1.2.1.1).1 0 8) = s_idle S r → Sp (fM_isIdle_76 (h2 65 2) (b2i b3) h4) (fun p => p.1 = b2i (s_idle S r) ∧ MC p.2 S.1 S.2.1) := by
      intro b3 hb3
      unfold fM_isIdle_76
      have x1 := idle80 (v2 := h2 65 2) a9 d1 q4.1 (Q := fun p => p.1 = b2i (s_idle S r) ∧ MC p.2 S.1 S.2.1) 8 0 gfu b3 (by omega) (by unfold gfu; omega) (fin _ hb3)
      rw [nI_0] at x1; exact x1
    cases fa : (qthink (Et S.1) none S.2.1.2.1.2 (bt (allm S.2.1.2.1.1)) S.2.1.2.1.1).2.2.1 with
    | true =>
      cases fb : (qthink (Et S.1) (some r) S.2.1.2.1.2 (bt (allm S.2.1.2.1.1)) S.2.1.2.1.1).2.2.1 with
      | true => exact Sp_pos (by rw [a9, b9, fa, fb]) (go true (by unfold s_idle; dsimp only; rw [fa, fb]; rfl))
      | false => exact Sp_neg (by rw [a9, b9, fa, fb]; decide) (go false (by unfold s_idle; dsimp only; rw [fa, fb]; rfl))
    | false =>
      cases fb : (qthink (Et S.1) (some r) S.2.1.2.1.2 (bt (allm S.2.1.2.1.1)) S.2.1.2.1.1).2.2.1 with
      | true => exact Sp_neg (by rw [a9, b9, fa, fb]; decide) (go false (by unfold s_idle; dsimp only; rw [fa, fb]; rfl))
      | false => exact Sp_pos (by rw [a9, b9, fa, fb]) (go true (by unfold s_idle; dsimp only; rw [fa, fb]; rfl))
