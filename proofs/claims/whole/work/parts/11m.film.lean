/-! film -/
def flm (sol : Nat → Nat) : Nat → Int32 := fun k => if k < 8 then nI (sol k) else 0
def s_film (S : qW) (v1 v2 v3 : Int32) : Int32 × qW := match vin 4 v1 with
  | none => (-2, S)
  | some i => if (vis 4 v2 && vis 3 v3) = false then (-2, S) else if (s_go S S.2.1.1 (vN v2) (vN v3) 100 false false).1 = 2 then (-6, S) else if (s_go S S.2.1.1 (vN v2) (vN v3) 100 false false).1 = 1 then (8, setS S (upds S.2.2.2.2 i (0, 8, flm (s_go S S.2.1.1 (vN v2) (vN v3) 100 false false).2.2.2.2.2))) else (-1, S)
theorem W_film {S : qW} (H : WI S) (v1 v2 v3 : Int32) : WI (s_film S v1 v2 v3).2 := by
  unfold s_film
  split
  · exact H
  · split
    · exact H
    · split
      · exact H
      · split
        · exact W_upd H ⟨by show 8 ≤ 40; omega, Or.inr (Or.inl rfl)⟩
        · exact H
theorem film86X {o : Nat} {sol : Nat → Nat} (ho : o + 1 ≠ 43) {h0 : gH} (h43 : ∀ x, x < 8 → h0 43 x = nI (sol x)) (hz : ∀ j, j < 40 → h0 (o + 1) j = 0) : ∀ (m k fu : Nat) (h : gH), k + m = 8 → m < fu → (∀ b, b ≠ o + 1 → h b = h0 b) → (∀ j, j < 40 → h (o + 1) j = if j < k then nI (sol j) else 0) → Sp (fX_film_86 o fu (nI k) h) (fun p => p.1 = 8 ∧ (∀ b, b ≠ o + 1 → p.2 b = h0 b) ∧ ∀ j, j < 40 → p.2 (o + 1) j = flm sol j) := by
  intro m
  induction m with
  | zero =>
    intro k fu h hk hfu a b
    obtain ⟨fu, rfl⟩ : ∃ f, fu = f + 1 := ⟨fu - 1, by omega⟩
    have : k = 8 := by omega
    subst this
    unfold fX_film_86
    exact Sp_neg (by decide) (Sp_some ⟨rfl, a, b⟩)
  | succ m ih =>
    intro k fu h hk hfu a b
    obtain ⟨fu, rfl⟩ : ∃ f, fu = f + 1 := ⟨fu - 1, by omega⟩
    unfold fX_film_86
    refine Sp_pos (nltT (show k < 8 by omega) (by decide)) (Sp_gg (gin_t (by omega) (by omega)) (Sp_gg (gin_t (by omega) (by omega)) (Sp_let ?_)))
    rw [nadd_l k 1, clampn (by omega), a 43 (fun z => ho z.symm), h43 k (by omega)]
    refine ih (k + 1) fu _ (by omega) (by omega) (fun c hc => by rw [hu_ne hc]; exact a c hc) (fun j hj => ?_)
    by_cases e : j = k
    · rw [e, hu_same, if_pos (Nat.lt_succ_self k)]
    · rw [hu_k _ _ _ _ e, b j hj]
      by_cases e2 : j < k
      · rw [if_pos e2, if_pos (show j < k + 1 by omega)]
      · rw [if_neg e2, if_neg (show ¬ j < k + 1 by omega)]
theorem X_film {h : gH} {S : qW} (H : AX h S) (W : WI S) (v1 v2 v3 : Int32) : Sp (fX_film v1 v2 v3 h) (fun p => p.1 = (s_film S v1 v2 v3).1 ∧ AX p.2 (s_film S v1 v2 v3).2) := by
  unfold fX_film s_film
  refine Sp_eq (fX_isSheet_eq v1 h) ?_
  dsimp only
  rcases vin_cases 4 (by decide) v1 with ⟨i, hi, e1, e⟩ | ⟨e, -⟩
  · subst e1
    rw [e, vis_nI hi (by decide)]
    refine Sp_neg (by decide) (Sp_eq (isChoice_eq v2 v3 h) ?_)
    dsimp only
    cases c : (vis 4 v2 && vis 3 v3) with
    | false => rw [if_pos rfl]; exact Sp_pos rfl (Sp_some ⟨rfl, H⟩)
    | true =>
      rw [if_neg (show ¬ true = false by decide)]
      refine Sp_neg (by decide) ?_
      rw [Bool.and_eq_true] at c
      obtain ⟨ch, hch, e2⟩ := vis_some (by decide) c.1
      obtain ⟨pk, hpk, e3⟩ := vis_some (by decide) c.2
      subst e2
      subst e3
      rw [vN_nI (by omega), vN_nI (by omega)]
      refine Sp_bind (X_become H) (fun h3 _ q => ?_)
      obtain ⟨q1, q2, -⟩ := q
      have fd := go_fnd S (KI_PI W.2.1) W.2.1.2.1 ch pk 100 false
      refine Sp_bind (X_goes (mo := 100) (ln := false) (al := false) hch hpk (by decide) q2 q1 (KI_PI W.2.1) W.2.1.2.1) (fun h5 _ g => ?_)
      generalize s_go S S.2.1.1 ch pk 100 false false = r at g fd
      obtain ⟨g1, -, -, -, -, g2, g3, g4, g5, g6, g7⟩ := g
      by_cases r2 : r.1 = 2
      · rw [if_pos r2]
        exact Sp_neg (by rw [g6, decide_eq_true r2]; decide) (Sp_some ⟨rfl, g1⟩)
      · rw [if_neg r2]
        refine Sp_pos (by rw [g6, decide_eq_false r2]; rfl) ?_
        by_cases r1 : r.1 = 1
        · rw [if_pos r1]
          have fo := fd.1.1 r1
          refine Sp_neg (by rw [g5, fo]; decide) (Sp_gg (gin_t hi (by omega)) ?_)
          rw [gsh_nI hi]
          refine Sp_bind (become_sp 0 8 h5) (fun h11 _ k => ?_)
          obtain ⟨k1, k2, k3, k4⟩ := k
          have x0 := film86X (o := 56 + 2 * i) (sol := r.2.2.2.2.2) (by omega) (h0 := h11) (fun x hx => by rw [k4 43 (by omega) (by omega)]; exact g7 (by rw [fo]; decide) x hx) k1 8 0 gfu h11 rfl (by unfold gfu; omega) (fun _ _ => rfl) (fun j hj => by rw [k1 j hj, if_neg (Nat.not_lt_zero _)])
          rw [nI_0] at x0
          refine Sp_mono x0 (fun p y => ?_)
          obtain ⟨y1, y2, y3⟩ := y
          refine ⟨y1, AX_sh g1 (fun b hb => by rw [y2 b (by omega), k4 b (by omega) (by omega)]) (XSh_upd g1.2.2.2.2.1 hi (fun b b1 b2 => by rw [y2 b (by omega), k4 b b1 (by omega)]) ⟨?_, ?_, fun j hj => ?_⟩)⟩
          · rw [y2 _ (by omega)]; exact k3
          · rw [y2 _ (by omega), k2]; rfl
          · have hj : j < 8 := hj
            have := y3 j (by omega)
            rw [show 56 + 2 * i + 1 = 57 + 2 * i by omega] at this
            exact this
        · rw [if_neg r1]
          exact Sp_pos (by rw [g5, fd.1.2 r1]; rfl) (Sp_some ⟨rfl, g1⟩)
  · rw [e, vis_none e]
    exact Sp_pos rfl (Sp_some ⟨rfl, H⟩)
theorem film86M {i : Nat} (hi : i < 4) {sol : Nat → Nat} {h0 : gH} (h87 : ∀ x, x < 8 → h0 87 x = nI (sol x)) : ∀ (m k fu : Nat) (h : gH), k + m = 8 → m < fu → (∀ b, b ≠ 106 → h b = h0 b) → (∀ j, j < k → h 106 (40 * i + j) = nI (sol j)) → (∀ q, q < 40 * i ∨ 40 * i + 8 ≤ q → h 106 q = h0 106 q) → Sp (fM_film_86 (nI i) fu (nI k) h) (fun p => p.1 = 8 ∧ (∀ b, b ≠ 106 → p.2 b = h0 b) ∧ (∀ j, j < 8 → p.2 106 (40 * i + j) = nI (sol j)) ∧ ∀ q, q < 40 * i ∨ 40 * i + 8 ≤ q → p.2 106 q = h0 106 q) := by
  intro m
  induction m with
  | zero =>
    intro k fu h hk hfu a b c
    obtain ⟨fu, rfl⟩ : ∃ f, fu = f + 1 := ⟨fu - 1, by omega⟩
    have : k = 8 := by omega
    subst this
    unfold fM_film_86
    exact Sp_neg (by decide) (Sp_some ⟨rfl, a, b, c⟩)
  | succ m ih =>
    intro k fu h hk hfu a b c
    obtain ⟨fu, rfl⟩ : ∃ f, fu = f + 1 := ⟨fu - 1, by omega⟩
    unfold fM_film_86
    refine Sp_pos (nltT (show k < 8 by omega) (by decide)) (Sp_gg (gin_t (by omega) (by omega)) ?_)
    rw [show (40 : Int32) * nI i = nI (40 * i) from nmul 40 i, nI_add]
    refine Sp_gg (gin_t (by omega) (by omega)) (Sp_let ?_)
    rw [nadd_l k 1, clampn (by omega), clampn (show k < 2 ^ 31 by omega), a 87 (by decide), h87 k (by omega)]
    refine ih (k + 1) fu _ (by omega) (by omega) (fun o ho => by rw [hu_ne ho]; exact a o ho) (fun j hj => ?_) (fun q hq => by rw [hu_k _ _ _ _ (by omega)]; exact c q hq)
    by_cases e : j = k
    · rw [e, hu_same]
    · rw [hu_k _ _ _ _ (by omega)]; exact b j (by omega)
theorem M_film {h : gH} {S : qW} (H : BM h S) (W : WI S) (v1 v2 v3 : Int32) : Sp (fM_film v1 v2 v3 h) (fun p => p.1 = (s_film S v1 v2 v3).1 ∧ BM p.2 (s_film S v1 v2 v3).2) := by
  have zb : ∀ x, fM_film v1 v2 v3 h = some x → ZB x.2 := fun x e => fM_film_zb H.2.2.2.2 e
  suffices Sp (fM_film v1 v2 v3 h) (fun p => p.1 = (s_film S v1 v2 v3).1 ∧ (ZB p.2 → BM p.2 (s_film S v1 v2 v3).2)) from Sp_to this (fun x e q => ⟨q.1, q.2 (zb x e)⟩)
  unfold fM_film s_film
  refine Sp_eq (mSheet_eq v1 h) ?_
  dsimp only
  rcases vin_cases 4 (by decide) v1 with ⟨i, hi, e1, e⟩ | ⟨e, -⟩
  · subst e1
    rw [e, vis_nI hi (by decide)]
    refine Sp_neg (by decide) (Sp_eq (fM_in_eq (n := 4) (by decide) v2 h) ?_)
    dsimp only
    cases c1 : vis 4 v2 with
    | false => rw [if_pos (show (false && vis 3 v3) = false from rfl)]; exact Sp_pos rfl (Sp_some ⟨rfl, fun _ => H⟩)
    | true =>
      refine Sp_neg (by decide) (Sp_eq (fM_in_eq (n := 3) (by decide) v3 h) ?_)
      dsimp only
      cases c2 : vis 3 v3 with
      | false => rw [if_pos (show (true && false) = false from rfl)]; exact Sp_pos rfl (Sp_some ⟨rfl, fun _ => H⟩)
      | true =>
        rw [if_neg (show ¬ (true && true) = false by decide)]
        refine Sp_neg (by decide) ?_
        obtain ⟨ch, hch, e2⟩ := vis_some (by decide) c1
        obtain ⟨pk, hpk, e3⟩ := vis_some (by decide) c2
        subst e2
        subst e3
        rw [vN_nI (by omega), vN_nI (by omega)]
        have fd := go_fnd S (KI_PI W.2.1) W.2.1.2.1 ch pk 100 false
        refine M_whole (ch := ch) (pk := pk) (ln := false) (al := false) (mo := 100) H W hch hpk (by decide) (K := fun p9 h11 => if p9 = (1 : Int32) then (fM_sheet (nI i) (0 : Int32) (8 : Int32) h11).bind fun p13 => fM_film_86 (nI i) gfu (0 : Int32) p13.2 else if p9 = (-6 : Int32) then some ((-6 : Int32), h11) else some ((-1 : Int32), h11)) (fun h2 H2 o => ?_)
        generalize s_go S S.2.1.1 ch pk 100 false false = r at o fd
        obtain ⟨o1, o2, o3, o4, o5⟩ := o
        rcases fd.2.2 with r0 | r1 | r2
        · rw [r0, if_neg (show ¬ 0 = 2 by decide), if_neg (show ¬ 0 = 1 by decide)]
          exact Sp_neg (by decide) (Sp_neg (by decide) (Sp_some ⟨rfl, fun _ => H2⟩))
        · rw [r1, if_neg (show ¬ 1 = 2 by decide), if_pos (show 1 = 1 from rfl)]
          refine Sp_pos rfl (Sp_bind (Sp_and (M_sheet H2 W (nI i) 0 8) (fun _ e => fM_sheet_fr e)) (fun p13 _ q => ?_))
          obtain ⟨⟨-, q⟩, fr⟩ := q
          have es : s_sheet S (nI i) 0 8 = (1, setS S (upds S.2.2.2.2 i (0, vN 8, fun _ => 0))) := s_sheet6 e (by decide) (by decide) (by decide) (by decide)
          have e8 : vN 8 = 8 := by decide
          rw [es, e8] at q
          have q : BM p13.2 (setS S (upds S.2.2.2.2 i (0, 8, fun _ => 0))) := q
          have x0 := film86M hi (sol := r.2.2.2.2.2) (h0 := p13.2) (fun x hx => by rw [gfr_row fr 87 rfl rfl]; exact o5 (by rw [fd.1.1 r1]; decide) x hx) 8 0 gfu p13.2 rfl (by unfold gfu; omega) (fun _ _ => rfl) (fun j hj => absurd hj (Nat.not_lt_zero _)) (fun _ _ => rfl)
          rw [nI_0] at x0
          refine Sp_mono x0 (fun p y => ?_)
          obtain ⟨y1, y2, y3, y4⟩ := y
          refine ⟨y1, fun zz => ?_⟩
          have B2 : BM p.2 (setS (setS S (upds S.2.2.2.2 i (0, 8, fun _ => 0))) (upds (upds S.2.2.2.2 i (0, 8, fun _ => 0)) i (0, 8, flm r.2.2.2.2.2))) := by
            obtain ⟨z1, z2⟩ := q.2.2.2.1 i hi
            have ei : upds S.2.2.2.2 i (0, 8, fun _ => 0) i = (0, 8, fun _ => 0) := if_pos rfl
            have z1 : p13.2 103 i = b2i (!decide ((upds S.2.2.2.2 i (0, 8, fun _ => 0) i).1 = -1)) := z1
            have z2 : ¬ (upds S.2.2.2.2 i (0, 8, fun _ => 0) i).1 = -1 → p13.2 104 i = (upds S.2.2.2.2 i (0, 8, fun _ => 0) i).1 ∧ p13.2 105 i = nI (upds S.2.2.2.2 i (0, 8, fun _ => 0) i).2.1 ∧ _ := z2
            rw [ei] at z1 z2
            obtain ⟨w1, w2, -⟩ := z2 (by decide)
            refine BM_sh q (fun b hb => y2 b (by omega)) (MSh_upd q.2.2.2.1 hi (fun j hj => by rw [y2 103 (by decide)]) (fun j hj => by rw [y2 104 (by decide)]) (fun j hj => by rw [y2 105 (by decide)]) (fun k hk => y4 k (by omega)) (fun j hj => ?_) ⟨by rw [y2 103 (by decide)]; exact z1, fun _ => ⟨by rw [y2 104 (by decide)]; exact w1, by rw [y2 105 (by decide)]; exact w2, fun j hj => ?_⟩⟩) zz
            · have := (W_upd W (i := i) (x := (0, 8, fun _ => 0)) ⟨by show 8 ≤ 40; omega, Or.inr (Or.inl rfl)⟩).2.2.2.2.2.2 j hj
              exact this.1
            · have hj : j < 8 := hj
              rw [y3 j hj]
              show _ = flm r.2.2.2.2.2 j
              unfold flm
              rw [if_pos hj]
          have eu : upds (upds S.2.2.2.2 i (0, 8, fun _ => 0)) i (0, 8, flm r.2.2.2.2.2) = upds S.2.2.2.2 i (0, 8, flm r.2.2.2.2.2) := funext fun j => by
            unfold upds
            by_cases ej : j = i
            · rw [if_pos ej, if_pos ej]
            · rw [if_neg ej, if_neg ej, if_neg ej]
          rw [eu] at B2
          exact B2
        · rw [r2, if_pos (show 2 = 2 from rfl)]
          exact Sp_neg (by decide) (Sp_pos rfl (Sp_some ⟨rfl, fun _ => H2⟩))
  · rw [e, vis_none e]
    exact Sp_pos rfl (Sp_some ⟨rfl, fun _ => H⟩)
/-! reach -/
def rcv (v2 : Int32) (k : Nat) : Nat := if v2 = 0 then k else 9 - k
def rgo (S : qW) (x v : Nat) : Nat × Bool × sQ := s_go S (qnw (Et S.1) x (sbit v) 100 S.2.1.1) 0 0 100 false false
def rch (S : qW) (x : Nat) (v2 : Int32) : Nat → Nat → Int32
  | 0, _ => -1
  | m + 1, k => if (!S.2.1.1.2.2.1 && S.2.1.1.1 x (rcv v2 k)) = true then (if (rgo S x (rcv v2 k)).1 = 2 then -6 else if (rgo S x (rcv v2 k)).1 = 1 then nI (rcv v2 k) else rch S x v2 m (k + 1)) else rch S x v2 m (k + 1)
def s_reach (S : qW) (v1 v2 : Int32) : Int32 := match vin 8 v1 with
  | none => -2
  | some x => if vis 2 v2 = true then rch S x v2 10 0 else -2
theorem rgo_i {S : qW} (W : WI S) {x v : Nat} (hx : x < 8) (hf : S.2.1.1.2.2.1 = false) : PI (Et S.1) (qnw (Et S.1) x (sbit v) 100 S.2.1.1) ∧ PT (qnw (Et S.1) x (sbit v) 100 S.2.1.1) := ⟨qnw_PI hx (KI_PI W.2.1) hf, qnw_PT hx W.2.1.2.1⟩
theorem rch21 {S : qW} (W : WI S) {x : Nat} (hx : x < 8) {w : Nat} (hw : w < 2) : ∀ (m k fu : Nat) (h : gH), k + m = 10 → m < fu → AX h S → Sp (fX_reach_21 (nI x) (nI w) fu (nI k) h) (fun p => p.1 = rch S x (nI w) m k ∧ AX p.2 S) := by
  intro m
  induction m with
  | zero =>
    intro k fu h hk hfu H
    obtain ⟨fu, rfl⟩ : ∃ f, fu = f + 1 := ⟨fu - 1, by omega⟩
    have : k = 10 := by omega
    subst this
    unfold fX_reach_21 rch
    exact Sp_neg (by decide) (Sp_some ⟨rfl, H⟩)
  | succ m ih =>
    intro k fu h hk hfu H
    obtain ⟨fu, rfl⟩ : ∃ f, fu = f + 1 := ⟨fu - 1, by omega⟩
    have h9 : h 17 9 = b2i S.2.1.1.2.2.1 := H.2.1.1.2.2.2.1
    have st : ∀ v, v = rcv (nI w) k → v < 10 → Sp (fX_reach_39 (fX_reach_21 (nI x) (nI w) fu) (nI x) (nI w) (nI k) (nI v) h) (fun p => p.1 = rch S x (nI w) (m + 1) k ∧ AX p.2 S) := by
      intro v ev hv
      unfold fX_reach_39 rch
      rw [← ev, nadd_l k 1]
      cases hf : S.2.1.1.2.2.1 with
      | true =>
        rw [if_neg (show ¬ (!true && S.2.1.1.1 x v) = true by rw [Bool.not_true, Bool.false_and]; decide)]
        exact Sp_neg (by rw [h9, hf]; decide) (ih (k + 1) fu h (by omega) (by omega) H)
      | false =>
        refine Sp_pos (by rw [h9, hf]; rfl) (Sp_gg (gin_t (by omega) (by omega)) ?_)
        rw [clampn (show x < 2 ^ 31 by omega), H.2.1.1.1 x hx, mkn_test (by decide) hv]
        cases hd : S.2.1.1.1 x v with
        | false =>
          rw [if_neg (show ¬ (!false && false) = true by decide)]
          exact Sp_pos rfl (ih (k + 1) fu h (by omega) (by omega) H)
        | true =>
          rw [if_pos (show (!false && true) = true from rfl)]
          refine Sp_neg (by decide) (Sp_bind (X_become H) (fun h4 _ q => ?_))
          obtain ⟨q1, q2, -⟩ := q
          obtain ⟨i1, i2⟩ := rgo_i (v := v) W hx hf
          refine Sp_bind (Sp_and (narrow_HP gH28 hx (sbit v) 100 q2.1.1 q1) (fun _ e => fH_narrow_fr gH28 e)) (fun p6 _ r => ?_)
          obtain ⟨⟨-, r⟩, fr⟩ := r
          have wA : AX p6.2 S := AX_fr q2 (fun b b1 b2 b3 b4 b5 => funext fun k => fr b k (by simp; omega) (by simp; omega)) (fr 10 6 (by simp) (by simp)) (funext fun k => fr 11 k (by simp) (by simp)) ⟨by rw [fr 28 10 (by simp) (by simp)]; exact q2.2.2.2.2.2.2.1, by rw [fr 33 10 (by simp) (by simp)]; exact q2.2.2.2.2.2.2.2.1, r.2.1, by rw [fr 34 8 (by simp) (by simp)]; exact q2.2.2.2.2.2.2.2.2.2⟩
          have fd := go_fnd S i1 i2 0 0 100 false
          refine Sp_bind (X_goes (ch := 0) (pk := 0) (mo := 100) (ln := false) (al := false) (by decide) (by decide) (by decide) wA r i1 i2) (fun h8 _ g => ?_)
          show Sp _ (fun p : Int32 × gH => p.1 = (if (s_go S (qnw (Et S.1) x (sbit v) 100 S.2.1.1) 0 0 100 false false).1 = 2 then -6 else if (s_go S (qnw (Et S.1) x (sbit v) 100 S.2.1.1) 0 0 100 false false).1 = 1 then nI v else rch S x (nI w) m (k + 1)) ∧ AX p.2 S)
          generalize s_go S (qnw (Et S.1) x (sbit v) 100 S.2.1.1) 0 0 100 false false = r at g fd
          obtain ⟨g1, -, -, -, -, g2, g3, g4, g5, g6, g7⟩ := g
          rcases fd.2.2 with r0 | r1 | r2
          · rw [r0, if_neg (show ¬ 0 = 2 by decide), if_neg (show ¬ 0 = 1 by decide)]
            exact Sp_pos (by rw [g6, r0]; rfl) (Sp_neg (by rw [g5, fd.1.2 (by rw [r0]; decide)]; decide) (ih (k + 1) fu h8 (by omega) (by omega) g1))
          · rw [r1, if_neg (show ¬ 1 = 2 by decide), if_pos (show 1 = 1 from rfl)]
            exact Sp_pos (by rw [g6, r1]; rfl) (Sp_pos (by rw [g5, fd.1.1 r1]; decide) (Sp_some ⟨rfl, g1⟩))
          · rw [r2, if_pos (show 2 = 2 from rfl)]
            exact Sp_neg (by rw [g6, r2]; decide) (Sp_some ⟨rfl, g1⟩)
    unfold fX_reach_21
    refine Sp_pos (nltT (show k < 10 by omega) (by decide)) ?_
    have w2 : w = 0 ∨ w = 1 := by omega
    rcases w2 with e | e <;> subst e
    · exact Sp_pos rfl (st k rfl (by omega))
    · refine Sp_neg (by decide) ?_
      rw [show (9 : Int32) - nI k = nI (9 - k) from nsub (a := 9) (b := k) (by omega)]
      exact st (9 - k) rfl (by omega)
theorem X_reach {h : gH} {S : qW} (H : AX h S) (W : WI S) (v1 v2 : Int32) : Sp (fX_reach v1 v2 h) (fun p => p.1 = s_reach S v1 v2 ∧ AX p.2 S) := by
  unfold fX_reach s_reach
  refine Sp_eq (fX_isVariable_eq v1 h) ?_
  dsimp only
  rcases vin_cases 8 (by decide) v1 with ⟨x, hx, e1, e⟩ | ⟨e, -⟩
  · subst e1
    rw [e, vis_nI hx (by decide)]
    refine Sp_neg (by decide) ?_
    have l1 : (1 : Int32).toInt = 1 := by decide
    cases c : vis 2 v2 with
    | false =>
      dsimp only
      rw [if_neg (show ¬ false = true by decide)]
      rw [vis_iff] at c
      have c := of_decide_eq_false c
      by_cases a : v2 < 0
      · exact Sp_pos a (Sp_some ⟨rfl, H⟩)
      · refine Sp_neg a (Sp_pos ?_ (Sp_some ⟨rfl, H⟩))
        rw [Int32.lt_iff_toInt_lt, Int32.toInt_zero] at a
        rw [Int32.lt_iff_toInt_lt, l1]; omega
    | true =>
      obtain ⟨w, hw, e2⟩ := vis_some (by decide) c
      subst e2
      dsimp only
      rw [if_pos (show true = true from rfl)]
      refine Sp_neg (nI_pos (by omega)) (Sp_neg (fun z => ?_) ?_)
      · rw [Int32.lt_iff_toInt_lt, l1, nI_toInt (by omega)] at z; omega
      · have x0 := rch21 W hx hw 10 0 gfu h rfl (by unfold gfu; omega) H
        rw [nI_0] at x0
        exact x0
  · rw [e, vis_none e]
    exact Sp_pos rfl (Sp_some ⟨rfl, H⟩)
