/-! reach -/
def rcv (v2 : Int32) (k : Nat) : Nat := if v2 = 0 then k else 9 - k
def rgo (S : qW) (x v : Nat) : Nat × Bool × sQ := s_go S (qnw (Et S.1) x (sbit v) 100 S.2.1.1) 0 0 100 false false
def rch (S : qW) (x : Nat) (v2 : Int32) : Nat → Nat → Int32
  | 0, _ => -1
  | m + 1, k => if (!S.2.1.1.2.2.1 && S.2.1.1.1 x (rcv v2 k)) = true then (if (rgo S x (rcv v2 k)).1 = 2 then -6 else if (rgo S x (rcv v2 k)).1 = 1 then nI (rcv v2 k) else rch S x v2 m (k + 1)) else rch S x v2 m (k + 1)
def s_reach (S : qW) (v1 v2 : Int32) : Int32 := match vin 8 v1 with
  | none => -2
  | some x => if vis 2 v2 = true then rch S x v2 10 0 else -2
theorem rgo_i {S : qW} (W : WI S) {x v : Nat} (hx : x < 8) (hf : S.2.1.1.2.2.1 = false) : PI (Et S.1) (qnw (Et S.1) x (sbit v) 100 S.2.1.1) ∧ PT (qnw (Et S.1) x (sbit v) 100 S.2.1.1) := ⟨qnw_PI hx (KI_PI W.2.1) hf, qnw_PT hx W.2.1.2.1⟩
theorem rch21 {S : qW} (W : WI S) {x : Nat} (hx : x < 8) {w : Nat} (hw : w < 2) : ∀ (m k fu : Nat) (h : gH), k + m = 10 → m < fu → AX h S → Sp (fX_reach_21 (nI x) (nI w) fu (nI k) h) (fun p => p.1 = rch S x (nI w) m k ∧ AX p.2 S) := by
  intro m
  induction m with
  | zero =>
    intro k fu h hk hfu H
    obtain ⟨fu, rfl⟩ : ∃ f, fu = f + 1 := ⟨fu - 1, by omega⟩
    have : k = 10 := by omega
    subst this
    unfold fX_reach_21 rch
    exact Sp_neg (by decide) (Sp_some ⟨rfl, H⟩)
  | succ m ih =>
    intro k fu h hk hfu H
    obtain ⟨fu, rfl⟩ : ∃ f, fu = f + 1 := ⟨fu - 1, by omega⟩
    have h9 : h 17 9 = b2i S.2.1.1.2.2.1 := H.2.1.1.2.2.2.1
    have st : ∀ v, v = rcv (nI w) k → v < 10 → Sp (fX_reach_39 (fX_reach_21 (nI x) (nI w) fu) (nI x) (nI w) (nI k) (nI v) h) (fun p => p.1 = rch S x (nI w) (m + 1) k ∧ AX p.2 S) := by
      intro v ev hv
      unfold fX_reach_39 rch
      rw [← ev, nadd_l k 1]
      cases hf : S.2.1.1.2.2.1 with
      | true =>
        rw [if_neg (show ¬ (!true && S.2.1.1.1 x v) = true by rw [Bool.not_true, Bool.false_and]; decide)]
        exact Sp_neg (by rw [h9, hf]; decide) (ih (k + 1) fu h (by omega) (by omega) H)
      | false =>
        refine Sp_pos (by rw [h9, hf]; rfl) (Sp_gg (gin_t (by omega) (by omega)) ?_)
        rw [clampn (show x < 2 ^ 31 by omega), H.2.1.1.1 x hx, mkn_test (by decide) hv]
        cases hd : S.2.1.1.1 x v with
        | false =>
          rw [if_neg (show ¬ (!false && false) = true by decide)]
          exact Sp_pos rfl (ih (k + 1) fu h (by omega) (by omega) H)
        | true =>
          rw [if_pos (show (!false && true) = true from rfl)]
          refine Sp_neg (by decide) (Sp_bind (X_become H) (fun h4 _ q => ?_))
          obtain ⟨q1, q2, -⟩ := q
          obtain ⟨i1, i2⟩ := rgo_i (v := v) W hx hf
          refine Sp_bind (Sp_and (narrow_HP gH28 hx (sbit v) 100 q2.1.1 q1) (fun _ e => fH_narrow_fr gH28 e)) (fun p6 _ r => ?_)
          obtain ⟨⟨-, r⟩, fr⟩ := r
          have wA : AX p6.2 S := AX_fr q2 (fun b b1 b2 b3 b4 b5 => funext fun k => fr b k (by simp; omega) (by simp; omega)) (fr 10 6 (by simp) (by simp)) (funext fun k => fr 11 k (by simp) (by simp)) ⟨by rw [fr 28 10 (by simp) (by simp)]; exact q2.2.2.2.2.2.2.1, by rw [fr 33 10 (by simp) (by simp)]; exact q2.2.2.2.2.2.2.2.1, r.2.1, by rw [fr 34 8 (by simp) (by simp)]; exact q2.2.2.2.2.2.2.2.2.2⟩
          have fd := go_fnd S i1 i2 0 0 100 false
          refine Sp_bind (X_goes (ch := 0) (pk := 0) (mo := 100) (ln := false) (al := false) (by decide) (by decide) (by decide) wA r i1 i2) (fun h8 _ g => ?_)
          show Sp _ (fun p : Int32 × gH => p.1 = (if (s_go S (qnw (Et S.1) x (sbit v) 100 S.2.1.1) 0 0 100 false false).1 = 2 then -6 else if (s_go S (qnw (Et S.1) x (sbit v) 100 S.2.1.1) 0 0 100 false false).1 = 1 then nI v else rch S x (nI w) m (k + 1)) ∧ AX p.2 S)
          generalize s_go S (qnw (Et S.1) x (sbit v) 100 S.2.1.1) 0 0 100 false false = r at g fd
          obtain ⟨g1, -, -, -, -, g2, g3, g4, g5, g6, g7⟩ := g
          rcases fd.2.2 with r0 | r1 | r2
          · rw [r0, if_neg (show ¬ 0 = 2 by decide), if_neg (show ¬ 0 = 1 by decide)]
            exact Sp_pos (by rw [g6, r0]; rfl) (Sp_neg (by rw [g5, fd.1.2 (by rw [r0]; decide)]; decide) (ih (k + 1) fu h8 (by omega) (by omega) g1))
          · rw [r1, if_neg (show ¬ 1 = 2 by decide), if_pos (show 1 = 1 from rfl)]
            exact Sp_pos (by rw [g6, r1]; rfl) (Sp_pos (by rw [g5, fd.1.1 r1]; decide) (Sp_some ⟨rfl, g1⟩))
          · rw [r2, if_pos (show 2 = 2 from rfl)]
            exact Sp_neg (by rw [g6, r2]; decide) (Sp_some ⟨rfl, g1⟩)
    unfold fX_reach_21
    refine Sp_pos (nltT (show k < 10 by omega) (by decide)) ?_
    have w2 : w = 0 ∨ w = 1 := by omega
    rcases w2 with e | e <;> subst e
    · exact Sp_pos rfl (st k rfl (by omega))
    · refine Sp_neg (by decide) ?_
      rw [show (9 : Int32) - nI k = nI (9 - k) from nsub (a := 9) (b := k) (by omega)]
      exact st (9 - k) rfl (by omega)
theorem X_reach {h : gH} {S : qW} (H : AX h S) (W : WI S) (v1 v2 : Int32) : Sp (fX_reach v1 v2 h) (fun p => p.1 = s_reach S v1 v2 ∧ AX p.2 S) := by
  unfold fX_reach s_reach
  refine Sp_eq (fX_isVariable_eq v1 h) ?_
  dsimp only
  rcases vin_cases 8 (by decide) v1 with ⟨x, hx, e1, e⟩ | ⟨e, -⟩
  · subst e1
    rw [e, vis_nI hx (by decide)]
    refine Sp_neg (by decide) ?_
    have l1 : (1 : Int32).toInt = 1 := by decide
    cases c : vis 2 v2 with
    | false =>
      dsimp only
      rw [if_neg (show ¬ false = true by decide)]
      rw [vis_iff] at c
      have c := of_decide_eq_false c
      by_cases a : v2 < 0
      · exact Sp_pos a (Sp_some ⟨rfl, H⟩)
      · refine Sp_neg a (Sp_pos ?_ (Sp_some ⟨rfl, H⟩))
        rw [Int32.lt_iff_toInt_lt, Int32.toInt_zero] at a
        rw [Int32.lt_iff_toInt_lt, l1]; omega
    | true =>
      obtain ⟨w, hw, e2⟩ := vis_some (by decide) c
      subst e2
      dsimp only
      rw [if_pos (show true = true from rfl)]
      refine Sp_neg (nI_pos (by omega)) (Sp_neg (fun z => ?_) ?_)
      · rw [Int32.lt_iff_toInt_lt, l1, nI_toInt (by omega)] at z; omega
      · have x0 := rch21 W hx hw 10 0 gfu h rfl (by unfold gfu; omega) H
        rw [nI_0] at x0
        exact x0
  · rw [e, vis_none e]
    exact Sp_pos rfl (Sp_some ⟨rfl, H⟩)

