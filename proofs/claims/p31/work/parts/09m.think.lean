/-! thoughts on both sides: why, mixed, whether a rule does nothing -/
def allm (d : Nat) : Int32 := ((1 : Int32) <<< (nI d &&& 31)) - 1
theorem XE_bt {h : gH} {R : qR} {b : Option Nat} (H : XE h (Et R)) : XE h (Ebt (Et R) b) := by
  obtain ⟨h1, h2, h3, h4, h5, h6, h7⟩ := H
  refine ⟨h1, h2, h3, h4, fun j hj => absurd hj (Nat.not_lt_zero _), fun r hr => h6 r (bt_sub (E := Et R) hr).1, fun x hx => ⟨(h7 x hx).1, fun r hr => (h7 x hx).2 r (bt_sub (E := Et R) hr).1⟩⟩
theorem rall_eq {h : gH} {S : qW} (H : AX h S) (W : WI S) : fR_all h = some (mkn 24 (Eact (Ebt (Et S.1) none)), h) := by
  unfold fR_all
  have e : h 1 8 = nI S.1.1 := H.1.1.2.2.1
  rw [e, all_mask _ (by have := W.1; omega)]
  congr 2
  exact mkn_congr (fun i hi => (Eact_Et S.1 i).symm)
/-- a thought of the class -/
theorem xthink {o : Nat} (ho : o = 28 ∨ o = 33) {h : gH} {S : qW} {b : Option Nat} (mk : Int32) (hE : XE h (Et S.1)) (hd : XDo h 22 S.2.1.2.1.1 S.2.1.2.1.2) (h8 : h (o + 1) 8 = 1) (h10 : h o 10 = 0) {β : Type} {k : gH → Option β} {Q : β → Prop}
    (K : ∀ h2, HP h2 o (Ebt (Et S.1) b) (qthink (Et S.1) b S.2.1.2.1.2 (bt mk) S.2.1.2.1.1) → (∀ c, ¬ (o ≤ c ∧ c ≤ o + 4) → h2 c = h c) → h2 o 10 = 0 → Sp (k h2) Q) :
    Sp ((fH_start o mk (mkn 24 (Eact (Ebt (Et S.1) b))) h).bind fun h1 => (fH_runAll o h1).bind fun p => k p.2) Q := by
  have hg : gHall o := by rcases ho with rfl | rfl; exact gH28; exact gH33
  have hx : XD h S.2.1.2.1.1 S.2.1.2.1.2 := hd
  refine Sp_bind (Sp_and (start_sp ho mk (XE_bt hE) hx h8) (fun x e => fH_start_fr hg e)) (fun h1 _ q => ?_)
  obtain ⟨q1, fr⟩ := q
  have fr1 : ∀ c, ¬ (o ≤ c ∧ c ≤ o + 4) → h1 c = h c := by
    rcases ho with rfl | rfl
    · exact gfr_out fr 28 32 (by decide) (by decide)
    · exact gfr_out fr 33 37 (by decide) (by decide)
  have z1 : h1 o 10 = 0 := by
    rw [← h10]
    rcases ho with rfl | rfl
    · exact gfr_fld fr 28 10 (by decide) (by decide)
    · exact gfr_fld fr 33 10 (by decide) (by decide)
  have hi := qst_inv (E := Ebt (Et S.1) b) (mk := bt mk) (fun i hi => (hd.2.2 i hi).2.2)
  refine Sp_bind (Sp_and (runAll_sp hg (XE_hall (XE_bt hE) (fun c k hc => by rw [fr1 c (by omega)])) q1 hi.1 z1) (fun x e => fH_runAll_fr hg e)) (fun p _ q => ?_)
  obtain ⟨⟨_, q2, _⟩, fr2⟩ := q
  refine K p.2 q2 (fun c hc => ?_) ?_
  · rw [← fr1 c hc]
    rcases ho with rfl | rfl
    · exact gfr_out fr2 28 32 (by decide) (by decide) c hc
    · exact gfr_out fr2 33 37 (by decide) (by decide) c hc
  · rw [← z1]
    rcases ho with rfl | rfl
    · exact gfr_fld fr2 28 10 (by decide) (by decide)
    · exact gfr_fld fr2 33 10 (by decide) (by decide)
theorem AX_think {h h1 : gH} {S : qW} (H : AX h S) (a : ∀ c, ¬ (28 ≤ c ∧ c ≤ 37) → h1 c = h c) (z1 : h1 28 10 = 0) (z2 : h1 33 10 = 0) (e1 : h1 29 8 = 1) (e2 : h1 34 8 = 1) : AX h1 S :=
  AX_fr H (fun b _ h2 _ _ _ => a b (by omega)) (by rw [a 10 (by omega)]) (a 11 (by omega)) ⟨z1, z2, e1, e2⟩
/-- whether a value goes by these decisions; of -1: whether they fail -/
def s_gone (S : qW) (mk v1 v2 : Int32) : Bool := (qthink (Et S.1) none S.2.1.2.1.2 (bt mk) S.2.1.2.1.1).2.2.1 || (match vin 8 v1 with
  | none => false
  | some u => !(qthink (Et S.1) none S.2.1.2.1.2 (bt mk) S.2.1.2.1.1).1 u (vN v2))
theorem X_isGone {h : gH} {S : qW} (H : AX h S) (W : WI S) (mk v1 v2 : Int32) (hv : ∀ u, vin 8 v1 = some u → vis 10 v2 = true) : Sp (fX_isGone mk v1 v2 h) (fun p => p.1 = b2i (s_gone S mk v1 v2) ∧ AX p.2 S) := by
  unfold fX_isGone
  refine Sp_eq (rall_eq H W) ?_
  obtain ⟨t1, t2, t3, t4⟩ := H.2.2.2.2.2.2
  refine xthink (k := fun h2 => if (h2 28 9) = (0 : Int32) then (fX_isVariable v1 h2).bind fun p7 => if p7.1 = (0 : Int32) then some ((0 : Int32), p7.2) else gg (gin v1 9) <| if (((p7.2 29 v1.toNatClampNeg) >>> (v2 &&& 31)) &&& (1 : Int32)) = (0 : Int32) then some ((1 : Int32), p7.2) else some ((0 : Int32), p7.2) else some ((1 : Int32), h2)) (Or.inl rfl) mk H.1.1 H.2.1.2.2.1 t3 t1 (fun h2 hp fr z => ?_)
  have hA : AX h2 S := AX_think H (fun c hc => fr c (by omega)) z (by rw [fr 33 (by omega)]; exact t2) hp.2.1 (by rw [fr 34 (by omega)]; exact t4)
  have h9 := hp.2.2.2.1
  unfold s_gone
  cases hf : (qthink (Et S.1) none S.2.1.2.1.2 (bt mk) S.2.1.2.1.1).2.2.1 with
  | true =>
    rw [hf] at h9
    refine Sp_neg (by rw [h9]; decide) (Sp_some ⟨?_, hA⟩)
    rw [Bool.true_or]; rfl
  | false =>
    rw [hf] at h9
    refine Sp_pos h9 (Sp_eq (fX_isVariable_eq v1 h2) ?_)
    rw [Bool.false_or]
    rcases vin_cases 8 (by decide) v1 with ⟨x, hx, e1, e⟩ | ⟨e, -⟩
    · have hv2 := hv x e
      obtain ⟨v, hv3, rfl⟩ := vis_some (by decide) hv2
      subst e1
      rw [vis_nI hx (by decide), e]
      dsimp only
      refine Sp_neg (by decide) (Sp_gg (gin_t (by omega) (by omega)) ?_)
      have h29 : h2 29 x = mkn 10 ((qthink (Et S.1) none S.2.1.2.1.2 (bt mk) S.2.1.2.1.1).1 x) := hp.1 x hx
      rw [clampn (by omega), vN_nI (by omega)]
      have hb : (h2 29 x >>> (nI v &&& 31)) &&& 1 = if (qthink (Et S.1) none S.2.1.2.1.2 (bt mk) S.2.1.2.1.1).1 x v then 1 else 0 := by rw [h29, mkn_test (by omega) hv3]
      cases hq : (qthink (Et S.1) none S.2.1.2.1.2 (bt mk) S.2.1.2.1.1).1 x v with
      | true => rw [hq] at hb; exact Sp_neg (by rw [hb]; decide) (Sp_some ⟨rfl, hA⟩)
      | false => rw [hq] at hb; exact Sp_pos (by rw [hb]; decide) (Sp_some ⟨rfl, hA⟩)
    · rw [vis_none e, e]
      exact Sp_pos rfl (Sp_some ⟨rfl, hA⟩)
/-! why -/
def bitoff (a : Int32) (k : Nat) : Int32 := a &&& (((1 : Int32) <<< (nI k &&& 31)) ^^^ (-1 : Int32))
def whyf (S : qW) (v1 v2 : Int32) : Nat → Nat → Int32 → Int32
  | _, 0, a => a
  | k, m + 1, a => whyf S v1 v2 (k + 1) m (if s_gone S (bitoff a k) v1 v2 = true then bitoff a k else a)
def s_why (S : qW) (v1 v2 : Int32) : Int32 := if ¬ v1 = -1 ∧ (vis 8 v1 && vis 10 v2) = false then -2 else if s_gone S (allm S.2.1.2.1.1) v1 v2 = true then whyf S v1 v2 0 S.2.1.2.1.1 (allm S.2.1.2.1.1) else -1
theorem why57 {S : qW} (W : WI S) {v1 v2 : Int32} (hv : ∀ u, vin 8 v1 = some u → vis 10 v2 = true) : ∀ (m k fu : Nat) (a : Int32) (h : gH), k + m = S.2.1.2.1.1 → m < fu → AX h S → Sp (fX_why_57 v1 v2 fu a (nI k) h) (fun p => p.1 = whyf S v1 v2 k m a ∧ AX p.2 S) := by
  have hd12 := W.2.2.1
  intro m
  induction m with
  | zero =>
    intro k fu a h hk hfu H
    obtain ⟨fu, rfl⟩ : ∃ f, fu = f + 1 := ⟨fu - 1, by omega⟩
    have e : h 22 5 = nI S.2.1.2.1.1 := H.2.1.2.2.1.2.1
    unfold fX_why_57
    exact Sp_neg (by rw [e]; exact nI_nlt (by omega) (by omega)) (Sp_some ⟨rfl, H⟩)
  | succ m ih =>
    intro k fu a h hk hfu H
    obtain ⟨fu, rfl⟩ : ∃ f, fu = f + 1 := ⟨fu - 1, by omega⟩
    have e : h 22 5 = nI S.2.1.2.1.1 := H.2.1.2.2.1.2.1
    unfold fX_why_57 whyf
    refine Sp_pos (by rw [e]; exact (nlt (by omega) (by omega)).mpr (by omega)) (Sp_bind (X_isGone H W (bitoff a k) v1 v2 hv) (fun p _ q => ?_))
    obtain ⟨q1, q2⟩ := q
    rw [nadd_l k 1]
    cases hg : s_gone S (bitoff a k) v1 v2 with
    | true =>
      rw [hg] at q1
      rw [if_pos (show true = true from rfl)]
      exact Sp_neg (by rw [q1]; decide) (ih (k + 1) fu _ _ (by omega) (by omega) q2)
    | false =>
      rw [hg] at q1
      rw [if_neg (show ¬ false = true by decide)]
      exact Sp_pos q1 (ih (k + 1) fu _ _ (by omega) (by omega) q2)
theorem X_why {h : gH} {S : qW} (H : AX h S) (W : WI S) (v1 v2 : Int32) : Sp (fX_why v1 v2 h) (fun p => p.1 = s_why S v1 v2 ∧ AX p.2 S) := by
  have hd12 := W.2.2.1
  have key : (∀ u, vin 8 v1 = some u → vis 10 v2 = true) → ∀ {h : gH}, AX h S → Sp (fX_why_32 v1 v2 h) (fun p => p.1 = (if s_gone S (allm S.2.1.2.1.1) v1 v2 = true then whyf S v1 v2 0 S.2.1.2.1.1 (allm S.2.1.2.1.1) else -1) ∧ AX p.2 S) := by
    intro hv h H
    have e : h 22 5 = nI S.2.1.2.1.1 := H.2.1.2.2.1.2.1
    unfold fX_why_32
    refine Sp_eq (x := (allm S.2.1.2.1.1, h)) (by unfold fP_all; rw [e]; rfl) (Sp_bind (X_isGone H W (allm S.2.1.2.1.1) v1 v2 hv) (fun p _ q => ?_))
    obtain ⟨q1, q2⟩ := q
    cases hg : s_gone S (allm S.2.1.2.1.1) v1 v2 with
    | true =>
      rw [hg] at q1
      rw [if_pos (show true = true from rfl)]
      exact Sp_neg (by rw [q1]; decide) (why57 W hv S.2.1.2.1.1 0 gfu _ _ (by omega) (by unfold gfu; omega) q2)
    | false =>
      rw [hg] at q1
      exact Sp_pos q1 (Sp_some ⟨rfl, q2⟩)
  unfold fX_why s_why
  by_cases h1 : v1 = -1
  · refine Sp_pos h1 ?_
    unfold fX_why_10
    rw [if_neg (show ¬ (¬ v1 = -1 ∧ (vis 8 v1 && vis 10 v2) = false) from fun z => z.1 h1)]
    exact Sp_neg (by decide) (key (fun u hu => by rw [h1] at hu; cases hu) H)
  · refine Sp_neg h1 ?_
    unfold fX_why_10
    refine Sp_pos rfl (Sp_eq (fX_isVariable_eq v1 h) ?_)
    dsimp only
    cases q1 : vis 8 v1 with
    | false => rw [if_pos (show ¬ v1 = -1 ∧ (false && vis 10 v2) = false from ⟨h1, rfl⟩)]; exact Sp_pos rfl (Sp_some ⟨rfl, H⟩)
    | true =>
      refine Sp_neg (by decide) (Sp_eq (fX_isValue_eq v2 h) ?_)
      dsimp only
      cases q2 : vis 10 v2 with
      | false => rw [if_pos (show ¬ v1 = -1 ∧ (true && false) = false from ⟨h1, rfl⟩)]; exact Sp_pos rfl (Sp_some ⟨rfl, H⟩)
      | true =>
        rw [if_neg (show ¬ (¬ v1 = -1 ∧ (true && true) = false) from fun z => by cases z.2)]
        exact Sp_neg (by decide) (key (fun u hu => q2) H)

