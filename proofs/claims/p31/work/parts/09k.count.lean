/-! count -/
def stl (D : Nat → Nat → Bool) (x : Nat) : Bool := decide (qcnt (D x) 10 = 1)
theorem xstl {o : Nat} {h : gH} {D : Nat → Nat → Bool} (hD : ∀ x, x < 8 → h (o + 1) x = mkn 10 (D x)) : ∀ (m k fu : Nat), k + m = 8 → m < fu → fH_howManySettled_4 o fu (nI (qcnt (stl D) k)) (nI k) h = some (nI (qcnt (stl D) 8), h) := by
  intro m
  induction m with
  | zero =>
    intro k fu hk hfu
    obtain ⟨fu, rfl⟩ : ∃ f, fu = f + 1 := ⟨fu - 1, by omega⟩
    have : k = 8 := by omega
    subst this
    unfold fH_howManySettled_4
    rw [if_neg (by decide)]
  | succ m ih =>
    intro k fu hk hfu
    obtain ⟨fu, rfl⟩ : ∃ f, fu = f + 1 := ⟨fu - 1, by omega⟩
    have i1 := ih (k + 1) fu (by omega) (by omega)
    have q10 := qcnt_le (D k) 10
    unfold fH_howManySettled_4 fH_isSettled
    rw [if_pos (nltT (show k < 8 by omega) (by decide)), gg_t (gin_t (by omega) (by omega)), clampn (by omega), hD k (by omega), bitCount_eq, bc_mkn (by omega), Option.bind_some]
    dsimp only
    rw [qcnt] at i1
    unfold fH_howManySettled_24
    by_cases e : qcnt (D k) 10 = 1
    · rw [show stl D k = true from decide_eq_true e] at i1
      rw [if_pos ((neq_l (c := 1) (by omega) (by decide)).mpr e), Option.bind_some]
      dsimp only
      rw [if_neg (by decide), nadd_l (qcnt (stl D) k) 1, nadd_l k 1]; exact i1
    · rw [show stl D k = false from decide_eq_false e] at i1
      rw [if_neg (fun z => e ((neq_l (c := 1) (by omega) (by decide)).mp z)), Option.bind_some]
      dsimp only
      rw [if_pos rfl, nadd_l (qcnt (stl D) k) 0, nadd_l k 1]; exact i1
def cnt (S : qW) : Nat → Int32
  | 0 => nI S.1.1
  | 1 => nI S.2.1.1.2.2.2.length
  | 2 => nI S.2.1.2.1.1
  | 3 => nI S.2.1.2.2.1.1
  | 4 => nI (qcnt S.2.1.1.2.1 24)
  | 5 => S.2.1.2.2.2
  | 6 => nI (qcnt (stl S.2.1.1.1) 8)
  | 7 => nI S.2.2.2.1.1
  | _ => b2i S.2.1.1.2.2.1
def s_count (S : qW) (v : Int32) : Int32 := match vin 9 v with
  | none => -2
  | some k => cnt S k
theorem bcQ {S : qW} (W : WI S) : bc (mkn 24 S.2.1.1.2.1) = nI (qcnt S.2.1.1.2.1 24) := by
  have h16 := W.1
  have e : mkn 24 S.2.1.1.2.1 = mkn 16 S.2.1.1.2.1 := mkn_ext (by omega) (fun i hi => by
    rw [bt_mkn (by omega)]
    by_cases h1 : i < 16
    · rw [decide_eq_true h1, decide_eq_true (by omega)]
    · rw [decide_eq_false h1]
      cases q : S.2.1.1.2.1 i with
      | false => simp
      | true =>
        by_cases h2 : i < 24
        · have := Q_lt W h2 q; omega
        · rw [decide_eq_false h2])
  have e2 : qcnt S.2.1.1.2.1 24 = qcnt S.2.1.1.2.1 16 := qcnt_16 (fun i h1 h2 => by
    cases q : S.2.1.1.2.1 i with
    | false => rfl
    | true => have := Q_lt W h2 q; omega)
  rw [e, bc_mkn16, e2]
theorem b2i_q (b : Bool) : (if b2i b = 0 then (0 : Int32) else 1) = b2i b := by cases b <;> rfl
theorem X_count {h : gH} {S : qW} (H : AX h S) (W : WI S) (v : Int32) : fX_count v h = some (s_count S v, h) := by
  have C := H.2.1
  unfold s_count
  rcases vin_cases 9 (by decide) v with ⟨k, hk, e1, e⟩ | ⟨e, q⟩
  · rw [e]; subst e1
    dsimp only
    unfold fX_count
    match k, hk with
    | 0, _ => rw [if_pos (by decide), H.1.1.2.2.1]; rfl
    | 1, _ => rw [if_neg (by decide), if_pos (by decide), C.1.2.2.2.2.1.1]; rfl
    | 2, _ => rw [if_neg (by decide), if_neg (by decide), if_pos (by decide), C.2.2.1.2.1]; rfl
    | 3, _ => rw [if_neg (by decide), if_neg (by decide), if_neg (by decide), if_pos (by decide), C.2.2.2.1]; rfl
    | 4, _ => rw [if_neg (by decide), if_neg (by decide), if_neg (by decide), if_neg (by decide), if_pos (by decide), C.1.2.2.1, bitCount_eq, bcQ W, Option.bind_some]; rfl
    | 5, _ => rw [if_neg (by decide), if_neg (by decide), if_neg (by decide), if_neg (by decide), if_neg (by decide), if_pos (by decide), C.2.1]; rfl
    | 6, _ =>
      rw [if_neg (by decide), if_neg (by decide), if_neg (by decide), if_neg (by decide), if_neg (by decide), if_neg (by decide), if_pos (by decide)]
      unfold fH_howManySettled
      have x0 := xstl (o := 17) C.1.1 8 0 gfu (by omega) (by unfold gfu; omega)
      rw [show qcnt (stl S.2.1.1.1) 0 = 0 from rfl, nI_0] at x0
      rw [x0, Option.bind_some]
      rfl
    | 7, _ => rw [if_neg (by decide), if_neg (by decide), if_neg (by decide), if_neg (by decide), if_neg (by decide), if_neg (by decide), if_neg (by decide), if_pos (by decide), H.2.2.2.1.1]; rfl
    | 8, _ =>
      rw [if_neg (by decide), if_neg (by decide), if_neg (by decide), if_neg (by decide), if_neg (by decide), if_neg (by decide), if_neg (by decide), if_neg (by decide), if_pos (by decide), C.1.2.2.2.1]
      show _ = some (b2i S.2.1.1.2.2.1, h)
      rw [← b2i_q S.2.1.1.2.2.1]
      split <;> rfl
  · rw [e]
    have hn : ∀ k, k < 9 → ¬ v = nI k := fun k hk z => by
      rcases q with q | q
      · rw [z] at q; exact nI_pos (by omega) q
      · rw [z] at q; exact q ((nlt (by omega) (by omega)).mpr hk)
    unfold fX_count
    rw [if_neg (show ¬ v = (0 : Int32) from hn 0 (by omega)), if_neg (show ¬ v = (1 : Int32) from hn 1 (by omega)), if_neg (show ¬ v = (2 : Int32) from hn 2 (by omega)), if_neg (show ¬ v = (3 : Int32) from hn 3 (by omega)), if_neg (show ¬ v = (4 : Int32) from hn 4 (by omega)), if_neg (show ¬ v = (5 : Int32) from hn 5 (by omega)), if_neg (show ¬ v = (6 : Int32) from hn 6 (by omega)), if_neg (show ¬ v = (7 : Int32) from hn 7 (by omega)), if_neg (show ¬ v = (8 : Int32) from hn 8 (by omega))]
