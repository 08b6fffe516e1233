/-! holds -/
theorem XR_of {h : gH} {S : qW} (H : AX h S) {r : Nat} (hr : r < S.1.1) : XRr h r (S.1.2.1 r) (S.1.2.2.1 r) := H.1.1.2.2.2.1 r hr
theorem isWay_eq {h : gH} {r a b c : Nat} {vs : Nat → Bool} {T : Nat → Nat → Nat → Bool} (hr : r < 16) (ha : a < 10) (hb : b < 10) (hc : c < 10) (H : XRr h r vs T) : fR_isWay (nI r) (nI a) (nI b) (nI c) h = some (b2i (Wof (vls vs).length T a b c), h) := by
  unfold fR_isWay
  have e : nI r * 100 + nI a * 10 + nI b = nI (100 * r + 10 * a + b) := by
    rw [nmul_l, nmul_l, nI_add, nI_add]
    exact congrArg nI (by omega)
  rw [e, gg_t (gin_t (by omega) (by omega)), clampn (by omega), H.2.2.2 a ha b hb, mkn_test (by omega) hc]
  cases Wof (vls vs).length T a b c <;> rfl
def vN (v : Int32) : Nat := v.toInt.toNat
theorem vN_nI {k : Nat} (h : k < 2 ^ 31) : vN (nI k) = k := by unfold vN; rw [nI_toInt h]; rfl
def s_holds (S : qW) (v1 v2 v3 v4 : Int32) : Int32 := match vin S.1.1 v1 with
  | none => -2
  | some r => if 0 < (vls (S.1.2.1 r)).length ∧ vis 10 v2 = false then -2 else if 1 < (vls (S.1.2.1 r)).length ∧ vis 10 v3 = false then -2 else if 2 < (vls (S.1.2.1 r)).length ∧ vis 10 v4 = false then -2 else
    b2i (S.1.2.2.1 r (if 0 < (vls (S.1.2.1 r)).length then vN v2 else 0) (if 1 < (vls (S.1.2.1 r)).length then vN v3 else 0) (if 2 < (vls (S.1.2.1 r)).length then vN v4 else 0))
theorem b2i_if (b : Bool) (h : gH) : (if b2i b = 0 then some ((0 : Int32), h) else some ((1 : Int32), h)) = some (b2i b, h) := by cases b <;> rfl
theorem X_holds {h : gH} {S : qW} (H : AX h S) (W : WI S) (v1 v2 v3 v4 : Int32) : fX_holds v1 v2 v3 v4 h = some (s_holds S v1 v2 v3 v4, h) := by
  have h16 := W.1
  unfold fX_holds s_holds
  rw [fX_isRule_eq (show S.1.1 < 2 ^ 31 by omega) v1 H.1.1.2.2.1, Option.bind_some]
  dsimp only
  rcases vin_cases S.1.1 (by omega) v1 with ⟨r, hr, e1, e⟩ | ⟨e, -⟩
  · subst e1
    have R := XR_of H hr
    rw [e, vis_nI hr (by omega), if_neg (show ¬ b2i true = 0 by decide), howMany_eq (by omega) R.1, Option.bind_some]
    dsimp only
    have h3 := R.2.1
    generalize hc : (vls (S.1.2.1 r)).length = c at h3 ⊢
    have wy : ∀ a b z, a < 10 → b < 10 → z < 10 → fR_isWay (nI r) (nI a) (nI b) (nI z) h = some (b2i (Wof c (S.1.2.2.1 r) a b z), h) := fun a b z ha hb hz => by rw [isWay_eq (by omega) ha hb hz R, hc]
    have w000 := wy 0 0 0 (by omega) (by omega) (by omega)
    rw [nI_0] at w000
    unfold fX_holds_33 fX_holds_46 fX_holds_63
    match c, h3 with
    | 0, _ =>
      rw [if_neg (by decide), if_neg (by decide), if_neg (by decide), if_pos (by decide), w000, Option.bind_some]
      dsimp only
      rw [b2i_if]
      simp [Wof]
    | 1, _ =>
      rw [if_pos (by decide), fX_isValue_eq, Option.bind_some]
      dsimp only
      cases q2 : vis 10 v2 with
      | false => rfl
      | true =>
        obtain ⟨a, ha, rfl⟩ := vis_some (by decide) q2
        have w1 := wy 0 0 a (by omega) (by omega) ha
        rw [nI_0] at w1
        rw [if_neg (show ¬ b2i true = 0 by decide), if_neg (by decide), if_neg (by decide), if_neg (by decide), if_pos (by decide), w1, Option.bind_some]
        dsimp only
        rw [b2i_if]
        simp [Wof, vN_nI (show a < 2 ^ 31 by omega)]
    | 2, _ =>
      rw [if_pos (by decide), fX_isValue_eq, Option.bind_some]
      dsimp only
      cases q2 : vis 10 v2 with
      | false => rfl
      | true =>
        rw [if_neg (show ¬ b2i true = 0 by decide), if_pos (by decide), fX_isValue_eq, Option.bind_some]
        dsimp only
        cases q3 : vis 10 v3 with
        | false => rfl
        | true =>
          obtain ⟨a, ha, rfl⟩ := vis_some (by decide) q2
          obtain ⟨b, hb, rfl⟩ := vis_some (by decide) q3
          have w1 := wy 0 a b (by omega) ha hb
          rw [nI_0] at w1
          rw [if_neg (show ¬ b2i true = 0 by decide), if_neg (by decide), if_neg (by decide), if_neg (by decide), if_pos (by decide), w1, Option.bind_some]
          dsimp only
          rw [b2i_if]
          simp [Wof, vN_nI (show a < 2 ^ 31 by omega), vN_nI (show b < 2 ^ 31 by omega)]
    | 3, _ =>
      rw [if_pos (by decide), fX_isValue_eq, Option.bind_some]
      dsimp only
      cases q2 : vis 10 v2 with
      | false => rfl
      | true =>
        rw [if_neg (show ¬ b2i true = 0 by decide), if_pos (by decide), fX_isValue_eq, Option.bind_some]
        dsimp only
        cases q3 : vis 10 v3 with
        | false => rfl
        | true =>
          rw [if_neg (show ¬ b2i true = 0 by decide), if_pos (by decide), fX_isValue_eq, Option.bind_some]
          dsimp only
          cases q4 : vis 10 v4 with
          | false => rfl
          | true =>
            obtain ⟨a, ha, rfl⟩ := vis_some (by decide) q2
            obtain ⟨b, hb, rfl⟩ := vis_some (by decide) q3
            obtain ⟨z, hz, rfl⟩ := vis_some (by decide) q4
            rw [if_neg (show ¬ b2i true = 0 by decide), if_neg (by decide), if_neg (by decide), if_neg (by decide), wy a b z ha hb hz, Option.bind_some]
            dsimp only
            rw [b2i_if]
            simp [Wof, vN_nI (show a < 2 ^ 31 by omega), vN_nI (show b < 2 ^ 31 by omega), vN_nI (show z < 2 ^ 31 by omega)]
  · rw [e, vis_none e]; rfl
theorem isHold_eq {h : gH} {r c : Nat} {vs : Nat → Bool} {T : Nat → Nat → Nat → Bool} (hr : r < 16) (h3 : h 68 r = mkn 8 vs) (hT : TB h r T) (hc : (vls vs).length = c) (v2 v3 v4 : Int32) {a b z : Nat} (ha : a < 10) (hb : b < 10) (hz : z < 10)
    (e2 : if 0 < c then v2 = nI a else a = 0) (e3 : if 1 < c then v3 = nI b else b = 0) (e4 : if 2 < c then v4 = nI z else z = 0) : fM_isHolding (nI r) v2 v3 v4 h = some (b2i (T a b z), h) := by
  unfold fM_isHolding fM_isHolding_33 fM_isHolding_48
  have hl : (vls vs).length ≤ 8 := by rw [vls_len]; exact qcnt_le _ _
  rw [gg_t (gin_t (by omega) (by omega)), clampn (by omega), mbits_eq h3, hc, Option.bind_some]
  dsimp only
  have t := hT a ha b hb z hz
  have i1 : (if (0 : Int32) < nI c then 100 * v2 else 0) = nI (100 * a) := by
    by_cases q : 0 < c
    · rw [if_pos q] at e2
      rw [if_pos ((nlt_r (c := 0) (by omega) (by decide)).mpr q), e2, nmul_r]
    · rw [if_neg q] at e2
      rw [if_neg (fun w => q ((nlt_r (c := 0) (by omega) (by decide)).mp w)), e2]; rfl
  have i2 : (if (1 : Int32) < nI c then 10 * v3 else 0) = nI (10 * b) := by
    by_cases q : 1 < c
    · rw [if_pos q] at e3
      rw [if_pos ((nlt_r (c := 1) (by omega) (by decide)).mpr q), e3, nmul_r]
    · rw [if_neg q] at e3
      rw [if_neg (fun w => q ((nlt_r (c := 1) (by omega) (by decide)).mp w)), e3]; rfl
  have i3 : (if (2 : Int32) < nI c then v4 else 0) = nI z := by
    by_cases q : 2 < c
    · rw [if_pos q] at e4
      rw [if_pos ((nlt_r (c := 2) (by omega) (by decide)).mpr q), e4]
    · rw [if_neg q] at e4
      rw [if_neg (fun w => q ((nlt_r (c := 2) (by omega) (by decide)).mp w)), e4]; rfl
  have fin : ∀ s1 s2 s3 : Int32, s1 = nI (100 * a) → s2 = nI (10 * b) → s3 = nI z → (gg (gin (1000 * nI r + s1 + s2 + s3) 16000) (gg (gbo (h 69 (1000 * nI r + s1 + s2 + s3).toNatClampNeg)) (some (h 69 (1000 * nI r + s1 + s2 + s3).toNatClampNeg, h)))) = some (b2i (T a b z), h) := by
    intro s1 s2 s3 q1 q2 q3
    have e : 1000 * nI r + s1 + s2 + s3 = nI (1000 * r + 100 * a + 10 * b + z) := by rw [q1, q2, q3, nmul_r, nI_add, nI_add, nI_add]
    rw [e, gg_t (gin_t (by omega) (by omega)), clampn (by omega), t, gg_t (gbo_b _)]
  by_cases q0 : (0 : Int32) < nI c
  · rw [if_pos q0] at i1
    rw [if_pos q0]
    by_cases q1 : (1 : Int32) < nI c
    · rw [if_pos q1] at i2
      rw [if_pos q1]
      by_cases q2 : (2 : Int32) < nI c
      · rw [if_pos q2] at i3; rw [if_pos q2]; exact fin _ _ _ i1 i2 i3
      · rw [if_neg q2] at i3; rw [if_neg q2]; exact fin _ _ _ i1 i2 i3
    · rw [if_neg q1] at i2
      rw [if_neg q1]
      by_cases q2 : (2 : Int32) < nI c
      · rw [if_pos q2] at i3; rw [if_pos q2]; exact fin _ _ _ i1 i2 i3
      · rw [if_neg q2] at i3; rw [if_neg q2]; exact fin _ _ _ i1 i2 i3
  · rw [if_neg q0] at i1
    rw [if_neg q0]
    by_cases q1 : (1 : Int32) < nI c
    · rw [if_pos q1] at i2
      rw [if_pos q1]
      by_cases q2 : (2 : Int32) < nI c
      · rw [if_pos q2] at i3; rw [if_pos q2]; exact fin _ _ _ i1 i2 i3
      · rw [if_neg q2] at i3; rw [if_neg q2]; exact fin _ _ _ i1 i2 i3
    · rw [if_neg q1] at i2
      rw [if_neg q1]
      by_cases q2 : (2 : Int32) < nI c
      · rw [if_pos q2] at i3; rw [if_pos q2]; exact fin _ _ _ i1 i2 i3
      · rw [if_neg q2] at i3; rw [if_neg q2]; exact fin _ _ _ i1 i2 i3
theorem M_holds {h : gH} {S : qW} (H : BM h S) (W : WI S) (v1 v2 v3 v4 : Int32) : fM_holds v1 v2 v3 v4 h = some (s_holds S v1 v2 v3 v4, h) := by
  have h16 := W.1
  have h8 : h 65 8 = nI S.1.1 := H.1.1.1.2.2.2.1
  unfold fM_holds s_holds
  rw [h8, fM_in_eq (n := S.1.1) (hi_pred (by omega)), Option.bind_some]
  dsimp only
  rcases vin_cases S.1.1 (by omega) v1 with ⟨r, hr, e1, e⟩ | ⟨e, -⟩
  · subst e1
    have hm := H.1.1.1.2.2.2.2.2.1 r hr
    have hm1 : h 68 r = mkn 8 (S.1.2.1 r) := hm.1
    have hT : TB h r (S.1.2.2.1 r) := hm.2.2.2.2.2
    rw [e, vis_nI hr (by omega), if_neg (show ¬ b2i true = 0 by decide), gg_t (gin_t (by omega) (by omega)), clampn (by omega), mbits_eq hm1, Option.bind_some]
    dsimp only
    have h3 : (vls (S.1.2.1 r)).length ≤ 3 := hm.2.2.2.1
    generalize hc : (vls (S.1.2.1 r)).length = c at h3 ⊢
    unfold fM_holds_47 fM_holds_65 fM_holds_87
    match c, h3 with
    | 0, _ =>
      rw [if_neg (by decide), if_neg (by decide), if_neg (by decide), isHold_eq (a := 0) (b := 0) (z := 0) (by omega) hm1 hT hc v2 v3 v4 (by omega) (by omega) (by omega) (by simp) (by simp) (by simp), Option.bind_some]
      dsimp only
      rw [b2i_if]
      simp
    | 1, _ =>
      rw [if_pos (by decide), fM_in_eq (n := 10) (by decide), Option.bind_some]
      dsimp only
      cases q2 : vis 10 v2 with
      | false => rfl
      | true =>
        obtain ⟨a, ha, rfl⟩ := vis_some (by decide) q2
        rw [if_neg (show ¬ b2i true = 0 by decide), if_neg (by decide), if_neg (by decide), isHold_eq (a := a) (b := 0) (z := 0) (by omega) hm1 hT hc _ v3 v4 ha (by omega) (by omega) (by simp) (by simp) (by simp), Option.bind_some]
        dsimp only
        rw [b2i_if]
        simp [vN_nI (show a < 2 ^ 31 by omega)]
    | 2, _ =>
      rw [if_pos (by decide), fM_in_eq (n := 10) (by decide), Option.bind_some]
      dsimp only
      cases q2 : vis 10 v2 with
      | false => rfl
      | true =>
        rw [if_neg (show ¬ b2i true = 0 by decide), if_pos (by decide), fM_in_eq (n := 10) (by decide), Option.bind_some]
        dsimp only
        cases q3 : vis 10 v3 with
        | false => rfl
        | true =>
          obtain ⟨a, ha, rfl⟩ := vis_some (by decide) q2
          obtain ⟨b, hb, rfl⟩ := vis_some (by decide) q3
          rw [if_neg (show ¬ b2i true = 0 by decide), if_neg (by decide), isHold_eq (a := a) (b := b) (z := 0) (by omega) hm1 hT hc _ _ v4 ha hb (by omega) (by simp) (by simp) (by simp), Option.bind_some]
          dsimp only
          rw [b2i_if]
          simp [vN_nI (show a < 2 ^ 31 by omega), vN_nI (show b < 2 ^ 31 by omega)]
    | 3, _ =>
      rw [if_pos (by decide), fM_in_eq (n := 10) (by decide), Option.bind_some]
      dsimp only
      cases q2 : vis 10 v2 with
      | false => rfl
      | true =>
        rw [if_neg (show ¬ b2i true = 0 by decide), if_pos (by decide), fM_in_eq (n := 10) (by decide), Option.bind_some]
        dsimp only
        cases q3 : vis 10 v3 with
        | false => rfl
        | true =>
          rw [if_neg (show ¬ b2i true = 0 by decide), if_pos (by decide), fM_in_eq (n := 10) (by decide), Option.bind_some]
          dsimp only
          cases q4 : vis 10 v4 with
          | false => rfl
          | true =>
            obtain ⟨a, ha, rfl⟩ := vis_some (by decide) q2
            obtain ⟨b, hb, rfl⟩ := vis_some (by decide) q3
            obtain ⟨z, hz, rfl⟩ := vis_some (by decide) q4
            rw [if_neg (show ¬ b2i true = 0 by decide), isHold_eq (a := a) (b := b) (z := z) (by omega) hm1 hT hc _ _ _ ha hb hz (by simp) (by simp) (by simp), Option.bind_some]
            dsimp only
            rw [b2i_if]
            simp [vN_nI (show a < 2 ^ 31 by omega), vN_nI (show b < 2 ^ 31 by omega), vN_nI (show z < 2 ^ 31 by omega)]
  · rw [e, vis_none e]; rfl
