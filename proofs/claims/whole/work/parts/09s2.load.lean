/-! load -/
theorem nad1 (k : Nat) : nI k + 1 = nI (k + 1) := nI_add k 1
theorem s_tell_sh (S : qW) (v1 v2 : Int32) : (s_tell S v1 v2).2.2.2 = S.2.2 := by
  unfold s_tell
  split
  · rfl
  · split
    · rfl
    · split
      · rfl
      · split <;> rfl
def okl (n : Nat) (v3 : Int32) (k : Nat) : Bool := decide (0 ≤ v3.toInt ∧ v3.toInt + 2 * k + 1 < n)
def qload (n : Nat) (f : Nat → Int32) (v3 : Int32) : Nat → Nat → Int32 → qW → Int32 × qW
  | 0, _, v6, S => (v6, S)
  | m + 1, k, v6, S => if okl n v3 k = true then qload n f v3 m (k + 1) (v6 + if (s_tell S (f (vN v3 + 2 * k)) (f (vN v3 + 2 * k + 1))).1 < 0 then 0 else 1) (s_tell S (f (vN v3 + 2 * k)) (f (vN v3 + 2 * k + 1))).2 else (-12, S)
theorem W_qload {n : Nat} {f : Nat → Int32} {v3 : Int32} : ∀ (m k : Nat) (v6 : Int32) (S : qW), WI S → WI (qload n f v3 m k v6 S).2 := by
  intro m
  induction m with
  | zero => intro k v6 S H; exact H
  | succ m ih =>
    intro k v6 S H
    unfold qload
    by_cases q : okl n v3 k = true
    · rw [if_pos q]; exact ih _ _ _ (W_tell H _ _)
    · rw [if_neg q]; exact H
def s_load (S : qW) (v1 v2 v3 v4 : Int32) : Int32 × qW := match vin 4 v1 with
  | none => (-2, S)
  | some i => if vis 3 v2 = false then (-2, S) else match vin 9 v4 with
    | none => (-2, S)
    | some m => if (S.2.2.2.2 i).1 = -1 then (-11, S) else if ¬ (S.2.2.2.2 i).1 = v2 then (-13, S) else qload (S.2.2.2.2 i).2.1 (S.2.2.2.2 i).2.2 v3 m 0 0 S
section
variable {S : qW} {v1 v2 v3 v4 : Int32} {i m : Nat}
theorem s_load1 (e : vin 4 v1 = none) : s_load S v1 v2 v3 v4 = (-2, S) := by unfold s_load; rw [e]
theorem s_load2 (e : vin 4 v1 = some i) (h : vis 3 v2 = false) : s_load S v1 v2 v3 v4 = (-2, S) := by unfold s_load; rw [e]; dsimp only; rw [if_pos h]
theorem s_load3 (e : vin 4 v1 = some i) (h : vis 3 v2 = true) (e2 : vin 9 v4 = none) : s_load S v1 v2 v3 v4 = (-2, S) := by unfold s_load; rw [e]; dsimp only; rw [if_neg (by rw [h]; decide), e2]
theorem s_load4 (e : vin 4 v1 = some i) (h : vis 3 v2 = true) (e2 : vin 9 v4 = some m) (q : (S.2.2.2.2 i).1 = -1) : s_load S v1 v2 v3 v4 = (-11, S) := by unfold s_load; rw [e]; dsimp only; rw [if_neg (by rw [h]; decide), e2]; dsimp only; rw [if_pos q]
theorem s_load5 (e : vin 4 v1 = some i) (h : vis 3 v2 = true) (e2 : vin 9 v4 = some m) (q : ¬ (S.2.2.2.2 i).1 = -1) (q2 : ¬ (S.2.2.2.2 i).1 = v2) : s_load S v1 v2 v3 v4 = (-13, S) := by unfold s_load; rw [e]; dsimp only; rw [if_neg (by rw [h]; decide), e2]; dsimp only; rw [if_neg q, if_pos q2]
theorem s_load6 (e : vin 4 v1 = some i) (h : vis 3 v2 = true) (e2 : vin 9 v4 = some m) (q : ¬ (S.2.2.2.2 i).1 = -1) (q2 : (S.2.2.2.2 i).1 = v2) : s_load S v1 v2 v3 v4 = qload (S.2.2.2.2 i).2.1 (S.2.2.2.2 i).2.2 v3 m 0 0 S := by unfold s_load; rw [e]; dsimp only; rw [if_neg (by rw [h]; decide), e2]; dsimp only; rw [if_neg q, if_neg (not_not_intro q2)]
end
theorem W_load {S : qW} (H : WI S) (v1 v2 v3 v4 : Int32) : WI (s_load S v1 v2 v3 v4).2 := by
  rcases vin_cases 4 (by decide) v1 with ⟨i, hi, -, e⟩ | ⟨e, -⟩
  · cases h : vis 3 v2
    · rw [s_load2 e h]; exact H
    · rcases vin_cases 9 (by decide) v4 with ⟨m, hm, -, e2⟩ | ⟨e2, -⟩
      · by_cases q : (S.2.2.2.2 i).1 = -1
        · rw [s_load4 e h e2 q]; exact H
        · by_cases q2 : (S.2.2.2.2 i).1 = v2
          · rw [s_load6 e h e2 q q2]; exact W_qload _ _ _ _ H
          · rw [s_load5 e h e2 q q2]; exact H
      · rw [s_load3 e h e2]; exact H
  · rw [s_load1 e]; exact H
/-- where a pair lies -/
theorem okl_t {n : Nat} {v3 : Int32} {k : Nat} (hn : n ≤ 40) (h : okl n v3 k = true) : ∃ a, v3 = nI a ∧ a + 2 * k + 1 < n := by
  unfold okl at h
  have h := of_decide_eq_true h
  refine ⟨v3.toInt.toNat, Int32.toInt_inj.mp ?_, by omega⟩
  rw [nI_toInt (by omega)]; omega
theorem okl_x {n : Nat} {v3 : Int32} {k : Nat} (hn : n ≤ 40) (hk : k < 9) (h : k = 0 ∨ ∃ a, a < 40 ∧ v3 = nI a) : okl n v3 k = (vis n (v3 + 2 * nI k) && vis n (v3 + 2 * nI k + 1)) := by
  by_cases hv : ∃ a, a < 40 ∧ v3 = nI a
  · obtain ⟨a, ha, rfl⟩ := hv
    rw [nmul_r, nI_add, nad1, vis_iff, vis_iff]
    unfold okl
    rw [nI_toInt (by omega), nI_toInt (by omega), nI_toInt (by omega), ← Bool.decide_and]
    exact decide_eq_decide.mpr (by omega)
  · have h0 : k = 0 := h.resolve_right hv
    subst h0
    have e0 : v3 + 2 * nI 0 = v3 := by rw [nI_0]; simp
    have f : vis n v3 = false := by
      rw [vis_iff]
      refine decide_eq_false (fun z => hv ⟨v3.toInt.toNat, by omega, Int32.toInt_inj.mp ?_⟩)
      rw [nI_toInt (by omega)]; omega
    rw [e0, f]
    unfold okl
    refine decide_eq_false (fun z => hv ⟨v3.toInt.toNat, by omega, Int32.toInt_inj.mp ?_⟩)
    rw [nI_toInt (by omega)]; omega
theorem xload {n : Nat} (hn : n ≤ 40) {f : Nat → Int32} {v3 : Int32} {i M : Nat} (hi : i < 4) (hM : M < 9) : ∀ (m k fu : Nat) (v6 : Int32) (h : gH) (S : qW), k + m = M → m < fu → (k = 0 ∨ ∃ a, a < 40 ∧ v3 = nI a) → AX h S → WI S → (S.2.2.2.2 i).2.1 = n → (S.2.2.2.2 i).2.2 = f → Sp (fX_load_68 v3 (nI M) (56 + 2 * i) fu v6 (nI k) h) (fun p => p.1 = (qload n f v3 m k v6 S).1 ∧ AX p.2 (qload n f v3 m k v6 S).2) := by
  intro m
  induction m with
  | zero =>
    intro k fu v6 h S hk hfu hv H W e1 e2
    obtain ⟨fu, rfl⟩ : ∃ f, fu = f + 1 := ⟨fu - 1, by omega⟩
    have : k = M := by omega
    subst this
    unfold fX_load_68 qload
    exact Sp_neg (nI_nlt (Nat.le_refl _) (by omega)) (Sp_some ⟨rfl, H⟩)
  | succ m ih =>
    intro k fu v6 h S hk hfu hv H W e1 e2
    obtain ⟨fu, rfl⟩ : ∃ f, fu = f + 1 := ⟨fu - 1, by omega⟩
    obtain ⟨z1, z2, z3⟩ := H.2.2.2.2.1 i hi
    rw [e1] at z2 z3
    rw [e2] at z3
    unfold fX_load_68 qload
    refine Sp_pos ((nlt (by omega) (by omega)).mpr (by omega)) (Sp_eq (E_has (by omega) z2 _) ?_)
    dsimp only
    by_cases q : okl n v3 k = true
    · have q0 := q
      rw [okl_x hn (by omega) hv, Bool.and_eq_true] at q0
      refine Sp_neg (b2i_ne _ q0.1) (Sp_eq (E_has (by omega) z2 _) ?_)
      dsimp only
      refine Sp_neg (b2i_ne _ q0.2) ?_
      obtain ⟨a, rfl, ha⟩ := okl_t hn q
      rw [if_pos q, nmul_r, nI_add, nad1, vN_nI (by omega)]
      refine Sp_gg (gin_t (by omega) (by omega)) (Sp_gg (gin_t (by omega) (by omega)) ?_)
      rw [clampn (by omega), clampn (by omega), show 56 + 2 * i + 1 = 57 + 2 * i by omega, z3 _ (by omega), z3 _ (by omega)]
      refine Sp_bind (X_tell H W _ _) (fun p _ hp => ?_)
      obtain ⟨p1, p2⟩ := hp
      have W2 := W_tell W (f (a + 2 * k)) (f (a + 2 * k + 1))
      have sh := s_tell_sh S (f (a + 2 * k)) (f (a + 2 * k + 1))
      rw [p1, nadd_l k 1]
      by_cases w : (s_tell S (f (a + 2 * k)) (f (a + 2 * k + 1))).1 < 0
      · rw [if_pos w, if_pos w, Int32.add_zero]
        exact ((ih (k + 1) fu v6 p.2 _ (by omega) (by omega) (Or.inr ⟨a, by omega, rfl⟩) p2 W2 (by rw [sh]; exact e1) (by rw [sh]; exact e2)))
      · rw [if_neg w, if_neg w]
        exact (ih (k + 1) fu _ p.2 _ (by omega) (by omega) (Or.inr ⟨a, by omega, rfl⟩) p2 W2 (by rw [sh]; exact e1) (by rw [sh]; exact e2))
    · rw [if_neg q]
      rw [okl_x hn (by omega) hv, Bool.and_eq_true] at q
      by_cases q1 : vis n (v3 + 2 * nI k) = true
      · refine Sp_neg (b2i_ne _ q1) (Sp_eq (E_has (by omega) z2 _) ?_)
        dsimp only
        exact Sp_pos (by rw [Bool.eq_false_iff.mpr (fun z => q ⟨q1, z⟩)]; rfl) (Sp_some ⟨rfl, H⟩)
      · exact Sp_pos (by rw [Bool.eq_false_iff.mpr q1]; rfl) (Sp_some ⟨rfl, H⟩)
theorem X_load {h : gH} {S : qW} (H : AX h S) (W : WI S) (v1 v2 v3 v4 : Int32) : Sp (fX_load v1 v2 v3 v4 h) (fun p => p.1 = (s_load S v1 v2 v3 v4).1 ∧ AX p.2 (s_load S v1 v2 v3 v4).2) := by
  unfold fX_load
  refine Sp_eq (fX_isSheet_eq v1 h) ?_
  dsimp only
  have e0 : (0 : Int32).toInt = 0 := rfl
  have e2' : (2 : Int32).toInt = 2 := by decide
  have e8' : (8 : Int32).toInt = 8 := by decide
  rcases vin_cases 4 (by decide) v1 with ⟨i, hi, e1, e⟩ | ⟨e, -⟩
  · subst e1
    have hs := W.2.2.2.2.2.2 i hi
    obtain ⟨z1, z2, z3⟩ := H.2.2.2.2.1 i hi
    rw [vis_nI hi (by decide), gsh_nI hi]
    refine Sp_neg (by decide) ?_
    cases hv : vis 3 v2
    · rw [s_load2 e hv]
      rw [vis_iff] at hv
      have hv := of_decide_eq_false hv
      by_cases q1 : v2 < 0
      · exact Sp_pos q1 (Sp_some ⟨rfl, H⟩)
      · refine Sp_neg q1 (Sp_pos ?_ (Sp_some ⟨rfl, H⟩))
        rw [Int32.lt_iff_toInt_lt, e0] at q1
        rw [Int32.lt_iff_toInt_lt, e2']; omega
    · have hv' := hv
      rw [vis_iff] at hv'
      have hv' := of_decide_eq_true hv'
      refine Sp_neg (by rw [Int32.lt_iff_toInt_lt, e0]; omega) (Sp_neg (by rw [Int32.lt_iff_toInt_lt, e2']; omega) ?_)
      rcases vin_cases 9 (by decide) v4 with ⟨m, hm, e4, e2⟩ | ⟨e2, -⟩
      · subst e4
        refine Sp_neg (nI_pos (by omega)) (Sp_neg (fun z => ?_) (Sp_gg (gin_t hi (by omega)) (Sp_eq (E_missing z1) ?_)))
        · rw [Int32.lt_iff_toInt_lt, e8', nI_toInt (by omega)] at z; omega
        · dsimp only
          by_cases q : (S.2.2.2.2 i).1 = -1
          · rw [s_load4 e hv e2 q]
            exact Sp_neg (b2i_ne _ (decide_eq_true q)) (Sp_some ⟨rfl, H⟩)
          · refine Sp_pos (by rw [decide_eq_false q]; rfl) ?_
            by_cases q2 : (S.2.2.2.2 i).1 = v2
            · rw [s_load6 e hv e2 q q2]
              refine Sp_pos (by rw [z1]; exact q2) ?_
              have x0 := xload (n := (S.2.2.2.2 i).2.1) hs.1 (f := (S.2.2.2.2 i).2.2) (v3 := v3) hi hm m 0 gfu 0 h S (by omega) (by unfold gfu; omega) (Or.inl rfl) H W rfl rfl
              rw [nI_0] at x0
              exact x0
            · rw [s_load5 e hv e2 q q2]
              exact Sp_neg (by rw [z1]; exact q2) (Sp_some ⟨rfl, H⟩)
      · rw [s_load3 e hv e2]
        have hv4 := vin_none e2
        by_cases q1 : v4 < 0
        · exact Sp_pos q1 (Sp_some ⟨rfl, H⟩)
        · refine Sp_neg q1 (Sp_pos ?_ (Sp_some ⟨rfl, H⟩))
          rw [Int32.lt_iff_toInt_lt, e0] at q1
          rw [Int32.lt_iff_toInt_lt, e8']; omega
  · rw [vis_none e, s_load1 e]
    exact Sp_pos rfl (Sp_some ⟨rfl, H⟩)
theorem mload {n : Nat} (hn : n ≤ 40) {f : Nat → Int32} {v3 : Int32} {i M : Nat} (hi : i < 4) (hM : M < 9) : ∀ (m k fu : Nat) (v6 : Int32) (h : gH) (S : qW), k + m = M → m < fu → BM h S → WI S → ¬ (S.2.2.2.2 i).1 = -1 → (S.2.2.2.2 i).2.1 = n → (S.2.2.2.2 i).2.2 = f → Sp (fM_load_75 (nI i) v3 (nI M) fu v6 (nI k) h) (fun p => p.1 = (qload n f v3 m k v6 S).1 ∧ BM p.2 (qload n f v3 m k v6 S).2) := by
  intro m
  induction m with
  | zero =>
    intro k fu v6 h S hk hfu H W e0 e1 e2
    obtain ⟨fu, rfl⟩ : ∃ f, fu = f + 1 := ⟨fu - 1, by omega⟩
    have : k = M := by omega
    subst this
    unfold fM_load_75 qload
    exact Sp_neg (nI_nlt (Nat.le_refl _) (by omega)) (Sp_some ⟨rfl, H⟩)
  | succ m ih =>
    intro k fu v6 h S hk hfu H W e0 e1 e2
    obtain ⟨fu, rfl⟩ : ∃ f, fu = f + 1 := ⟨fu - 1, by omega⟩
    obtain ⟨-, z2⟩ := H.2.2.2.1 i hi
    obtain ⟨-, z4, z5⟩ := z2 e0
    rw [e1] at z4 z5
    rw [e2] at z5
    unfold fM_load_75 fM_load_149 qload
    refine Sp_pos ((nlt (by omega) (by omega)).mpr (by omega)) ?_
    have e20 : (2 : Int32) * nI k = nI (2 * k) := nmul_r _ _
    have sb : (nI n - nI (2 * k) - 2).toInt = (n : Int) - 2 * k - 2 := by
      rw [Int32.toInt_sub, nsub_toInt (by omega) (by omega)]
      have : (2 : Int32).toInt = 2 := by decide
      rw [this]
      exact Int.bmod_eq_of_le (by omega) (by omega)
    by_cases q : okl n v3 k = true
    · obtain ⟨a, rfl, ha⟩ := okl_t hn q
      rw [if_pos q, vN_nI (by omega)]
      refine Sp_neg (nI_pos (by omega)) (Sp_gg (gin_t hi (by omega)) ?_)
      rw [clampn (show i < 2 ^ 31 by omega), z4, e20, nmul_r, nI_add, nI_add, nad1]
      refine Sp_neg ?_ (Sp_gg (gin_t (by omega) (by omega)) (Sp_gg (gin_t (by omega) (by omega)) ?_))
      · rw [Int32.lt_iff_toInt_lt, sb, nI_toInt (by omega)]; omega
      rw [clampn (by omega), clampn (by omega), show 40 * i + a + 2 * k + 1 = 40 * i + (a + 2 * k + 1) by omega, show 40 * i + a + 2 * k = 40 * i + (a + 2 * k) by omega, z5 _ (by omega), z5 _ (by omega)]
      refine Sp_bind (M_tell H W _ _) (fun p _ hp => ?_)
      obtain ⟨p1, p2⟩ := hp
      have W2 := W_tell W (f (a + 2 * k)) (f (a + 2 * k + 1))
      have sh := s_tell_sh S (f (a + 2 * k)) (f (a + 2 * k + 1))
      rw [p1, nadd_l k 1]
      by_cases w : (s_tell S (f (a + 2 * k)) (f (a + 2 * k + 1))).1 < 0
      · rw [if_pos w, if_pos w]
        exact (ih (k + 1) fu _ p.2 _ (by omega) (by omega) p2 W2 (by rw [sh]; exact e0) (by rw [sh]; exact e1) (by rw [sh]; exact e2))
      · rw [if_neg w, if_neg w]
        exact (ih (k + 1) fu _ p.2 _ (by omega) (by omega) p2 W2 (by rw [sh]; exact e0) (by rw [sh]; exact e1) (by rw [sh]; exact e2))
    · rw [if_neg q]
      unfold okl at q
      rw [decide_eq_true_eq] at q
      by_cases q1 : v3 < 0
      · exact Sp_pos q1 (Sp_some ⟨rfl, H⟩)
      · refine Sp_neg q1 (Sp_gg (gin_t hi (by omega)) ?_)
        rw [clampn (show i < 2 ^ 31 by omega), z4, e20]
        refine Sp_pos ?_ (Sp_some ⟨rfl, H⟩)
        rw [Int32.lt_iff_toInt_lt, Int32.toInt_zero] at q1
        rw [Int32.lt_iff_toInt_lt, sb]; omega
theorem M_load {h : gH} {S : qW} (H : BM h S) (W : WI S) (v1 v2 v3 v4 : Int32) : Sp (fM_load v1 v2 v3 v4 h) (fun p => p.1 = (s_load S v1 v2 v3 v4).1 ∧ BM p.2 (s_load S v1 v2 v3 v4).2) := by
  unfold fM_load
  refine Sp_eq (mSheet_eq v1 h) ?_
  dsimp only
  rcases vin_cases 4 (by decide) v1 with ⟨i, hi, e1, e⟩ | ⟨e, -⟩
  · subst e1
    have hs := W.2.2.2.2.2.2 i hi
    obtain ⟨z1, z2⟩ := H.2.2.2.1 i hi
    rw [vis_nI hi (by decide)]
    refine Sp_neg (by decide) (Sp_eq (fM_in_eq (n := 3) (by decide) v2 h) ?_)
    dsimp only
    cases hv : vis 3 v2
    · rw [s_load2 e hv]
      exact Sp_pos rfl (Sp_some ⟨rfl, H⟩)
    · refine Sp_neg (by decide) (Sp_eq (fM_in_eq (n := 9) (by decide) v4 h) ?_)
      dsimp only
      rcases vin_cases 9 (by decide) v4 with ⟨m, hm, e4, e2⟩ | ⟨e2, -⟩
      · subst e4
        rw [vis_nI hm (by decide)]
        refine Sp_neg (by decide) (Sp_gg (gin_t hi (by omega)) ?_)
        rw [clampn (show i < 2 ^ 31 by omega)]
        by_cases q : (S.2.2.2.2 i).1 = -1
        · rw [s_load4 e hv e2 q]
          refine Sp_pos (by rw [z1, decide_eq_true q]; rfl) ?_
          unfold fM_load_57
          refine Sp_gg (gin_t hi (by omega)) ?_
          rw [clampn (show i < 2 ^ 31 by omega)]
          exact Sp_pos (by rw [z1, decide_eq_true q]; rfl) (Sp_some ⟨rfl, H⟩)
        · obtain ⟨z3, z4, z5⟩ := z2 q
          have n103 : ¬ h 103 i = 0 := by rw [z1, decide_eq_false q]; decide
          refine Sp_neg n103 (Sp_gg (gin_t hi (by omega)) ?_)
          by_cases q2 : (S.2.2.2.2 i).1 = v2
          · rw [s_load6 e hv e2 q q2]
            refine Sp_pos (by rw [z3]; exact q2) ?_
            unfold fM_load_57
            refine Sp_gg (gin_t hi (by omega)) ?_
            rw [clampn (show i < 2 ^ 31 by omega)]
            refine Sp_neg n103 ?_
            have x0 := mload (n := (S.2.2.2.2 i).2.1) hs.1 (f := (S.2.2.2.2 i).2.2) (v3 := v3) hi hm m 0 gfu 0 h S (by omega) (by unfold gfu; omega) H W q rfl rfl
            rw [nI_0] at x0
            exact x0
          · rw [s_load5 e hv e2 q q2]
            exact Sp_neg (by rw [z3]; exact q2) (Sp_some ⟨rfl, H⟩)
      · rw [vis_none e2, s_load3 e hv e2]
        exact Sp_pos rfl (Sp_some ⟨rfl, H⟩)
  · rw [vis_none e, s_load1 e]
    exact Sp_pos rfl (Sp_some ⟨rfl, H⟩)
