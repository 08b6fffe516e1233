/-! copy, load -/
theorem cpy_at (f g : Nat → Int32) (sp dp n k : Nat) : va_cpy f g sp dp n k = if dp ≤ k ∧ k < dp + n then f (sp + (k - dp)) else g k := rfl
theorem nsub_toInt {n k : Nat} (hn : n < 2 ^ 31) (hk : k < 2 ^ 31) : (nI n - nI k).toInt = (n : Int) - k := by
  rw [Int32.toInt_sub, nI_toInt hn, nI_toInt hk]
  exact Int.bmod_eq_of_le (by omega) (by omega)
/-- k items from v on, among n -/
def hrow (n : Nat) (v k : Int32) : Bool := decide (0 ≤ v.toInt ∧ 0 ≤ k.toInt ∧ v.toInt + k.toInt ≤ n)
theorem E_row {h : gH} {o n : Nat} (hn : n ≤ 40) (e : h o 2 = nI n) (v k : Int32) : fE_hasRow o v k h = some (b2i (hrow n v k), h) := by
  unfold fE_hasRow hrow
  rw [e]
  by_cases q1 : k < 0
  · rw [if_pos q1]
    rw [Int32.lt_iff_toInt_lt, Int32.toInt_zero] at q1
    rw [decide_eq_false (by omega)]; rfl
  · obtain ⟨k, hk, rfl⟩ := nI_of q1
    rw [if_neg q1]
    by_cases q2 : nI n < nI k
    · rw [if_pos q2]
      rw [Int32.lt_iff_toInt_lt, nI_toInt (by omega), nI_toInt hk] at q2
      rw [decide_eq_false (by rw [nI_toInt hk]; omega)]; rfl
    · rw [if_neg q2]
      rw [Int32.lt_iff_toInt_lt, nI_toInt (by omega), nI_toInt hk] at q2
      by_cases q3 : v < 0
      · rw [if_pos q3]
        rw [Int32.lt_iff_toInt_lt, Int32.toInt_zero] at q3
        rw [decide_eq_false (by omega)]; rfl
      · rw [if_neg q3]
        rw [Int32.lt_iff_toInt_lt, Int32.toInt_zero] at q3
        by_cases q4 : nI n - nI k < v
        · rw [if_pos q4]
          rw [Int32.lt_iff_toInt_lt, nsub_toInt (by omega) hk] at q4
          rw [decide_eq_false (by rw [nI_toInt hk]; omega)]; rfl
        · rw [if_neg q4]
          rw [Int32.lt_iff_toInt_lt, nsub_toInt (by omega) hk] at q4
          rw [decide_eq_true (by rw [nI_toInt hk]; omega)]; rfl
theorem hrow_t {n : Nat} {v k : Int32} (hn : n ≤ 40) (h : hrow n v k = true) : ∃ a b, v = nI a ∧ k = nI b ∧ a + b ≤ n := by
  unfold hrow at h
  have h := of_decide_eq_true h
  refine ⟨v.toInt.toNat, k.toInt.toNat, Int32.toInt_inj.mp ?_, Int32.toInt_inj.mp ?_, by omega⟩
  · rw [nI_toInt (by omega)]; omega
  · rw [nI_toInt (by omega)]; omega
def s_copy (S : qW) (v1 v2 v3 v4 v5 : Int32) : Int32 × qW := match vin 4 v1 with
  | none => (-2, S)
  | some i => match vin 4 v3 with
    | none => (-2, S)
    | some j => if (S.2.2.2.2 i).1 = -1 ∨ (S.2.2.2.2 j).1 = -1 then (-11, S) else if ¬ (S.2.2.2.2 i).1 = (S.2.2.2.2 j).1 then (-13, S) else
      if ¬ (hrow (S.2.2.2.2 i).2.1 v2 v5 = true ∧ hrow (S.2.2.2.2 j).2.1 v4 v5 = true) then (-12, S) else
      (v5, setS S (upds S.2.2.2.2 j ((S.2.2.2.2 j).1, (S.2.2.2.2 j).2.1, va_cpy (S.2.2.2.2 i).2.2 (S.2.2.2.2 j).2.2 (vN v2) (vN v4) (vN v5))))
section
variable {S : qW} {v1 v2 v3 v4 v5 : Int32} {i j : Nat}
theorem s_copy1 (e : vin 4 v1 = none) : s_copy S v1 v2 v3 v4 v5 = (-2, S) := by unfold s_copy; rw [e]
theorem s_copy2 (e : vin 4 v1 = some i) (e2 : vin 4 v3 = none) : s_copy S v1 v2 v3 v4 v5 = (-2, S) := by unfold s_copy; rw [e]; dsimp only; rw [e2]
theorem s_copy3 (e : vin 4 v1 = some i) (e2 : vin 4 v3 = some j) (h : (S.2.2.2.2 i).1 = -1 ∨ (S.2.2.2.2 j).1 = -1) : s_copy S v1 v2 v3 v4 v5 = (-11, S) := by unfold s_copy; rw [e]; dsimp only; rw [e2]; dsimp only; rw [if_pos h]
theorem s_copy4 (e : vin 4 v1 = some i) (e2 : vin 4 v3 = some j) (h : ¬ ((S.2.2.2.2 i).1 = -1 ∨ (S.2.2.2.2 j).1 = -1)) (h1 : ¬ (S.2.2.2.2 i).1 = (S.2.2.2.2 j).1) : s_copy S v1 v2 v3 v4 v5 = (-13, S) := by unfold s_copy; rw [e]; dsimp only; rw [e2]; dsimp only; rw [if_neg h, if_pos h1]
theorem s_copy5 (e : vin 4 v1 = some i) (e2 : vin 4 v3 = some j) (h : ¬ ((S.2.2.2.2 i).1 = -1 ∨ (S.2.2.2.2 j).1 = -1)) (h1 : (S.2.2.2.2 i).1 = (S.2.2.2.2 j).1) (h2 : ¬ (hrow (S.2.2.2.2 i).2.1 v2 v5 = true ∧ hrow (S.2.2.2.2 j).2.1 v4 v5 = true)) : s_copy S v1 v2 v3 v4 v5 = (-12, S) := by unfold s_copy; rw [e]; dsimp only; rw [e2]; dsimp only; rw [if_neg h, if_neg (not_not_intro h1), if_pos h2]
theorem s_copy6 (e : vin 4 v1 = some i) (e2 : vin 4 v3 = some j) (h : ¬ ((S.2.2.2.2 i).1 = -1 ∨ (S.2.2.2.2 j).1 = -1)) (h1 : (S.2.2.2.2 i).1 = (S.2.2.2.2 j).1) (h2 : hrow (S.2.2.2.2 i).2.1 v2 v5 = true ∧ hrow (S.2.2.2.2 j).2.1 v4 v5 = true) : s_copy S v1 v2 v3 v4 v5 = (v5, setS S (upds S.2.2.2.2 j ((S.2.2.2.2 j).1, (S.2.2.2.2 j).2.1, va_cpy (S.2.2.2.2 i).2.2 (S.2.2.2.2 j).2.2 (vN v2) (vN v4) (vN v5)))) := by unfold s_copy; rw [e]; dsimp only; rw [e2]; dsimp only; rw [if_neg h, if_neg (not_not_intro h1), if_neg (not_not_intro h2)]
end
theorem W_copy {S : qW} (H : WI S) (v1 v2 v3 v4 v5 : Int32) : WI (s_copy S v1 v2 v3 v4 v5).2 := by
  rcases vin_cases 4 (by decide) v1 with ⟨i, hi, -, e⟩ | ⟨e, -⟩
  · rcases vin_cases 4 (by decide) v3 with ⟨j, hj, -, e2⟩ | ⟨e2, -⟩
    · by_cases h : (S.2.2.2.2 i).1 = -1 ∨ (S.2.2.2.2 j).1 = -1
      · rw [s_copy3 e e2 h]; exact H
      · by_cases h1 : (S.2.2.2.2 i).1 = (S.2.2.2.2 j).1
        · by_cases h2 : hrow (S.2.2.2.2 i).2.1 v2 v5 = true ∧ hrow (S.2.2.2.2 j).2.1 v4 v5 = true
          · rw [s_copy6 e e2 h h1 h2]; exact W_upd H (H.2.2.2.2.2.2 j hj)
          · rw [s_copy5 e e2 h h1 h2]; exact H
        · rw [s_copy4 e e2 h h1]; exact H
    · rw [s_copy2 e e2]; exact H
  · rw [s_copy1 e]; exact H
theorem X_copy {h : gH} {S : qW} (H : AX h S) (W : WI S) (v1 v2 v3 v4 v5 : Int32) : Sp (fX_copy v1 v2 v3 v4 v5 h) (fun p => p.1 = (s_copy S v1 v2 v3 v4 v5).1 ∧ AX p.2 (s_copy S v1 v2 v3 v4 v5).2) := by
  unfold fX_copy
  refine Sp_eq (fX_isSheet_eq v1 h) ?_
  dsimp only
  rcases vin_cases 4 (by decide) v1 with ⟨i, hi, ei, e⟩ | ⟨e, -⟩
  · subst ei
    rw [vis_nI hi (by decide)]
    refine Sp_neg (by decide) (Sp_eq (fX_isSheet_eq v3 h) ?_)
    dsimp only
    rcases vin_cases 4 (by decide) v3 with ⟨j, hj, ej, e2⟩ | ⟨e2, -⟩
    · subst ej
      obtain ⟨z1, z2, z3⟩ := H.2.2.2.2.1 i hi
      obtain ⟨y1, y2, y3⟩ := H.2.2.2.2.1 j hj
      have hsi := (W.2.2.2.2.2.2 i hi).1
      have hsj := (W.2.2.2.2.2.2 j hj).1
      rw [vis_nI hj (by decide), gsh_nI hi, gsh_nI hj]
      refine Sp_neg (by decide) (Sp_gg (gin_t hi (by omega)) (Sp_gg (gin_t hj (by omega)) (Sp_eq (E_missing z1) ?_)))
      dsimp only
      by_cases q1 : (S.2.2.2.2 i).1 = -1
      · rw [s_copy3 e e2 (Or.inl q1)]
        exact Sp_neg (b2i_ne _ (decide_eq_true q1)) (Sp_some ⟨rfl, H⟩)
      · refine Sp_pos (by rw [decide_eq_false q1]; rfl) (Sp_eq (E_missing y1) ?_)
        dsimp only
        by_cases q2 : (S.2.2.2.2 j).1 = -1
        · rw [s_copy3 e e2 (Or.inr q2)]
          exact Sp_neg (b2i_ne _ (decide_eq_true q2)) (Sp_some ⟨rfl, H⟩)
        · refine Sp_pos (by rw [decide_eq_false q2]; rfl) ?_
          have h0 : ¬ ((S.2.2.2.2 i).1 = -1 ∨ (S.2.2.2.2 j).1 = -1) := fun z => z.elim q1 q2
          by_cases q3 : (S.2.2.2.2 i).1 = (S.2.2.2.2 j).1
          · refine Sp_pos (by rw [z1, y1]; exact q3) (Sp_eq (E_row hsi z2 v2 v5) ?_)
            dsimp only
            by_cases r1 : hrow (S.2.2.2.2 i).2.1 v2 v5 = true
            · refine Sp_neg (b2i_ne _ r1) (Sp_eq (E_row hsj y2 v4 v5) ?_)
              dsimp only
              by_cases r2 : hrow (S.2.2.2.2 j).2.1 v4 v5 = true
              · rw [s_copy6 e e2 h0 q3 ⟨r1, r2⟩]
                obtain ⟨a, b, rfl, rfl, hab⟩ := hrow_t hsi r1
                obtain ⟨c, b', rfl, eb, hcb⟩ := hrow_t hsj r2
                have : b = b' := by
                  have := congrArg Int32.toInt eb
                  rw [nI_toInt (by omega), nI_toInt (by omega)] at this
                  omega
                subst this
                refine Sp_neg (b2i_ne _ r2) (Sp_gg ?_ (Sp_let (Sp_some ⟨rfl, ?_⟩)))
                · unfold gcpo
                  rw [clampn (by omega), clampn (by omega), clampn (by omega)]
                  exact decide_eq_true ⟨nI_pos (by omega), nI_pos (by omega), nI_pos (by omega), by omega, by omega⟩
                · rw [clampn (by omega), clampn (by omega), clampn (by omega), vN_nI (by omega), vN_nI (by omega), vN_nI (by omega), show 56 + 2 * i + 1 = 57 + 2 * i by omega, show 56 + 2 * j + 1 = 57 + 2 * j by omega]
                  dsimp only
                  have g0 : ∀ o, o ≠ 57 + 2 * j → gcp h (57 + 2 * i) a (57 + 2 * j) c b o = h o := fun o ho => funext fun k => if_neg ho
                  have g1 : ∀ k, gcp h (57 + 2 * i) a (57 + 2 * j) c b (57 + 2 * j) k = va_cpy (h (57 + 2 * i)) (h (57 + 2 * j)) a c b k := fun k => if_pos rfl
                  refine AX_sh H (fun o ho => g0 o (by omega)) (XSh_upd H.2.2.2.2.1 hj (fun o o1 o2 => g0 o o2) ⟨?_, ?_, fun k hk => ?_⟩)
                  · rw [g0 _ (by omega)]; exact y1
                  · rw [g0 _ (by omega)]; exact y2
                  · have hk : k < (S.2.2.2.2 j).2.1 := hk
                    rw [g1, cpy_at]
                    show _ = va_cpy _ _ _ _ _ k
                    rw [cpy_at]
                    by_cases w : c ≤ k ∧ k < c + b
                    · rw [if_pos w, if_pos w]; exact z3 _ (by omega)
                    · rw [if_neg w, if_neg w]; exact y3 _ hk
              · rw [s_copy5 e e2 h0 q3 (fun z => r2 z.2)]
                exact Sp_pos (by rw [Bool.eq_false_iff.mpr r2]; rfl) (Sp_some ⟨rfl, H⟩)
            · rw [s_copy5 e e2 h0 q3 (fun z => r1 z.1)]
              exact Sp_pos (by rw [Bool.eq_false_iff.mpr r1]; rfl) (Sp_some ⟨rfl, H⟩)
          · rw [s_copy4 e e2 h0 q3]
            exact Sp_neg (by rw [z1, y1]; exact q3) (Sp_some ⟨rfl, H⟩)
    · rw [vis_none e2, s_copy2 e e2]
      exact Sp_pos rfl (Sp_some ⟨rfl, H⟩)
  · rw [vis_none e, s_copy1 e]
    exact Sp_pos rfl (Sp_some ⟨rfl, H⟩)
theorem mcpy {s d n : Nat} {w : Int32} {ix : Nat → Nat} (ew : ∀ k, k < n → ix k < n ∧ (if w = 0 then nI k else nI n - 1 - nI k) = nI (ix k)) (inj : ∀ a b, a < n → b < n → ix a = ix b → a = b) (ov : ∀ t k, t < k → k < n → s + ix k ≠ d + ix t) {v1 v2 v3 v4 : Int32} (es : ((40 : Int32) * v1) + v2 = nI s) (ed : ((40 : Int32) * v3) + v4 = nI d) (hs : s + n ≤ 160) (hd : d + n ≤ 160) {h0 : gH} : ∀ (m k fu : Nat) (h : gH), k + m = n → m < fu → (∀ t, t < k → h 106 (d + ix t) = h0 106 (s + ix t)) → (∀ q, (∀ t, t < k → q ≠ d + ix t) → h 106 q = h0 106 q) → (∀ b, b ≠ 106 → h b = h0 b) → Sp (fM_copy_121 v1 v2 v3 v4 (nI n) w fu (nI k) h) (fun p => p.1 = nI n ∧ (∀ t, t < n → p.2 106 (d + ix t) = h0 106 (s + ix t)) ∧ (∀ q, (∀ t, t < n → q ≠ d + ix t) → p.2 106 q = h0 106 q) ∧ ∀ b, b ≠ 106 → p.2 b = h0 b) := by
  intro m
  induction m with
  | zero =>
    intro k fu h hk hfu h1 h2 h3
    obtain ⟨fu, rfl⟩ : ∃ f, fu = f + 1 := ⟨fu - 1, by omega⟩
    have : k = n := by omega
    subst this
    unfold fM_copy_121
    exact Sp_neg (nI_nlt (Nat.le_refl _) (by omega)) (Sp_some ⟨rfl, h1, h2, h3⟩)
  | succ m ih =>
    intro k fu h hk hfu h1 h2 h3
    obtain ⟨fu, rfl⟩ : ∃ f, fu = f + 1 := ⟨fu - 1, by omega⟩
    obtain ⟨hx, ex⟩ := ew k (by omega)
    have st : Sp (fM_copy_145 (fM_copy_121 v1 v2 v3 v4 (nI n) w fu) v1 v2 v3 v4 (nI n) w (nI k) (nI (ix k)) h) (fun p => p.1 = nI n ∧ (∀ t, t < n → p.2 106 (d + ix t) = h0 106 (s + ix t)) ∧ (∀ q, (∀ t, t < n → q ≠ d + ix t) → p.2 106 q = h0 106 q) ∧ ∀ b, b ≠ 106 → p.2 b = h0 b) := by
      unfold fM_copy_145
      rw [es, ed, nI_add, nI_add]
      refine Sp_gg (gin_t (by omega) (by omega)) (Sp_gg (gin_t (by omega) (by omega)) (Sp_let ?_))
      rw [nadd_l k 1, clampn (by omega), clampn (by omega)]
      refine ih (k + 1) fu _ (by omega) (by omega) (fun t ht => ?_) (fun q hq => ?_) (fun b hb => by rw [hu_ne hb]; exact h3 b hb)
      · by_cases et : t = k
        · rw [et, hu_same]; exact h2 _ (fun u hu => ov u k hu (by omega))
        · rw [hu_k _ _ _ _ (fun z => et (inj t k (by omega) (by omega) (by omega)))]; exact h1 t (by omega)
      · rw [hu_k _ _ _ _ (hq k (by omega))]; exact h2 q (fun t ht => hq t (by omega))
    unfold fM_copy_121
    refine Sp_pos ((nlt (by omega) (by omega)).mpr (by omega)) ?_
    by_cases q : w = 0
    · rw [if_pos q] at ex
      refine Sp_pos q ?_
      rw [← ex] at st; exact st
    · rw [if_neg q] at ex
      refine Sp_neg q ?_
      rw [← ex] at st; exact st
theorem mcpy_all {s d n : Nat} {w : Bool} (ov : if w then s < d else d ≤ s ∨ d + n ≤ s ∨ s + n ≤ d) {v1 v2 v3 v4 : Int32} (es : ((40 : Int32) * v1) + v2 = nI s) (ed : ((40 : Int32) * v3) + v4 = nI d) (hs : s + n ≤ 160) (hd : d + n ≤ 160) (h : gH) : Sp (fM_copy_116 v1 v2 v3 v4 (nI n) (b2i w) h) (fun p => p.1 = nI n ∧ (∀ t, t < n → p.2 106 (d + t) = h 106 (s + t)) ∧ (∀ q, ¬ (d ≤ q ∧ q < d + n) → p.2 106 q = h 106 q) ∧ ∀ b, b ≠ 106 → p.2 b = h b) := by
  unfold fM_copy_116
  cases w with
  | false =>
    have x0 := mcpy (s := s) (d := d) (n := n) (w := b2i false) (ix := fun k => k) (fun k hk => ⟨hk, if_pos rfl⟩) (fun a b _ _ z => z) (fun t k h1 h2 => by simp at ov; omega) es ed hs hd (h0 := h) n 0 gfu h (by omega) (by unfold gfu; omega) (fun t ht => by omega) (fun _ _ => rfl) (fun _ _ => rfl)
    rw [nI_0] at x0
    exact Sp_mono x0 (fun p q => ⟨q.1, q.2.1, fun k hk => q.2.2.1 k (fun t ht => by omega), q.2.2.2⟩)
  | true =>
    have x0 := mcpy (s := s) (d := d) (n := n) (w := b2i true) (ix := fun k => n - 1 - k) (fun k hk => ⟨by omega, by rw [if_neg (by decide), nsub_l (show 1 ≤ n by omega), nsub (show k ≤ n - 1 by omega)]⟩) (fun a b _ _ z => by omega) (fun t k h1 h2 => by simp at ov; omega) es ed hs hd (h0 := h) n 0 gfu h (by omega) (by unfold gfu; omega) (fun t ht => by omega) (fun _ _ => rfl) (fun _ _ => rfl)
    rw [nI_0] at x0
    refine Sp_mono x0 (fun p q => ⟨q.1, fun t ht => ?_, fun k hk => q.2.2.1 k (fun t ht => by omega), q.2.2.2⟩)
    have := q.2.1 (n - 1 - t) (by omega)
    rw [show n - 1 - (n - 1 - t) = t by omega] at this
    exact this
theorem M_copy {h : gH} {S : qW} (H : BM h S) (W : WI S) (v1 v2 v3 v4 v5 : Int32) : Sp (fM_copy v1 v2 v3 v4 v5 h) (fun p => p.1 = (s_copy S v1 v2 v3 v4 v5).1 ∧ BM p.2 (s_copy S v1 v2 v3 v4 v5).2) := by
  have zb : ∀ x, fM_copy v1 v2 v3 v4 v5 h = some x → ZB x.2 := fun x e => fM_copy_zb H.2.2.2.2 e
  suffices Sp (fM_copy v1 v2 v3 v4 v5 h) (fun p => p.1 = (s_copy S v1 v2 v3 v4 v5).1 ∧ (ZB p.2 → BM p.2 (s_copy S v1 v2 v3 v4 v5).2)) from Sp_to this (fun x e q => ⟨q.1, q.2 (zb x e)⟩)
  unfold fM_copy
  refine Sp_eq (mSheet_eq v1 h) ?_
  dsimp only
  rcases vin_cases 4 (by decide) v1 with ⟨i, hi, ei, e⟩ | ⟨e, -⟩
  · subst ei
    rw [vis_nI hi (by decide)]
    refine Sp_neg (by decide) (Sp_eq (mSheet_eq v3 h) ?_)
    dsimp only
    rcases vin_cases 4 (by decide) v3 with ⟨j, hj, ej, e2⟩ | ⟨e2, -⟩
    · subst ej
      obtain ⟨z1, z2⟩ := H.2.2.2.1 i hi
      obtain ⟨y1, y2⟩ := H.2.2.2.1 j hj
      have hsi := (W.2.2.2.2.2.2 i hi).1
      have hsj := (W.2.2.2.2.2.2 j hj).1
      rw [vis_nI hj (by decide)]
      refine Sp_neg (by decide) (Sp_gg (gin_t hi (by omega)) ?_)
      rw [clampn (show i < 2 ^ 31 by omega), clampn (show j < 2 ^ 31 by omega)]
      by_cases q1 : (S.2.2.2.2 i).1 = -1
      · rw [s_copy3 e e2 (Or.inl q1)]
        exact Sp_pos (by rw [z1, decide_eq_true q1]; rfl) (Sp_some ⟨rfl, fun _ => H⟩)
      · refine Sp_neg (by rw [z1, decide_eq_false q1]; decide) (Sp_gg (gin_t hj (by omega)) ?_)
        by_cases q2 : (S.2.2.2.2 j).1 = -1
        · rw [s_copy3 e e2 (Or.inr q2)]
          exact Sp_pos (by rw [y1, decide_eq_true q2]; rfl) (Sp_some ⟨rfl, fun _ => H⟩)
        · refine Sp_neg (by rw [y1, decide_eq_false q2]; decide) (Sp_gg (gin_t hi (by omega)) (Sp_gg (gin_t hj (by omega)) ?_))
          have h0 : ¬ ((S.2.2.2.2 i).1 = -1 ∨ (S.2.2.2.2 j).1 = -1) := fun z => z.elim q1 q2
          obtain ⟨z3, z4, z5⟩ := z2 q1
          obtain ⟨y3, y4, y5⟩ := y2 q2
          by_cases q3 : (S.2.2.2.2 i).1 = (S.2.2.2.2 j).1
          · refine Sp_pos (by rw [z3, y3]; exact q3) ?_
            by_cases r : hrow (S.2.2.2.2 i).2.1 v2 v5 = true ∧ hrow (S.2.2.2.2 j).2.1 v4 v5 = true
            · rw [s_copy6 e e2 h0 q3 r]
              obtain ⟨r1, r2⟩ := r
              obtain ⟨a, b, rfl, rfl, hab⟩ := hrow_t hsi r1
              obtain ⟨c, b', rfl, eb, hcb⟩ := hrow_t hsj r2
              have : b = b' := by
                have := congrArg Int32.toInt eb
                rw [nI_toInt (by omega), nI_toInt (by omega)] at this
                omega
              subst this
              have fin : ∀ w : Bool, (if w then 40 * i + a < 40 * j + c else 40 * j + c ≤ 40 * i + a ∨ 40 * j + c + b ≤ 40 * i + a ∨ 40 * i + a + b ≤ 40 * j + c) → Sp (fM_copy_116 (nI i) (nI a) (nI j) (nI c) (nI b) (b2i w) h) (fun p => p.1 = nI b ∧ (ZB p.2 → BM p.2 (setS S (upds S.2.2.2.2 j ((S.2.2.2.2 j).1, (S.2.2.2.2 j).2.1, va_cpy (S.2.2.2.2 i).2.2 (S.2.2.2.2 j).2.2 (vN (nI a)) (vN (nI c)) (vN (nI b))))))) := by
                intro w hw
                refine Sp_mono (mcpy_all (s := 40 * i + a) (d := 40 * j + c) (n := b) (w := w) hw (by rw [nmul_r, nI_add]) (by rw [nmul_r, nI_add]) (by omega) (by omega) h) (fun p q => ⟨q.1, fun zb => ?_⟩)
                obtain ⟨-, p1, p2, p3⟩ := q
                rw [vN_nI (by omega), vN_nI (by omega), vN_nI (by omega)]
                refine BM_sh H (fun o ho => p3 o (by omega)) (MSh_upd H.2.2.2.1 hj (fun t ht => by rw [p3 _ (by omega)]) (fun t ht => by rw [p3 _ (by omega)]) (fun t ht => by rw [p3 _ (by omega)]) (fun t ht => p2 t (by omega)) (fun t ht => (W.2.2.2.2.2.2 t ht).1) ⟨?_, fun _ => ⟨?_, ?_, fun k hk => ?_⟩⟩) zb
                · rw [p3 _ (by omega)]; exact y1
                · rw [p3 _ (by omega)]; exact y3
                · rw [p3 _ (by omega)]; exact y4
                · have hk : k < (S.2.2.2.2 j).2.1 := hk
                  show _ = va_cpy _ _ _ _ _ k
                  rw [cpy_at]
                  by_cases w : c ≤ k ∧ k < c + b
                  · have := p1 (k - c) (by omega)
                    rw [show 40 * j + c + (k - c) = 40 * j + k by omega] at this
                    rw [if_pos w, this, show 40 * i + a + (k - c) = 40 * i + (a + (k - c)) by omega]; exact z5 _ (by omega)
                  · rw [if_neg w, p2 _ (by omega)]; exact y5 _ hk
              refine Sp_neg (nI_pos (by omega)) (Sp_neg (nI_pos (by omega)) (Sp_neg (nI_pos (by omega)) (Sp_gg (gin_t hi (by omega)) (Sp_neg ?_ (Sp_gg (gin_t hj (by omega)) (Sp_neg ?_ ?_))))))
              · rw [z4, Int32.lt_iff_toInt_lt, nsub_toInt (by omega) (by omega), nI_toInt (by omega)]; omega
              · rw [y4, Int32.lt_iff_toInt_lt, nsub_toInt (by omega) (by omega), nI_toInt (by omega)]; omega
              · by_cases eij : i = j
                · subst eij
                  refine Sp_pos rfl ?_
                  by_cases hac : a < c
                  · exact Sp_pos ((nlt (by omega) (by omega)).mpr hac) (fin true (by simp; omega))
                  · exact Sp_neg (fun z => hac ((nlt (by omega) (by omega)).mp z)) (fin false (by simp; omega))
                · refine Sp_neg (fun z => eij ?_) (fin false (by simp; omega))
                  have := congrArg Int32.toInt z
                  rw [nI_toInt (by omega), nI_toInt (by omega)] at this
                  omega
            · rw [s_copy5 e e2 h0 q3 r]
              unfold hrow at r
              rw [decide_eq_true_eq, decide_eq_true_eq] at r
              have g : Sp (some ((-12 : Int32), h)) (fun p => p.1 = -12 ∧ (ZB p.2 → BM p.2 S)) := Sp_some ⟨rfl, fun _ => H⟩
              by_cases t1 : v5 < 0
              · exact Sp_pos t1 g
              · refine Sp_neg t1 ?_
                obtain ⟨b, hb, rfl⟩ := nI_of t1
                by_cases t2 : v2 < 0
                · exact Sp_pos t2 g
                · refine Sp_neg t2 ?_
                  by_cases t3 : v4 < 0
                  · exact Sp_pos t3 g
                  · refine Sp_neg t3 (Sp_gg (gin_t hi (by omega)) ?_)
                    by_cases t4 : nI (S.2.2.2.2 i).2.1 - nI b < v2
                    · exact Sp_pos (by rw [z4]; exact t4) g
                    · refine Sp_neg (by rw [z4]; exact t4) (Sp_gg (gin_t hj (by omega)) (Sp_pos ?_ g))
                      rw [Int32.lt_iff_toInt_lt, Int32.toInt_zero] at t2 t3
                      rw [Int32.lt_iff_toInt_lt, nsub_toInt (by omega) hb] at t4
                      rw [y4, Int32.lt_iff_toInt_lt, nsub_toInt (by omega) hb]
                      rw [nI_toInt hb] at r
                      omega
          · rw [s_copy4 e e2 h0 q3]
            exact Sp_neg (by rw [z3, y3]; exact q3) (Sp_some ⟨rfl, fun _ => H⟩)
    · rw [vis_none e2, s_copy2 e e2]
      exact Sp_pos rfl (Sp_some ⟨rfl, fun _ => H⟩)
  · rw [vis_none e, s_copy1 e]
    exact Sp_pos rfl (Sp_some ⟨rfl, fun _ => H⟩)
