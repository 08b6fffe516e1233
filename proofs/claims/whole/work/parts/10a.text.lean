/-! texts: where tokens lie, what they are -/
def rn (P : Nat → Bool) : Nat → Nat → Nat
  | 0, p => p
  | m + 1, p => if P p = true then rn P m (p + 1) else p
theorem rn_s (P : Nat → Bool) (m p : Nat) : rn P (m + 1) p = if P p = true then rn P m (p + 1) else p := rfl
theorem rn_ge (P : Nat → Bool) : ∀ m p, p ≤ rn P m p ∧ rn P m p ≤ p + m := by
  intro m
  induction m with
  | zero => intro p; exact ⟨Nat.le_refl _, Nat.le_refl _⟩
  | succ m ih =>
    intro p
    rw [rn_s]
    split
    · have := ih (p + 1); omega
    · omega
theorem rn_stop (P : Nat → Bool) : ∀ m p, rn P m p < p + m → P (rn P m p) = false := by
  intro m
  induction m with
  | zero => intro p h; exact absurd h (Nat.lt_irrefl _)
  | succ m ih =>
    intro p
    rw [rn_s]
    split
    · intro h; exact ih (p + 1) (by omega)
    · rename_i hp; intro _; exact Bool.eq_false_iff.mpr hp
theorem rn_all (P : Nat → Bool) : ∀ m p i, p ≤ i → i < rn P m p → P i = true := by
  intro m
  induction m with
  | zero => intro p i h1 h2; exact absurd h2 (Nat.not_lt.mpr h1)
  | succ m ih =>
    intro p i h1
    rw [rn_s]
    split
    · rename_i hp
      intro h2
      by_cases e : i = p
      · rw [e]; exact hp
      · exact ih (p + 1) i (by omega) h2
    · intro h2; omega
/-- it stops where it stopped -/
theorem rn_idem (P : Nat → Bool) {m p k : Nat} (h : rn P m p + k ≤ p + m) : rn P k (rn P m p) = rn P m p := by
  cases k with
  | zero => rfl
  | succ k => rw [rn_s, if_neg (by rw [rn_stop P m p (by omega)]; decide)]
def tws (x : Nat) : Bool := decide (x = 32) || decide (x = 10)
def tdg (x : Nat) : Bool := decide (48 ≤ x ∧ x ≤ 57)
def tsm (x : Nat) : Bool := decide (97 ≤ x ∧ x ≤ 122)
def tsg (x : Nat) : Bool := [40, 41, 58, 43, 45, 42, 60, 61, 62, 33].contains x
def qskip (T : qTp) (p : Nat) : Nat := rn (fun i => tws (T.2 i)) (T.1 - p) p
def qend (T : qTp) (q : Nat) : Nat := if tdg (T.2 q) = true then rn (fun i => tdg (T.2 i)) (T.1 - (q + 1)) (q + 1) else if tsm (T.2 q) = true then rn (fun i => tsm (T.2 i)) (T.1 - (q + 1)) (q + 1) else q + 1
def qnum (T : qTp) : Nat → Nat → Nat → Nat
  | 0, _, a => a
  | m + 1, p, a => qnum T m (p + 1) (10 * a + (T.2 p - 48))
/-- the letters of distinct -/
def qis (T : qTp) (q : Nat) : Bool := decide (T.2 q = 100) && (decide (T.2 (q + 1) = 105) && (decide (T.2 (q + 2) = 115) && (decide (T.2 (q + 3) = 116) && (decide (T.2 (q + 4) = 105) && (decide (T.2 (q + 5) = 110) && (decide (T.2 (q + 6) = 99) && decide (T.2 (q + 7) = 116)))))))
def qkd (T : qTp) (q : Nat) : Nat := if q < T.1 then (if tdg (T.2 q) = true then (if 4 < qend T q - q then 4 else 1) else if tsm (T.2 q) = true then (if qend T q - q = 1 then (if T.2 q < 105 then 2 else 4) else if qend T q - q = 8 ∧ qis T q = true then 3 else 4) else if tsg (T.2 q) = true then T.2 q else 4) else 0
def qvl (T : qTp) (q : Nat) : Nat := if tdg (T.2 q) = true then qnum T (qend T q - q) q 0 else T.2 q - 97
def qnt (T : qTp) (q : Nat) : Nat := if q < T.1 then qskip T (qend T q) else T.1
theorem qend_gt {T : qTp} {q : Nat} (hq : q < T.1) : q < qend T q ∧ qend T q ≤ T.1 := by
  unfold qend
  split
  · have := rn_ge (fun i => tdg (T.2 i)) (T.1 - (q + 1)) (q + 1); omega
  · split
    · have := rn_ge (fun i => tsm (T.2 i)) (T.1 - (q + 1)) (q + 1); omega
    · omega
theorem qskip_ge {T : qTp} {p : Nat} (hp : p ≤ T.1) : p ≤ qskip T p ∧ qskip T p ≤ T.1 := by
  have := rn_ge (fun i => tws (T.2 i)) (T.1 - p) p
  unfold qskip; omega
theorem qskip_n {T : qTp} : qskip T T.1 = T.1 := by unfold qskip; rw [Nat.sub_self]; rfl
theorem qnt_gt {T : qTp} {q : Nat} (hq : q < T.1) : q < qnt T q ∧ qnt T q ≤ T.1 := by
  unfold qnt
  rw [if_pos hq]
  have h1 := qend_gt hq
  have h2 := qskip_ge h1.2
  omega
theorem qnt_le {T : qTp} (q : Nat) : qnt T q ≤ T.1 := by
  by_cases hq : q < T.1
  · exact (qnt_gt hq).2
  · unfold qnt; rw [if_neg hq]; exact Nat.le_refl _
/-- no blank where a token begins -/
theorem qskip_ws {T : qTp} {p : Nat} (hp : p ≤ T.1) (h : qskip T p < T.1) : tws (T.2 (qskip T p)) = false := rn_stop (fun i => tws (T.2 i)) (T.1 - p) p (by unfold qskip at h; omega)
theorem qkd_n {T : qTp} {q : Nat} (h : ¬ q < T.1) : qkd T q = 0 := if_neg h
theorem qkd_lt {T : qTp} {q : Nat} (h : ¬ qkd T q = 0) : q < T.1 := Classical.byContradiction fun z => h (qkd_n z)
theorem tsg_le {x : Nat} (h : tsg x = true) : 33 ≤ x ∧ x ≤ 62 := by
  unfold tsg at h
  simp at h
  omega
/-- what the reference holds of a token -/
def RK (h : gH) (k v : Nat) : Prop := (k = 0 → h 65 25 = 0) ∧ (k = 1 → h 65 25 = 2 ∧ h 65 27 = nI v) ∧ (k = 2 → h 65 25 = 1 ∧ h 65 27 = nI v ∧ v < 8) ∧ (k = 3 → h 65 25 = 1 ∧ h 65 27 = 8) ∧ (k = 4 → h 65 25 = 4) ∧ (33 ≤ k → h 65 25 = 3 ∧ h 65 27 = nI k ∧ k ≤ 62)
def RT (h : gH) (T : qTp) (q : Nat) : Prop := q ≤ T.1 ∧ h 65 26 = nI q ∧ RK h (qkd T q) (qvl T q) ∧ ∃ p, p ≤ T.1 ∧ h 65 24 = nI p ∧ (¬ qkd T q = 4 → qskip T p = qnt T q)
/-- of the model nothing has changed but the fields lo to hi -/
def nfr (lo hi : Nat) (h h1 : gH) : Prop := (∀ b, b ≠ 65 → h1 b = h b) ∧ ∀ k, k < lo ∨ hi < k → h1 65 k = h 65 k
theorem nfr_rf (lo hi : Nat) (h : gH) : nfr lo hi h h := ⟨fun _ _ => rfl, fun _ _ => rfl⟩
theorem nfr_tr {lo hi : Nat} {a b c : gH} (h1 : nfr lo hi a b) (h2 : nfr lo hi b c) : nfr lo hi a c := ⟨fun o ho => (h2.1 o ho).trans (h1.1 o ho), fun k hk => (h2.2 k hk).trans (h1.2 k hk)⟩
theorem nfr_hu {lo hi : Nat} (h : gH) {k : Nat} (v : Int32) (h1 : lo ≤ k ∧ k ≤ hi) : nfr lo hi h (hu h 65 k v) := ⟨fun _ ho => hu_ne ho, fun j hj => hu_k _ _ _ _ (by omega)⟩
theorem nfr_w {lo hi lo2 hi2 : Nat} {a b : gH} (h : nfr lo hi a b) (w : lo2 ≤ lo ∧ hi ≤ hi2) : nfr lo2 hi2 a b := ⟨h.1, fun k hk => h.2 k (by omega)⟩
theorem MTp_nfr {lo hi : Nat} {h h1 : gH} {T : qTp} (H : MTp h T) (f : nfr lo hi h h1) (w : 22 < lo) : MTp h1 T := MTp_fr H (f.2 22 (by omega)) (f.1 79 (by omega))
def TpB (T : qTp) : Prop := T.1 ≤ 90 ∧ ∀ i, i < T.1 → T.2 i < 256
theorem byteAt_eq {h : gH} {T : qTp} (H : MTp h T) (B : TpB T) {p : Nat} (hp : p ≤ 100) : fM_byteAt (nI p) h = some (if p < T.1 then nI (T.2 p) else -1, h) := by
  have h1 := B.1
  unfold fM_byteAt
  rw [H.1]
  by_cases q : p < T.1
  · rw [if_pos ((nlt (by omega) (by omega)).mpr q), gg_t (gin_t (by omega) (by omega)), clampn (by omega), H.2 p q, if_pos q]
  · rw [if_neg (nI_nlt (by omega) (by omega)), if_neg q]
theorem in97 {x : Nat} (hx : x < 2 ^ 31) (h : gH) : fM_in (nI x).toInt64 97 122 h = some (b2i (tsm x), h) := by
  rw [fM_in_gen, nI_toInt hx, show (97 : Int64).toInt = 97 by decide, show (122 : Int64).toInt = 122 by decide]
  unfold tsm
  rw [decide_eq_decide.mpr (by omega : ((97 : Int) ≤ x ∧ (x : Int) ≤ 122) ↔ (97 ≤ x ∧ x ≤ 122))]
theorem in48 {x : Nat} (hx : x < 2 ^ 31) (h : gH) : fM_in (nI x).toInt64 48 57 h = some (b2i (tdg x), h) := by
  rw [fM_in_gen, nI_toInt hx, show (48 : Int64).toInt = 48 by decide, show (57 : Int64).toInt = 57 by decide]
  unfold tdg
  rw [decide_eq_decide.mpr (by omega : ((48 : Int) ≤ x ∧ (x : Int) ≤ 57) ↔ (48 ≤ x ∧ x ≤ 57))]
theorem in97m (h : gH) : fM_in (-1 : Int32).toInt64 97 122 h = some (0, h) := by
  rw [fM_in_gen]; rfl
theorem in48m (h : gH) : fM_in (-1 : Int32).toInt64 48 57 h = some (0, h) := by
  rw [fM_in_gen]; rfl
theorem sign_eq {x : Nat} (hx : x < 256) (h : gH) : fM_isSignByte (nI x) h = some (b2i (tsg x), h) := by
  have e : ∀ c : Nat, c < 256 → (nI x = nI c ↔ x = c) := fun c hc => nI_eq (by omega) (by omega)
  unfold fM_isSignByte tsg
  have e40 : (nI x = (40 : Int32)) ↔ x = 40 := e 40 (by omega)
  have e41 : (nI x = (41 : Int32)) ↔ x = 41 := e 41 (by omega)
  have e58 : (nI x = (58 : Int32)) ↔ x = 58 := e 58 (by omega)
  have e43 : (nI x = (43 : Int32)) ↔ x = 43 := e 43 (by omega)
  have e45 : (nI x = (45 : Int32)) ↔ x = 45 := e 45 (by omega)
  have e42 : (nI x = (42 : Int32)) ↔ x = 42 := e 42 (by omega)
  have e60 : (nI x = (60 : Int32)) ↔ x = 60 := e 60 (by omega)
  have e61 : (nI x = (61 : Int32)) ↔ x = 61 := e 61 (by omega)
  have e62 : (nI x = (62 : Int32)) ↔ x = 62 := e 62 (by omega)
  have e33 : (nI x = (33 : Int32)) ↔ x = 33 := e 33 (by omega)
  simp only [e40, e41, e58, e43, e45, e42, e60, e61, e62, e33]
  by_cases c1 : x = 40
  · subst c1; rfl
  by_cases c2 : x = 41
  · subst c2; rfl
  by_cases c3 : x = 58
  · subst c3; rfl
  by_cases c4 : x = 43
  · subst c4; rfl
  by_cases c5 : x = 45
  · subst c5; rfl
  by_cases c6 : x = 42
  · subst c6; rfl
  by_cases c7 : x = 60
  · subst c7; rfl
  by_cases c8 : x = 61
  · subst c8; rfl
  by_cases c9 : x = 62
  · subst c9; rfl
  by_cases c0 : x = 33
  · subst c0; rfl
  rw [if_neg c1, if_neg c2, if_neg c3, if_neg c4, if_neg c5, if_neg c6, if_neg c7, if_neg c8, if_neg c9, if_neg c0]
  have : [40, 41, 58, 43, 45, 42, 60, 61, 62, 33].contains x = false := by simp; omega
  rw [this]; rfl
