/-! the whole state, told apart from both heaps -/
/-- rules of texts: how many, variables, tables, kinds -/
abbrev qR : Type := Nat × (Nat → Nat → Bool) × (Nat → Nat → Nat → Nat → Bool) × (Nat → Nat)
def Et (R : qR) : qE := (R.1, 0, R.2.1, R.2.2.1, fun _ _ => 0, fun r => (vls (R.2.1 r)).length + R.2.2.2 r, fun _ => true)
def rcut (R : qR) (n : Nat) : qR := (n, R.2.1, R.2.2.1, R.2.2.2)
/-- decisions, levels -/
abbrev qD : Type := Nat × (Nat → Nat × Int32)
abbrev qL : Type := Nat × (Nat → Nat) × (Nat → Nat) × (Nat → Nat)
/-- what is taken into an image: picture, decisions, levels, runs -/
abbrev qK : Type := qP × qD × qL × Int32
/-- sheets: sort, size, items; the tape: how long, its bytes -/
abbrev qSh : Type := Nat → Int32 × Nat × (Nat → Int32)
abbrev qTp : Type := Nat × (Nat → Nat)
abbrev qW : Type := qR × qK × Option (Nat × qK) × qTp × qSh
def XDo (h : gH) (p d : Nat) (dec : Nat → Nat × Int32) : Prop := d ≤ 12 ∧ h p 5 = nI d ∧ ∀ i, i < d → h (p + 1) i = nI (dec i).1 ∧ h (p + 2) i = (dec i).2 ∧ (dec i).1 < 8
def XLv (h : gH) (p : Nat) (L : qL) : Prop := h p 6 = nI L.1 ∧ ∀ i, i < L.1 → h (p + 3) i = nI (L.2.1 i) ∧ h (p + 4) i = nI (L.2.2.1 i) ∧ h (p + 5) i = nI (L.2.2.2 i)
def XC (h : gH) (o p : Nat) (E : qE) (K : qK) : Prop := HP h o E K.1 ∧ h o 8 = K.2.2.2 ∧ XDo h p K.2.1.1 K.2.1.2 ∧ XLv h p K.2.2.1
/-- every variable keeps a value, as long as the trail's first c stand -/
def NEt (t : qT) (c : Nat) : Prop := ∀ x, x < 8 → ∃ v, v < 10 ∧ ¬ 10 * x + v ∈ (t.take c).map Prod.fst
def KI (n : Nat) (K : qK) : Prop := (∀ vs T kd, PI (Et (n, vs, T, kd)) K.1) ∧ PT K.1 ∧ K.2.2.1.1 ≤ 8 ∧ (∀ i, i < K.2.2.1.1 → K.2.2.1.2.1 i ≤ K.1.2.2.2.length ∧ K.2.2.1.2.2.1 i ≤ K.2.1.1 ∧ K.2.2.1.2.2.2 i ≤ n ∧ NEt K.1.2.2.2 (K.2.2.1.2.1 i)) ∧ ∀ i j, i ≤ j → j < K.2.2.1.1 → K.2.2.1.2.1 i ≤ K.2.2.1.2.1 j ∧ K.2.2.1.2.2.1 i ≤ K.2.2.1.2.2.1 j
/-- the class's other parts -/
def XRk (h : gH) (R : qR) : Prop := XE h (Et R) ∧ ∀ r, r < R.1 → h 2 r = nI (R.2.2.2 r) ∧ R.2.2.2 r < 3
def XKp (h : gH) (R : qR) (k : Option (Nat × qK)) : Prop := match k with
  | none => h 0 12 = 0
  | some k => h 0 12 = 1 ∧ h 0 11 = nI k.1 ∧ XC h 44 49 (Et (rcut R k.1)) k.2
def XTp (h : gH) (t : qTp) : Prop := h 10 6 = nI t.1 ∧ ∀ i, i < t.1 → h 11 i = nI (t.2 i)
def XSh (h : gH) (s : qSh) : Prop := ∀ i, i < 4 → h (56 + 2 * i) 1 = (s i).1 ∧ h (56 + 2 * i) 2 = nI (s i).2.1 ∧ ∀ j, j < (s i).2.1 → h (57 + 2 * i) j = (s i).2.2 j
def XZ (h : gH) : Prop := h 17 10 = 0 ∧ h 45 8 = 1
/-- the thoughts' and the search's own -/
def XTh (h : gH) : Prop := h 28 10 = 0 ∧ h 33 10 = 0 ∧ h 29 8 = 1 ∧ h 34 8 = 1
/-- what holds of a state by itself -/
def WI (S : qW) : Prop := S.1.1 ≤ 16 ∧ KI S.1.1 S.2.1 ∧ S.2.1.2.1.1 ≤ 12 ∧ (∀ k, S.2.2.1 = some k → k.1 ≤ S.1.1 ∧ KI k.1 k.2 ∧ k.2.2.1.1 ≤ 12) ∧ S.2.2.2.1.1 ≤ 90 ∧ (∀ i, i < S.2.2.2.1.1 → S.2.2.2.1.2 i < 256) ∧ ∀ i, i < 4 → (S.2.2.2.2 i).2.1 ≤ 40 ∧ ((S.2.2.2.2 i).1 = -1 ∧ (S.2.2.2.2 i).2.1 = 0 ∨ (S.2.2.2.2 i).1 = 0 ∨ (S.2.2.2.2 i).1 = 1 ∨ (S.2.2.2.2 i).1 = 2)
/-- the class stands so -/
def AX (h : gH) (S : qW) : Prop := XRk h S.1 ∧ XC h 17 22 (Et S.1) S.2.1 ∧ XKp h S.1 S.2.2.1 ∧ XTp h S.2.2.2.1 ∧ XSh h S.2.2.2.2 ∧ XZ h ∧ XTh h
theorem HX_fr {h h1 : gH} {o : Nat} {D : Nat → Nat → Bool} {Q : Nat → Bool} {f : Bool} {t : qT} {tk : Nat → Bool} (H : HX h o D Q f t tk) (a5 : h1 o 5 = h o 5) (a6 : h1 o 6 = h o 6) (a7 : h1 o 7 = h o 7) (a9 : h1 o 9 = h o 9) (b1 : ∀ x, x < 9 → h1 (o + 1) x = h (o + 1) x) (b3 : h1 (o + 3) = h (o + 3)) (b4 : h1 (o + 4) = h (o + 4)) : HX h1 o D Q f t tk := by
  obtain ⟨h1', h2, h3, h4, h5, h6, h7⟩ := H
  exact ⟨fun x hx => (b1 x (by omega)).trans (h1' x hx), (b1 8 (by omega)).trans h2, a7.trans h3, a9.trans h4, ⟨a5.trans h5.1, fun i a hi => by rw [b3, b4]; exact h5.2 i a hi⟩, a6.trans h6, h7⟩
theorem HP_fr {h h1 : gH} {o : Nat} {E : qE} {P : qP} (H : HP h o E P) (a : ∀ k, h1 o k = h o k) (b : ∀ b, o < b → b ≤ o + 4 → h1 b = h b) : HP h1 o E P := HX_fr H (a 5) (a 6) (a 7) (a 9) (fun x _ => congrFun (b (o + 1) (by omega) (by omega)) x) (b (o + 3) (by omega) (by omega)) (b (o + 4) (by omega) (by omega))
theorem XDo_fr {h h1 : gH} {p d : Nat} {dec : Nat → Nat × Int32} (H : XDo h p d dec) (a : ∀ b, p ≤ b → b ≤ p + 5 → h1 b = h b) : XDo h1 p d dec := ⟨H.1, by rw [a p (by omega) (by omega)]; exact H.2.1, fun i hi => by rw [a (p + 1) (by omega) (by omega), a (p + 2) (by omega) (by omega)]; exact H.2.2 i hi⟩
theorem XLv_fr {h h1 : gH} {p : Nat} {L : qL} (H : XLv h p L) (a : ∀ b, p ≤ b → b ≤ p + 5 → h1 b = h b) : XLv h1 p L := ⟨by rw [a p (by omega) (by omega)]; exact H.1, fun i hi => by rw [a (p + 3) (by omega) (by omega), a (p + 4) (by omega) (by omega), a (p + 5) (by omega) (by omega)]; exact H.2 i hi⟩
theorem XC_fr {h h1 : gH} {o p : Nat} {E : qE} {K : qK} (H : XC h o p E K) (a : ∀ b, o ≤ b → b ≤ o + 4 → h1 b = h b) (b : ∀ b, p ≤ b → b ≤ p + 5 → h1 b = h b) : XC h1 o p E K := ⟨HP_fr H.1 (fun k => congrFun (a o (by omega) (by omega)) k) (fun b h1 h2 => a b (by omega) h2), by rw [a o (by omega) (by omega)]; exact H.2.1, XDo_fr H.2.2.1 b, XLv_fr H.2.2.2 b⟩
theorem XRk_fr {h h1 : gH} {R : qR} (H : XRk h R) (a : ∀ b, 1 ≤ b → b ≤ 8 → h1 b = h b) : XRk h1 R := ⟨XE_fr H.1 (congrFun (a 1 (by omega) (by omega)) 8) (a 3 (by omega) (by omega)) (a 4 (by omega) (by omega)) (a 5 (by omega) (by omega)) (a 6 (by omega) (by omega)) (a 7 (by omega) (by omega)) (a 8 (by omega) (by omega)), fun r hr => by rw [a 2 (by omega) (by omega)]; exact H.2 r hr⟩
theorem XKp_fr {h h1 : gH} {R : qR} {k : Option (Nat × qK)} (H : XKp h R k) (a : h1 0 = h 0) (b : ∀ b, 44 ≤ b → b ≤ 54 → h1 b = h b) : XKp h1 R k := by
  cases k with
  | none => unfold XKp at H ⊢; rw [a]; exact H
  | some k => unfold XKp at H ⊢; rw [a]; exact ⟨H.1, H.2.1, XC_fr H.2.2 (fun c h1 h2 => b c (by omega) (by omega)) (fun c h1 h2 => b c (by omega) (by omega))⟩
theorem XTp_fr {h h1 : gH} {t : qTp} (H : XTp h t) (a : h1 10 6 = h 10 6) (b : h1 11 = h 11) : XTp h1 t := ⟨a.trans H.1, fun i hi => by rw [b]; exact H.2 i hi⟩
theorem XSh_fr {h h1 : gH} {s : qSh} (H : XSh h s) (a : ∀ b, 56 ≤ b → b ≤ 63 → h1 b = h b) : XSh h1 s := fun i hi => by rw [a (56 + 2 * i) (by omega) (by omega), a (57 + 2 * i) (by omega) (by omega)]; exact H i hi
/-- all but what thoughts and the search use -/
theorem AX_fr {h h1 : gH} {S : qW} (H : AX h S) (a : ∀ b, b < 65 → ¬ (27 < b ∧ b < 44) → b ≠ 9 → ¬ (10 ≤ b ∧ b ≤ 16) → b ≠ 64 → h1 b = h b) (c : h1 10 6 = h 10 6) (c2 : h1 11 = h 11) (d : XTh h1) : AX h1 S :=
  ⟨XRk_fr H.1 (fun b _ _ => a b (by omega) (by omega) (by omega) (by omega) (by omega)), XC_fr H.2.1 (fun b _ _ => a b (by omega) (by omega) (by omega) (by omega) (by omega)) (fun b _ _ => a b (by omega) (by omega) (by omega) (by omega) (by omega)), XKp_fr H.2.2.1 (a 0 (by omega) (by omega) (by omega) (by omega) (by omega)) (fun b _ _ => a b (by omega) (by omega) (by omega) (by omega) (by omega)), XTp_fr H.2.2.2.1 c c2, XSh_fr H.2.2.2.2.1 (fun b _ _ => a b (by omega) (by omega) (by omega) (by omega) (by omega)),
    ⟨by rw [a 17 (by omega) (by omega) (by omega) (by omega) (by omega)]; exact H.2.2.2.2.2.1.1, by rw [a 45 (by omega) (by omega) (by omega) (by omega) (by omega)]; exact H.2.2.2.2.2.1.2⟩, d⟩
theorem gfr_fld {W : List Nat} {F : List (Nat × Nat)} {h h1 : gH} (a : gfr W F h h1) (b k : Nat) (w : W.contains b = false) (f : F.contains (b, k) = false) : h1 b k = h b k := a b k (fun z => by rw [List.contains_eq_mem, decide_eq_true z] at w; cases w) (fun z => by rw [List.contains_eq_mem, decide_eq_true z] at f; cases f)

