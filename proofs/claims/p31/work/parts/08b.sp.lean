/-! a function ends, and what it ends with -/
def Sp {α : Type} (o : Option α) (Q : α → Prop) : Prop := ∃ x, o = some x ∧ Q x
theorem Sp_some {α : Type} {x : α} {Q : α → Prop} (h : Q x) : Sp (some x) Q := ⟨x, rfl, h⟩
theorem Sp_mono {α : Type} {o : Option α} {Q R : α → Prop} (h : Sp o Q) (i : ∀ x, Q x → R x) : Sp o R := by
  obtain ⟨x, e, q⟩ := h; exact ⟨x, e, i x q⟩
theorem Sp_gg {α : Type} {c : Bool} {t : Option α} {Q : α → Prop} (hc : c = true) (h : Sp t Q) : Sp (gg c t) Q := by
  unfold gg; rw [if_pos hc]; exact h
theorem Sp_let {α β : Type} {a : α} {f : α → Option β} {Q : β → Prop} (h : Sp (f a) Q) : Sp (glet a f) Q := h
theorem Sp_bind {α β : Type} {o : Option α} {f : α → Option β} {R : α → Prop} {Q : β → Prop} (h : Sp o R) (k : ∀ x, o = some x → R x → Sp (f x) Q) : Sp (o.bind f) Q := by
  obtain ⟨x, e, r⟩ := h
  obtain ⟨y, e2, q⟩ := k x e r
  exact ⟨y, by rw [e]; exact e2, q⟩
theorem Sp_if {α : Type} {c : Prop} [Decidable c] {a b : Option α} {Q : α → Prop} (ha : c → Sp a Q) (hb : ¬ c → Sp b Q) : Sp (if c then a else b) Q := by
  by_cases h : c
  · rw [if_pos h]; exact ha h
  · rw [if_neg h]; exact hb h
theorem Sp_pos {α : Type} {c : Prop} [Decidable c] {a b : Option α} {Q : α → Prop} (h : c) (ha : Sp a Q) : Sp (if c then a else b) Q := by rw [if_pos h]; exact ha
theorem Sp_neg {α : Type} {c : Prop} [Decidable c] {a b : Option α} {Q : α → Prop} (h : ¬ c) (hb : Sp b Q) : Sp (if c then a else b) Q := by rw [if_neg h]; exact hb
theorem Sp_and {α : Type} {o : Option α} {Q R : α → Prop} (h : Sp o Q) (k : ∀ x, o = some x → R x) : Sp o (fun x => Q x ∧ R x) := by
  obtain ⟨x, e, q⟩ := h; exact ⟨x, e, q, k x e⟩
/-! small numbers -/
theorem nlt_l {k c : Nat} (hk : k < 2 ^ 31) (hc : (OfNat.ofNat c : Nat) < 2 ^ 31) : (nI k < (OfNat.ofNat c : Int32)) ↔ k < (OfNat.ofNat c : Nat) := nI_ltI hk hc
theorem nltT {k c : Nat} (h : k < (OfNat.ofNat c : Nat)) (hc : (OfNat.ofNat c : Nat) < 2 ^ 31) : nI k < (OfNat.ofNat c : Int32) := (nlt_l (Nat.lt_trans h hc) hc).mpr h
theorem nlt_r {k c : Nat} (hk : k < 2 ^ 31) (hc : (OfNat.ofNat c : Nat) < 2 ^ 31) : ((OfNat.ofNat c : Int32) < nI k) ↔ (OfNat.ofNat c : Nat) < k := nI_ltI hc hk
theorem nlt {a b : Nat} (ha : a < 2 ^ 31) (hb : b < 2 ^ 31) : (nI a < nI b) ↔ a < b := nI_ltI ha hb
theorem neq_l {k c : Nat} (hk : k < 2 ^ 31) (hc : (OfNat.ofNat c : Nat) < 2 ^ 31) : (nI k = (OfNat.ofNat c : Int32)) ↔ k = (OfNat.ofNat c : Nat) := nI_eq hk hc
theorem neq_m1 {k : Nat} (hk : k < 2 ^ 31) : ¬ nI k = (-1 : Int32) := by
  intro h
  have h2 : (nI k).toInt = (-1 : Int32).toInt := by rw [h]
  rw [nI_toInt hk] at h2
  have h3 : (-1 : Int32).toInt = -1 := by decide
  omega
theorem nadd_l (k c : Nat) : nI k + (OfNat.ofNat c : Int32) = nI (k + (OfNat.ofNat c : Nat)) := nI_add k c
theorem nadd_r (k c : Nat) : (OfNat.ofNat c : Int32) + nI k = nI ((OfNat.ofNat c : Nat) + k) := nI_add c k
theorem nsub {a b : Nat} (h : b ≤ a) : nI a - nI b = nI (a - b) := by
  have e : nI a = nI (a - b) + nI b := by rw [nI_add, Nat.sub_add_cancel h]
  rw [e, Int32.add_sub_cancel]
theorem nsub_l {a c : Nat} (h : (OfNat.ofNat c : Nat) ≤ a) : nI a - (OfNat.ofNat c : Int32) = nI (a - (OfNat.ofNat c : Nat)) := nsub h
theorem nmul (a b : Nat) : nI a * nI b = nI (a * b) := by
  unfold nI; rw [Int32.ofNat_mul]
theorem nmul_l (a c : Nat) : nI a * (OfNat.ofNat c : Int32) = nI (a * (OfNat.ofNat c : Nat)) := nmul a c
theorem gin_n {k n : Nat} (hk : k < 2 ^ 31) : gin (nI k) n = decide (k < n) := by
  unfold gin
  apply decide_eq_decide.mpr
  rw [nI_clamp hk]
  have h1 : ¬ nI k < 0 := nI_pos hk
  constructor
  · intro h; have := fun q => h (Or.inr q); omega
  · intro h q; rcases q with q | q
    · exact h1 q
    · omega
theorem gin_t {k n : Nat} (hk : k < n) (hn : n < 2 ^ 31) : gin (nI k) n = true := by rw [gin_n (by omega)]; exact decide_eq_true hk
theorem clampn {k : Nat} (h : k < 2 ^ 31) : (nI k).toNatClampNeg = k := nI_clamp h
/-- the heap, read behind a write -/
theorem hu_at (h : gH) (o k : Nat) (v : Int32) (a b : Nat) : hu h o k v a b = if a = o then (if b = k then v else h a b) else h a b := rfl
theorem hu_same (h : gH) (o k : Nat) (v : Int32) : hu h o k v o k = v := by simp [hu]
theorem hu_k (h : gH) (o k : Nat) (v : Int32) {b : Nat} (hb : b ≠ k) : hu h o k v o b = h o b := by simp [hu, hb]
theorem hu_o (h : gH) (o k : Nat) (v : Int32) {a : Nat} (b : Nat) (ha : a ≠ o) : hu h o k v a b = h a b := by simp [hu, ha]

