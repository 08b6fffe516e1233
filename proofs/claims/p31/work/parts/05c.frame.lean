/-! what a function leaves alone: all but the rows W and the fields F -/
def gfr (W : List Nat) (F : List (Nat × Nat)) (h h1 : gH) : Prop := ∀ b k, b ∉ W → (b, k) ∉ F → h1 b k = h b k
theorem gfr_rf (W : List Nat) (F : List (Nat × Nat)) (h : gH) : gfr W F h h := fun _ _ _ _ => rfl
theorem gfr_tr {W : List Nat} {F : List (Nat × Nat)} {h h1 h2 : gH} (a : gfr W F h h1) (b : gfr W F h1 h2) : gfr W F h h2 := fun o k x y => (b o k x y).trans (a o k x y)
theorem gfr_e {W : List Nat} {F : List (Nat × Nat)} {h h1 h2 : gH} (a : gfr W F h h1) (e : h1 = h2) : gfr W F h h2 := e ▸ a
theorem gfr_f {W : List Nat} {F : List (Nat × Nat)} {h h1 : gH} {o k : Nat} {v : Int32} (a : gfr W F h h1) (m : (o, k) ∈ F) : gfr W F h (hu h1 o k v) := fun b j x y => by
  have e : hu h1 o k v b j = h1 b j := by
    unfold hu
    by_cases hb : b = o
    · rw [if_pos hb]
      by_cases hj : j = k
      · subst hb; subst hj; exact absurd m y
      · rw [if_neg hj]
    · rw [if_neg hb]
  rw [e]; exact a b j x y
theorem gfr_a {W : List Nat} {F : List (Nat × Nat)} {h h1 : gH} {o k : Nat} {v : Int32} (a : gfr W F h h1) (m : o ∈ W) : gfr W F h (hu h1 o k v) := fun b j x y => by
  have hb : b ≠ o := fun e => x (by rw [e]; exact m)
  rw [hu_ne hb]; exact a b j x y
theorem gfr_c {W : List Nat} {F : List (Nat × Nat)} {h h1 : gH} {o sp b dp n : Nat} (a : gfr W F h h1) (m : b ∈ W) : gfr W F h (gcp h1 o sp b dp n) := fun c j x y => by
  have hb : c ≠ b := fun e => x (by rw [e]; exact m)
  rw [gcp_ne hb]; exact a c j x y
theorem gfr_w {W W2 : List Nat} {F F2 : List (Nat × Nat)} {h h1 : gH} (a : gfr W F h h1) (m : ∀ b ∈ W, b ∈ W2) (f : ∀ b ∈ F, b ∈ F2) : gfr W2 F2 h h1 := fun b j x y => a b j (fun q => x (m b q)) (fun q => y (f _ q))
theorem gss_nil {α : Type} {l : List α} : ∀ b ∈ ([] : List α), b ∈ l := fun _ h => by cases h
theorem gss_cons {α : Type} {a : α} {l l2 : List α} (h : a ∈ l2) (t : ∀ b ∈ l, b ∈ l2) : ∀ b ∈ a :: l, b ∈ l2 := fun b hb => by
  rcases List.mem_cons.mp hb with rfl | hb
  · exact h
  · exact t b hb
theorem gme {α : Type} {a : α} {l : List α} (i : Nat) (h : l[i]? = some a) : a ∈ l := List.mem_of_getElem? h
theorem gsm1 {o : Nat} {W : List Nat} (ho : gSheet o) (h0 : 57 ∈ W) (h1 : 59 ∈ W) (h2 : 61 ∈ W) (h3 : 63 ∈ W) : o + 1 ∈ W := by rcases ho with rfl | rfl | rfl | rfl <;> assumption
theorem gsmf {o k : Nat} {F : List (Nat × Nat)} (ho : gSheet o) (h0 : (56, k) ∈ F) (h1 : (58, k) ∈ F) (h2 : (60, k) ∈ F) (h3 : (62, k) ∈ F) : (o, k) ∈ F := by rcases ho with rfl | rfl | rfl | rfl <;> assumption
