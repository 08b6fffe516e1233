/-! .. on the class's side -/
theorem gcp_o (h : gH) (a sp b dp n : Nat) {o : Nat} (ho : o ≠ b) : gcp h a sp b dp n o = h o := funext fun _ => if_neg ho
theorem gcp_in (h : gH) (a b : Nat) {n k : Nat} (hk : k < n) : gcp h a 0 b 0 n b k = h a k := by
  show (if b = b then va_cpy (h a) (h b) 0 0 n k else h b k) = h a k
  rw [if_pos rfl, cpy_at, if_pos ⟨Nat.zero_le _, by omega⟩, show 0 + (k - 0) = k by omega]
theorem gcp_out (h : gH) (a b : Nat) {n k : Nat} (hk : n ≤ k) : gcp h a 0 b 0 n b k = h b k := by
  show (if b = b then va_cpy (h a) (h b) 0 0 n k else h b k) = h b k
  rw [if_pos rfl, cpy_at, if_neg (by omega)]
theorem hbec {o o1 : Nat} (d : o + 4 < o1 ∨ o1 + 4 < o) {h : gH} {f : Bool} (hf : h o1 9 = b2i f) : Sp (fH_become o o1 h) (fun h1 => (∀ x, x < 8 → h1 (o + 1) x = h (o1 + 1) x) ∧ h1 (o + 1) 8 = h (o + 1) 8 ∧ (∀ i, i < 80 → h1 (o + 3) i = h (o1 + 3) i ∧ h1 (o + 4) i = h (o1 + 4) i) ∧ (∀ k, 5 ≤ k → k ≤ 9 → h1 o k = h o1 k) ∧ (∀ k, k < 5 ∨ 9 < k → h1 o k = h o k) ∧ ∀ b, ¬ (o ≤ b ∧ b ≤ o + 4) → h1 b = h b) := by
  unfold fH_become
  rw [show (0 : Int32).toNatClampNeg = 0 from rfl, show (8 : Int32).toNatClampNeg = 8 by decide, show (80 : Int32).toNatClampNeg = 80 by decide]
  refine Sp_let (Sp_let (Sp_let (Sp_let (Sp_let (Sp_let (Sp_let (Sp_gg ?_ (Sp_some ?_))))))))
  · rw [hu_ne (by omega), hu_ne (by omega), hu_ne (by omega), hu_ne (by omega), gcp_o _ _ _ _ _ _ (by omega), gcp_o _ _ _ _ _ _ (by omega), gcp_o _ _ _ _ _ _ (by omega), hf]; exact gbo_b f
  generalize e1 : gcp h (o1 + 1) 0 (o + 1) 0 8 = h1
  generalize e2 : gcp h1 (o1 + 3) 0 (o + 3) 0 80 = h2
  generalize e3 : gcp h2 (o1 + 4) 0 (o + 4) 0 80 = h3
  have a1 : ∀ b, b ≠ o + 1 → h1 b = h b := fun b hb => by rw [← e1]; exact gcp_o _ _ _ _ _ _ hb
  have a2 : ∀ b, b ≠ o + 3 → h2 b = h1 b := fun b hb => by rw [← e2]; exact gcp_o _ _ _ _ _ _ hb
  have a3 : ∀ b, b ≠ o + 4 → h3 b = h2 b := fun b hb => by rw [← e3]; exact gcp_o _ _ _ _ _ _ hb
  have fo : ∀ b, b ≠ o + 1 → b ≠ o + 3 → b ≠ o + 4 → h3 b = h b := fun b b1 b2 b3 => by rw [a3 b b3, a2 b b2, a1 b b1]
  have o1e : h3 o1 = h o1 := fo o1 (by omega) (by omega) (by omega)
  have oe : h3 o = h o := fo o (by omega) (by omega) (by omega)
  refine ⟨fun x hx => ?_, ?_, fun i hi => ⟨?_, ?_⟩, fun k k1 k2 => ?_, fun k hk => ?_, fun b hb => ?_⟩
  · rw [hu_ne (by omega), hu_ne (by omega), hu_ne (by omega), hu_ne (by omega), hu_ne (by omega), a3 _ (by omega), a2 _ (by omega), ← e1]; exact gcp_in _ _ _ hx
  · rw [hu_ne (by omega), hu_ne (by omega), hu_ne (by omega), hu_ne (by omega), hu_ne (by omega), a3 _ (by omega), a2 _ (by omega), ← e1]; exact gcp_out _ _ _ (by omega)
  · rw [hu_ne (by omega), hu_ne (by omega), hu_ne (by omega), hu_ne (by omega), hu_ne (by omega), a3 _ (by omega), ← e2, gcp_in _ _ _ hi, a1 _ (by omega)]
  · rw [hu_ne (by omega), hu_ne (by omega), hu_ne (by omega), hu_ne (by omega), hu_ne (by omega), ← e3, gcp_in _ _ _ hi, a2 _ (by omega), a1 _ (by omega)]
  · have no : o1 ≠ o := by omega
    have w : ∀ (g : gH) (v : Int32) (j : Nat), hu g o j v o1 = g o1 := fun g v j => hu_ne no
    simp only [w, o1e]
    have : k = 5 ∨ k = 6 ∨ k = 7 ∨ k = 8 ∨ k = 9 := by omega
    rcases this with e | e | e | e | e <;> subst e <;> simp [hu_at]
  · rw [hu_k _ _ _ _ (by omega), hu_k _ _ _ _ (by omega), hu_k _ _ _ _ (by omega), hu_k _ _ _ _ (by omega), hu_k _ _ _ _ (by omega), oe]
  · rw [hu_ne (by omega), hu_ne (by omega), hu_ne (by omega), hu_ne (by omega), hu_ne (by omega)]; exact fo b (by omega) (by omega) (by omega)
