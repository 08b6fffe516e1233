/-! .. on the class's side -/
theorem gcp_o (h : gH) (a sp b dp n : Nat) {o : Nat} (ho : o ≠ b) : gcp h a sp b dp n o = h o := funext fun _ => if_neg ho
theorem gcp_in (h : gH) (a b : Nat) {n k : Nat} (hk : k < n) : gcp h a 0 b 0 n b k = h a k := by
  show (if b = b then va_cpy (h a) (h b) 0 0 n k else h b k) = h a k
  rw [if_pos rfl, cpy_at, if_pos ⟨Nat.zero_le _, by omega⟩, show 0 + (k - 0) = k by omega]
theorem gcp_out (h : gH) (a b : Nat) {n k : Nat} (hk : n ≤ k) : gcp h a 0 b 0 n b k = h b k := by
  show (if b = b then va_cpy (h a) (h b) 0 0 n k else h b k) = h b k
  rw [if_pos rfl, cpy_at, if_neg (by omega)]
theorem hbec {o o1 : Nat} (d : o + 4 < o1 ∨ o1 + 4 < o) {h : gH} {f : Bool} (hf : h o1 9 = b2i f) : Sp (fH_become o o1 h) (fun h1 => (∀ x, x < 8 → h1 (o + 1) x = h (o1 + 1) x) ∧ h1 (o + 1) 8 = h (o + 1) 8 ∧ (∀ i, i < 80 → h1 (o + 3) i = h (o1 + 3) i ∧ h1 (o + 4) i = h (o1 + 4) i) ∧ (∀ k, 5 ≤ k → k ≤ 9 → h1 o k = h o1 k) ∧ (∀ k, k < 5 ∨ 9 < k → h1 o k = h o k) ∧ ∀ b, ¬ (o ≤ b ∧ b ≤ o + 4) → h1 b = h b) := by
  unfold fH_become
  rw [show (0 : Int32).toNatClampNeg = 0 from rfl, show (8 : Int32).toNatClampNeg = 8 by decide, show (80 : Int32).toNatClampNeg = 80 by decide]
  refine Sp_let (Sp_let (Sp_let (Sp_let (Sp_let (Sp_let (Sp_let (Sp_gg ?_ (Sp_some ?_))))))))
  · rw [hu_ne (by omega), hu_ne (by omega), hu_ne (by omega), hu_ne (by omega), gcp_o _ _ _ _ _ _ (by omega), gcp_o _ _ _ _ _ _ (by omega), gcp_o _ _ _ _ _ _ (by omega), hf]; exact gbo_b f
  generalize e1 : gcp h (o1 + 1) 0 (o + 1) 0 8 = h1
  generalize e2 : gcp h1 (o1 + 3) 0 (o + 3) 0 80 = h2
  generalize e3 : gcp h2 (o1 + 4) 0 (o + 4) 0 80 = h3
  have a1 : ∀ b, b ≠ o + 1 → h1 b = h b := fun b hb => by rw [← e1]; exact gcp_o _ _ _ _ _ _ hb
  have a2 : ∀ b, b ≠ o + 3 → h2 b = h1 b := fun b hb => by rw [← e2]; exact gcp_o _ _ _ _ _ _ hb
  have a3 : ∀ b, b ≠ o + 4 → h3 b = h2 b := fun b hb => by rw [← e3]; exact gcp_o _ _ _ _ _ _ hb
  have fo : ∀ b, b ≠ o + 1 → b ≠ o + 3 → b ≠ o + 4 → h3 b = h b := fun b b1 b2 b3 => by rw [a3 b b3, a2 b b2, a1 b b1]
  have o1e : h3 o1 = h o1 := fo o1 (by omega) (by omega) (by omega)
  have oe : h3 o = h o := fo o (by omega) (by omega) (by omega)
  refine ⟨fun x hx => ?_, ?_, fun i hi => ⟨?_, ?_⟩, fun k k1 k2 => ?_, fun k hk => ?_, fun b hb => ?_⟩
  · rw [hu_ne (by omega), hu_ne (by omega), hu_ne (by omega), hu_ne (by omega), hu_ne (by omega), a3 _ (by omega), a2 _ (by omega), ← e1]; exact gcp_in _ _ _ hx
  · rw [hu_ne (by omega), hu_ne (by omega), hu_ne (by omega), hu_ne (by omega), hu_ne (by omega), a3 _ (by omega), a2 _ (by omega), ← e1]; exact gcp_out _ _ _ (by omega)
  · rw [hu_ne (by omega), hu_ne (by omega), hu_ne (by omega), hu_ne (by omega), hu_ne (by omega), a3 _ (by omega), ← e2, gcp_in _ _ _ hi, a1 _ (by omega)]
  · rw [hu_ne (by omega), hu_ne (by omega), hu_ne (by omega), hu_ne (by omega), hu_ne (by omega), ← e3, gcp_in _ _ _ hi, a2 _ (by omega), a1 _ (by omega)]
  · have no : o1 ≠ o := by omega
    have w : ∀ (g : gH) (v : Int32) (j : Nat), hu g o j v o1 = g o1 := fun g v j => hu_ne no
    simp only [w, o1e]
    have : k = 5 ∨ k = 6 ∨ k = 7 ∨ k = 8 ∨ k = 9 := by omega
    rcases this with e | e | e | e | e <;> subst e <;> simp [hu_at]
  · rw [hu_k _ _ _ _ (by omega), hu_k _ _ _ _ (by omega), hu_k _ _ _ _ (by omega), hu_k _ _ _ _ (by omega), hu_k _ _ _ _ (by omega), oe]
  · rw [hu_ne (by omega), hu_ne (by omega), hu_ne (by omega), hu_ne (by omega), hu_ne (by omega)]; exact fo b (by omega) (by omega) (by omega)
theorem pbec {o o1 : Nat} (d : o + 5 < o1 ∨ o1 + 5 < o) (h : gH) : Sp (fP_become o o1 h) (fun h1 => (∀ i, i < 12 → h1 (o + 1) i = h (o1 + 1) i ∧ h1 (o + 2) i = h (o1 + 2) i) ∧ (∀ i, i < 8 → h1 (o + 3) i = h (o1 + 3) i ∧ h1 (o + 4) i = h (o1 + 4) i ∧ h1 (o + 5) i = h (o1 + 5) i) ∧ h1 o 5 = h o1 5 ∧ h1 o 6 = h o1 6 ∧ ∀ b, ¬ (o ≤ b ∧ b ≤ o + 5) → h1 b = h b) := by
  unfold fP_become
  rw [show (0 : Int32).toNatClampNeg = 0 from rfl, show (8 : Int32).toNatClampNeg = 8 by decide, show (12 : Int32).toNatClampNeg = 12 by decide]
  refine Sp_let (Sp_let (Sp_let (Sp_let (Sp_let (Sp_let (Sp_some ?_))))))
  generalize e1 : gcp h (o1 + 1) 0 (o + 1) 0 12 = h1
  generalize e2 : gcp h1 (o1 + 2) 0 (o + 2) 0 12 = h2
  generalize e3 : gcp h2 (o1 + 3) 0 (o + 3) 0 8 = h3
  generalize e4 : gcp h3 (o1 + 4) 0 (o + 4) 0 8 = h4
  generalize e5 : gcp h4 (o1 + 5) 0 (o + 5) 0 8 = h5
  have a1 : ∀ b, b ≠ o + 1 → h1 b = h b := fun b hb => by rw [← e1]; exact gcp_o _ _ _ _ _ _ hb
  have a2 : ∀ b, b ≠ o + 2 → h2 b = h1 b := fun b hb => by rw [← e2]; exact gcp_o _ _ _ _ _ _ hb
  have a3 : ∀ b, b ≠ o + 3 → h3 b = h2 b := fun b hb => by rw [← e3]; exact gcp_o _ _ _ _ _ _ hb
  have a4 : ∀ b, b ≠ o + 4 → h4 b = h3 b := fun b hb => by rw [← e4]; exact gcp_o _ _ _ _ _ _ hb
  have a5 : ∀ b, b ≠ o + 5 → h5 b = h4 b := fun b hb => by rw [← e5]; exact gcp_o _ _ _ _ _ _ hb
  have fo : ∀ b, ¬ (o + 1 ≤ b ∧ b ≤ o + 5) → h5 b = h b := fun b hb => by rw [a5 b (by omega), a4 b (by omega), a3 b (by omega), a2 b (by omega), a1 b (by omega)]
  have o1e : h5 o1 = h o1 := fo o1 (by omega)
  refine ⟨fun i hi => ⟨?_, ?_⟩, fun i hi => ⟨?_, ?_, ?_⟩, ?_, ?_, fun b hb => ?_⟩
  · rw [hu_ne (by omega), hu_ne (by omega), a5 _ (by omega), a4 _ (by omega), a3 _ (by omega), a2 _ (by omega), ← e1]; exact gcp_in _ _ _ hi
  · rw [hu_ne (by omega), hu_ne (by omega), a5 _ (by omega), a4 _ (by omega), a3 _ (by omega), ← e2, gcp_in _ _ _ hi, a1 _ (by omega)]
  · rw [hu_ne (by omega), hu_ne (by omega), a5 _ (by omega), a4 _ (by omega), ← e3, gcp_in _ _ _ hi, a2 _ (by omega), a1 _ (by omega)]
  · rw [hu_ne (by omega), hu_ne (by omega), a5 _ (by omega), ← e4, gcp_in _ _ _ hi, a3 _ (by omega), a2 _ (by omega), a1 _ (by omega)]
  · rw [hu_ne (by omega), hu_ne (by omega), ← e5, gcp_in _ _ _ hi, a4 _ (by omega), a3 _ (by omega), a2 _ (by omega), a1 _ (by omega)]
  · rw [hu_k _ _ _ _ (by decide), hu_same, o1e]
  · rw [hu_same, hu_ne (by omega), o1e]
  · rw [hu_ne (by omega), hu_ne (by omega)]; exact fo b (by omega)
/-- a core, laid over another -/
theorem XC_copy {h h1 h2 : gH} {E : qE} {K : qK} {o o1 p p1 : Nat} (H : XC h o1 p1 E K) (hl : K.2.2.1.1 ≤ 8) (s8 : h (o + 1) 8 = 1) (dp : ∀ b, p ≤ b → b ≤ p + 5 → ¬ (o ≤ b ∧ b ≤ o + 4)) (dp1 : ∀ b, p1 ≤ b → b ≤ p1 + 5 → ¬ (o ≤ b ∧ b ≤ o + 4))
    (q1 : (∀ x, x < 8 → h1 (o + 1) x = h (o1 + 1) x) ∧ h1 (o + 1) 8 = h (o + 1) 8 ∧ (∀ i, i < 80 → h1 (o + 3) i = h (o1 + 3) i ∧ h1 (o + 4) i = h (o1 + 4) i) ∧ (∀ k, 5 ≤ k → k ≤ 9 → h1 o k = h o1 k) ∧ (∀ k, k < 5 ∨ 9 < k → h1 o k = h o k) ∧ ∀ b, ¬ (o ≤ b ∧ b ≤ o + 4) → h1 b = h b)
    (q2 : (∀ i, i < 12 → h2 (p + 1) i = h1 (p1 + 1) i ∧ h2 (p + 2) i = h1 (p1 + 2) i) ∧ (∀ i, i < 8 → h2 (p + 3) i = h1 (p1 + 3) i ∧ h2 (p + 4) i = h1 (p1 + 4) i ∧ h2 (p + 5) i = h1 (p1 + 5) i) ∧ h2 p 5 = h1 p1 5 ∧ h2 p 6 = h1 p1 6 ∧ ∀ b, ¬ (p ≤ b ∧ b ≤ p + 5) → h2 b = h1 b)
    (dq : ∀ b, o ≤ b → b ≤ o + 4 → ¬ (p ≤ b ∧ b ≤ p + 5)) : XC h2 o p E K := by
  obtain ⟨⟨x1, x2, x3, x4, x5, x6, x7⟩, y, z, w⟩ := H
  obtain ⟨r1, r2, r3, r4, r5, r6⟩ := q1
  obtain ⟨t1, t2, t3, t4, t5⟩ := q2
  have g : ∀ b, o ≤ b → b ≤ o + 4 → h2 b = h1 b := fun b b1 b2 => t5 b (dq b b1 b2)
  have f : ∀ b, p1 ≤ b → b ≤ p1 + 5 → h1 b = h b := fun b b1 b2 => r6 b (dp1 b b1 b2)
  refine ⟨⟨fun x hx => ?_, ?_, ?_, ?_, ⟨?_, fun i a hi => ?_⟩, ?_, x7⟩, ?_, ⟨z.1, ?_, fun i hi => ?_⟩, ?_, fun i hi => ?_⟩
  · rw [g _ (by omega) (by omega), r1 x hx]; exact x1 x hx
  · rw [g _ (by omega) (by omega), r2]; exact s8
  · rw [g _ (by omega) (by omega), r4 7 (by omega) (by omega)]; exact x3
  · rw [g _ (by omega) (by omega), r4 9 (by omega) (by omega)]; exact x4
  · rw [g _ (by omega) (by omega), r4 5 (by omega) (by omega)]; exact x5.1
  · have hi2 : i < K.1.2.2.2.length := by
      by_cases q : i < K.1.2.2.2.length
      · exact q
      · rw [List.getElem?_eq_none (by omega)] at hi; cases hi
    have := x7.len
    rw [g _ (by omega) (by omega), g _ (by omega) (by omega), (r3 i (by omega)).1, (r3 i (by omega)).2]
    exact x5.2 i a hi
  · rw [g _ (by omega) (by omega), r4 6 (by omega) (by omega)]; exact x6
  · rw [g _ (by omega) (by omega), r4 8 (by omega) (by omega)]; exact y
  · rw [t3, f _ (by omega) (by omega)]; exact z.2.1
  · have := z.1
    rw [(t1 i (by omega)).1, (t1 i (by omega)).2, f _ (by omega) (by omega), f _ (by omega) (by omega)]; exact z.2.2 i hi
  · rw [t4, f _ (by omega) (by omega)]; exact w.1
  · rw [(t2 i (by omega)).1, (t2 i (by omega)).2.1, (t2 i (by omega)).2.2, f _ (by omega) (by omega), f _ (by omega) (by omega), f _ (by omega) (by omega)]; exact w.2 i hi
theorem X_image {h : gH} {S : qW} (H : AX h S) (W : WI S) : Sp (fX_image h) (fun p => p.1 = (s_image S).1 ∧ AX p.2 (s_image S).2) := by
  unfold fX_image
  have h9 : h 17 9 = b2i S.2.1.1.2.2.1 := H.2.1.1.2.2.2.1
  refine Sp_bind (hbec (o := 44) (o1 := 17) (by omega) h9) (fun h1 _ q1 => Sp_bind (pbec (o := 49) (o1 := 22) (by omega) h1) (fun h2 _ q2 => Sp_let (Sp_let (Sp_some ?_))))
  have C2 := XC_copy (p := 49) (p1 := 22) H.2.1 W.2.1.2.2.1 H.2.2.2.2.2.1.2 (by omega) (by omega) q1 q2 (by omega)
  obtain ⟨-, r2, -, -, -, r6⟩ := q1
  obtain ⟨-, -, -, -, t5⟩ := q2
  have fr : ∀ b, ¬ (44 ≤ b ∧ b ≤ 54) → h2 b = h b := fun b hb => by rw [t5 b (by omega), r6 b (by omega)]
  have fr4 : ∀ b, ¬ (44 ≤ b ∧ b ≤ 54) → b ≠ 0 → hu (hu h2 0 11 (h2 1 8)) 0 12 1 b = h b := fun b hb b0 => by rw [hu_ne b0, hu_ne b0, fr b hb]
  have fk : ∀ b, b ≠ 0 → hu (hu h2 0 11 (h2 1 8)) 0 12 1 b = h2 b := fun b b0 => by rw [hu_ne b0, hu_ne b0]
  show _ ∧ AX (hu (hu h2 0 11 (h2 1 8)) 0 12 1) _
  refine ⟨?_, XRk_fr H.1 (fun b _ _ => fr4 b (by omega) (by omega)), XC_fr H.2.1 (fun b _ _ => fr4 b (by omega) (by omega)) (fun b _ _ => fr4 b (by omega) (by omega)), ⟨hu_same _ _ _ _, ?_, XC_fr C2 (fun b _ _ => fk b (by omega)) (fun b _ _ => fk b (by omega))⟩, XTp_fr H.2.2.2.1 (by rw [fr4 10 (by omega) (by omega)]) (fr4 11 (by omega) (by omega)), XSh_fr H.2.2.2.2.1 (fun b _ _ => fr4 b (by omega) (by omega)), ⟨?_, ?_⟩, ?_⟩
  · dsimp only
    rw [fr4 17 (by omega) (by omega)]; exact H.2.1.1.2.2.2.2.1.1
  · rw [hu_k _ _ _ _ (by decide), hu_same, fr 1 (by omega)]; exact H.1.1.2.2.1
  · rw [fr4 17 (by omega) (by omega)]; exact H.2.2.2.2.2.1.1
  · rw [fk 45 (by omega), t5 45 (by omega), r2]; exact H.2.2.2.2.2.1.2
  · have := H.2.2.2.2.2.2; unfold XTh at this ⊢; rw [fr4 28 (by omega) (by omega), fr4 33 (by omega) (by omega), fr4 29 (by omega) (by omega), fr4 34 (by omega) (by omega)]; exact this
def s_back (S : qW) : Int32 × qW := match S.2.2.1 with
  | none => (-3, S)
  | some k => (nI k.2.1.2.2.2.length, (rcut S.1 k.1, k.2, some k, S.2.2.2))
theorem s_back1 {S : qW} (e : S.2.2.1 = none) : s_back S = (-3, S) := by unfold s_back; rw [e]
theorem s_back2 {S : qW} {k : Nat × qK} (e : S.2.2.1 = some k) : s_back S = (nI k.2.1.2.2.2.length, (rcut S.1 k.1, k.2, some k, S.2.2.2)) := by unfold s_back; rw [e]
theorem W_back {S : qW} (H : WI S) : WI (s_back S).2 := by
  cases e : S.2.2.1 with
  | none => rw [s_back1 e]; exact H
  | some k =>
    rw [s_back2 e]
    obtain ⟨k1, k2, k3⟩ := H.2.2.2.1 k e
    exact ⟨Nat.le_trans k1 H.1, k2, k3, fun k' e' => by have e' : some k = some k' := e'; rw [← Option.some.inj e']; exact ⟨Nat.le_refl _, k2, k3⟩, H.2.2.2.2⟩
theorem XE_cut {h h1 : gH} {R : qR} {n : Nat} (hn : n ≤ R.1) (H : XE h (Et R)) (h18 : h1 1 8 = nI n) (a : ∀ b, 3 ≤ b → b ≤ 8 → h1 b = h b) : XE h1 (Et (rcut R n)) := by
  obtain ⟨a1, a2, a3, a4, a5, a6, a7⟩ := H
  have a1 : R.1 ≤ 16 := a1
  have act : ∀ r, Eact (Et (rcut R n)) r = true → Eact (Et R) r = true := fun r hr => by
    rw [Eact_Et] at hr ⊢
    have hr := of_decide_eq_true hr
    have hr : r < n := hr
    exact decide_eq_true (by omega)
  refine ⟨Nat.le_trans hn a1, a2, h18, fun r hr => ?_, fun j hj => absurd hj (Nat.not_lt_zero _), fun r hr => by rw [a 4 (by omega) (by omega)]; exact a6 r (act r hr), fun x hx => ?_⟩
  · have hr : r < n := hr
    have := a4 r (show r < R.1 by omega)
    unfold XRr at this ⊢
    rw [a 3 (by omega) (by omega), a 6 (by omega) (by omega), a 7 (by omega) (by omega)]
    exact this
  · rw [a 5 (by omega) (by omega)]
    exact ⟨(a7 x hx).1, fun r hr => (a7 x hx).2 r (act r hr)⟩
theorem X_back {h : gH} {S : qW} (H : AX h S) (W : WI S) : Sp (fX_back h) (fun p => p.1 = (s_back S).1 ∧ AX p.2 (s_back S).2) := by
  unfold fX_back
  have Hk := H.2.2.1
  cases e : S.2.2.1 with
  | none =>
    rw [e] at Hk
    rw [s_back1 e]
    exact Sp_pos Hk (Sp_some ⟨rfl, H⟩)
  | some k =>
    rw [e] at Hk
    rw [s_back2 e]
    obtain ⟨k1, k2, k3⟩ := W.2.2.2.1 k e
    obtain ⟨c1, c2, C⟩ := Hk
    have h9 : h 44 9 = b2i k.2.1.2.2.1 := C.1.2.2.2.1
    refine Sp_neg (by rw [c1]; decide) (Sp_bind (hbec (o := 17) (o1 := 44) (by omega) h9) (fun h1 _ q1 => Sp_bind (pbec (o := 22) (o1 := 49) (by omega) h1) (fun h2 _ q2 => Sp_let (Sp_some ?_))))
    have C2 := XC_copy (p := 22) (p1 := 49) C k2.2.2.1 H.2.1.1.2.1 (by omega) (by omega) q1 q2 (by omega)
    obtain ⟨-, r2, -, r4, r5, r6⟩ := q1
    obtain ⟨-, -, -, -, t5⟩ := q2
    have fr : ∀ b, ¬ (17 ≤ b ∧ b ≤ 27) → h2 b = h b := fun b hb => by rw [t5 b (by omega), r6 b (by omega)]
    have fr4 : ∀ b, ¬ (17 ≤ b ∧ b ≤ 27) → b ≠ 1 → hu h2 1 8 (h2 0 11) b = h b := fun b hb b0 => by rw [hu_ne b0, fr b hb]
    have fk : ∀ b, b ≠ 1 → hu h2 1 8 (h2 0 11) b = h2 b := fun b b0 => hu_ne b0
    show _ ∧ AX (hu h2 1 8 (h2 0 11)) _
    refine ⟨?_, ⟨XE_cut k1 H.1.1 ?_ (fun b _ _ => fr4 b (by omega) (by omega)), fun r hr => ?_⟩, XC_fr C2 (fun b _ _ => fk b (by omega)) (fun b _ _ => fk b (by omega)), ⟨?_, ?_, XC_fr C (fun b _ _ => fr4 b (by omega) (by omega)) (fun b _ _ => fr4 b (by omega) (by omega))⟩, XTp_fr H.2.2.2.1 (by rw [fr4 10 (by omega) (by omega)]) (fr4 11 (by omega) (by omega)), XSh_fr H.2.2.2.2.1 (fun b _ _ => fr4 b (by omega) (by omega)), ⟨?_, ?_⟩, ?_⟩
    · dsimp only
      rw [fk 17 (by omega), t5 17 (by omega), r4 5 (by omega) (by omega)]; exact C.1.2.2.2.2.1.1
    · rw [hu_same, fr 0 (by omega)]; exact c2
    · have hr : r < k.1 := hr
      rw [fr4 2 (by omega) (by omega)]; exact H.1.2 r (by omega)
    · rw [fr4 0 (by omega) (by omega)]; exact c1
    · rw [fr4 0 (by omega) (by omega)]; exact c2
    · rw [fk 17 (by omega), t5 17 (by omega), r5 10 (by omega)]; exact H.2.2.2.2.2.1.1
    · rw [fr4 45 (by omega) (by omega)]; exact H.2.2.2.2.2.1.2
    · have := H.2.2.2.2.2.2; unfold XTh at this ⊢; rw [fr4 28 (by omega) (by omega), fr4 33 (by omega) (by omega), fr4 29 (by omega) (by omega), fr4 34 (by omega) (by omega)]; exact this
