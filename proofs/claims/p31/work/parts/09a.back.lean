/-! taking back along the trail -/
def qtb (D : Nat → Nat → Bool) (t : qT) (c : Nat) : Nat → Nat → Bool := fun x v => D x v || decide (10 * x + v ∈ (t.drop c).map Prod.fst)
theorem qtb_all (D : Nat → Nat → Bool) (t : qT) : qtb D t t.length = D := by
  funext x v; unfold qtb; simp
theorem qtb_step {D : Nat → Nat → Bool} {t : qT} {c : Nat} {a : Nat × Int32} (h : t[c]? = some a) (x v : Nat) : qtb D t c x v = (qtb D t (c + 1) x v || decide (10 * x + v = a.1)) := by
  obtain ⟨hl, e⟩ := List.getElem?_eq_some_iff.mp h
  unfold qtb
  rw [List.drop_eq_getElem_cons hl, e, List.map_cons]
  rw [Bool.eq_iff_iff]
  simp only [Bool.or_eq_true, decide_eq_true_eq, List.mem_cons]
  constructor
  · rintro (h | h | h)
    · exact Or.inl (Or.inl h)
    · exact Or.inr h
    · exact Or.inl (Or.inr h)
  · rintro ((h | h) | h)
    · exact Or.inl h
    · exact Or.inr (Or.inr h)
    · exact Or.inr (Or.inl h)
theorem TW.take {D : Nat → Nat → Bool} {t : qT} (h : TW D t) (c : Nat) : TW (qtb D t c) (t.take c) := by
  have hsplit : t = t.take c ++ t.drop c := (List.take_append_drop c t).symm
  refine ⟨fun a ha => h.1 a (List.mem_of_mem_take ha), ?_, fun x hx v hv => ?_⟩
  · have := h.2.1
    rw [hsplit, List.map_append] at this
    exact (List.nodup_append.mp this).1
  · have hd := h.2.1
    rw [hsplit, List.map_append] at hd
    have hdis := (List.nodup_append.mp hd).2.2
    have hm : (10 * x + v ∈ t.map Prod.fst) ↔ (10 * x + v ∈ (t.take c).map Prod.fst ∨ 10 * x + v ∈ (t.drop c).map Prod.fst) := by
      rw [← List.mem_append, ← List.map_append, ← hsplit]
    have hw := h.2.2 x hx v hv
    rw [hm] at hw
    unfold qtb
    constructor
    · intro q
      simp only [Bool.or_eq_false_iff, decide_eq_false_iff_not] at q
      rcases hw.mp q.1 with z | z
      · exact z
      · exact absurd z q.2
    · intro q
      have h1 := hw.mpr (Or.inl q)
      have h2 : ¬ 10 * x + v ∈ (t.drop c).map Prod.fst := fun z => hdis _ q _ z rfl
      rw [h1, decide_eq_false h2]; rfl
theorem TL_take {h : gH} {o : Nat} {t : qT} {c : Nat} (hc : c ≤ t.length) {h1 : gH} (H : TL h o t) (h5 : h1 o 5 = nI c) (h3 : h1 (o + 3) = h (o + 3)) (h4 : h1 (o + 4) = h (o + 4)) : TL h1 o (t.take c) := by
  refine ⟨by rw [h5, List.length_take, Nat.min_eq_left hc], fun i a hi => ?_⟩
  rw [h3, h4]
  refine H.2 i a ?_
  rw [List.getElem?_take] at hi
  split at hi
  · exact hi
  · cases hi
theorem code_div {c : Nat} (hc : c < 80) : nI c / 10 = nI (c / 10) ∧ nI c - nI c / 10 * 10 = nI (c % 10) := ⟨pk_div (a := c) (d := 10) (by omega) (by omega) (by omega), pk_rem (a := c) (d := 10) (by omega) (by omega) (by omega)⟩
theorem tb_loop {o : Nat} (ho : gHall o) {D : Nat → Nat → Bool} {t : qT} {mk : Nat} (hw : TW D t) (hmk : mk ≤ t.length) {tk : Nat → Bool} : ∀ (m c fu : Nat) (h : gH), c = mk + m → m < fu → c ≤ t.length → (∀ x, x < 8 → h (o + 1) x = mkn 10 (qtb D t c x)) → h (o + 1) 8 = 1 → TL h o t → h o 6 = mkn 24 tk →
    Sp (fH_takeBack_7 o (nI mk) fu (nI c - 1) h) (fun h' => HX h' o (qtb D t mk) qemp false (t.take mk) tk) := by
  have hlen := hw.len
  intro m
  induction m with
  | zero =>
    intro c fu h hc hfu hct hD h8 hL h6
    obtain ⟨fu, rfl⟩ : ∃ f, fu = f + 1 := ⟨fu - 1, by omega⟩
    have hc : c = mk := by omega
    subst hc
    unfold fH_takeBack_7
    have hlt : nI c - 1 < nI c := by
      cases c with
      | zero => decide
      | succ c => rw [nI_pred]; exact (nlt (by omega) (by omega)).mpr (by omega)
    refine Sp_pos hlt (Sp_let (Sp_let (Sp_some ⟨fun x hx => ?_, ?_, ?_, ?_, ?_, ?_, hw.take c⟩)))
    · rw [hu_o _ _ _ _ _ (by omega), hu_o _ _ _ _ _ (by omega), hu_o _ _ _ _ _ (by omega)]; exact hD x hx
    · rw [hu_o _ _ _ _ _ (by omega), hu_o _ _ _ _ _ (by omega), hu_o _ _ _ _ _ (by omega)]; exact h8
    · rw [hu_k _ _ _ _ (by omega), hu_same]; exact mkn_0 24 (by omega)
    · rw [hu_same]; rfl
    · refine TL_take hct hL ?_ ?_ ?_
      · rw [hu_k _ _ _ _ (by omega), hu_k _ _ _ _ (by omega), hu_same]
      · rw [hu_ne (by omega), hu_ne (by omega), hu_ne (by omega)]
      · rw [hu_ne (by omega), hu_ne (by omega), hu_ne (by omega)]
    · rw [hu_k _ _ _ _ (by omega), hu_k _ _ _ _ (by omega), hu_k _ _ _ _ (by omega)]; exact h6
  | succ m ih =>
    intro c fu h hc hfu hct hD h8 hL h6
    obtain ⟨fu, rfl⟩ : ∃ f, fu = f + 1 := ⟨fu - 1, by omega⟩
    obtain ⟨c, rfl⟩ : ∃ d, c = d + 1 := ⟨c - 1, by omega⟩
    unfold fH_takeBack_7
    rw [nI_pred]
    refine Sp_neg (fun z => by have := (nlt (by omega) (by omega)).mp z; omega) (Sp_gg (gin_t (by omega) (by omega)) ?_)
    obtain ⟨a, ha⟩ : ∃ a, t[c]? = some a := ⟨_, List.getElem?_eq_getElem (by omega)⟩
    have hcode := hw.1 a (List.mem_of_getElem? ha)
    have e3 := (hL.2 c a ha).1
    obtain ⟨d1, d2⟩ := code_div hcode
    rw [clampn (by omega), e3, d1]
    refine Sp_gg (gin_t (by omega) (by omega)) (Sp_gg (gin_t (by omega) (by omega)) (Sp_gg (gin_t (by omega) (by omega)) ?_))
    rw [← d1, d2, d1, clampn (by omega), hD (a.1 / 10) (by omega), mkn_ins (by omega) (by omega)]
    refine Sp_let ?_
    have em : nI c + (-1 : Int32) = nI c - 1 := by rw [Int32.sub_eq_add_neg]
    rw [em]
    refine ih c fu _ (by omega) (by omega) (by omega) (fun x hx => ?_) ?_ ?_ ?_
    · by_cases e : x = a.1 / 10
      · subst e
        rw [hu_same]
        refine mkn_congr (fun v hv => ?_)
        rw [qtb_step ha]
        congr 1
        apply decide_eq_decide.mpr; omega
      · rw [hu_k _ _ _ _ e, hD x hx]
        refine mkn_congr (fun v hv => ?_)
        rw [qtb_step ha]
        have : decide (10 * x + v = a.1) = false := decide_eq_false (by omega)
        rw [this, Bool.or_false]
    · rw [hu_k _ _ _ _ (by omega)]; exact h8
    · exact ⟨by rw [hu_o _ _ _ _ _ (by omega)]; exact hL.1, fun i b hi => by rw [hu_o _ _ _ _ _ (by omega), hu_o _ _ _ _ _ (by omega)]; exact hL.2 i b hi⟩
    · rw [hu_o _ _ _ _ _ (by omega)]; exact h6
theorem takeBack_sp {o : Nat} (ho : gHall o) {h : gH} {D : Nat → Nat → Bool} {Q : Nat → Bool} {f : Bool} {t : qT} {tk : Nat → Bool} (H : HX h o D Q f t tk) {mk : Nat} (hmk : mk ≤ t.length) :
    Sp (fH_takeBack o (nI mk) h) (fun h' => HX h' o (qtb D t mk) qemp false (t.take mk) tk) := by
  obtain ⟨h1, h2, h3, h4, h5, h6, h7⟩ := H
  have hlen := h7.len
  unfold fH_takeBack
  rw [h5.1]
  exact tb_loop ho h7 hmk (t.length - mk) t.length gfu h (by omega) (by unfold gfu; omega) (Nat.le_refl _) (fun x hx => by rw [qtb_all]; exact h1 x hx) h2 h5 h6
