/-! the hall as a picture: domains D, queue Q, failed f, trail t, takers tk -/
def b2i (b : Bool) : Int32 := if b then 1 else 0
theorem b2i_0 (b : Bool) : b2i b = 0 ↔ b = false := by cases b <;> decide
theorem b2i_1 (b : Bool) : b2i b = 1 ↔ b = true := by cases b <;> decide
def qany (g : Nat → Bool) : Bool := (List.range 10).any g
theorem qany_iff (g : Nat → Bool) : qany g = true ↔ ∃ v, v < 10 ∧ g v = true := by
  unfold qany; simp [List.any_eq_true]
theorem qany_f (g : Nat → Bool) : qany g = false ↔ ∀ v, v < 10 → g v = false := by
  constructor
  · intro h v hv
    cases hg : g v with
    | false => rfl
    | true => rw [(qany_iff g).mpr ⟨v, hv, hg⟩] at h; cases h
  · intro h
    cases hq : qany g with
    | false => rfl
    | true =>
      obtain ⟨v, hv, hg⟩ := (qany_iff g).mp hq
      rw [h v hv] at hg; cases hg
theorem mkn10_0 (g : Nat → Bool) : mkn 10 g = 0 ↔ qany g = false := by rw [mkn_zero (by omega), qany_f]
theorem qany_congr {f g : Nat → Bool} (h : ∀ v, v < 10 → f v = g v) : qany f = qany g := by
  cases hf : qany g with
  | false => rw [qany_f] at hf ⊢; intro v hv; rw [h v hv]; exact hf v hv
  | true => rw [qany_iff] at hf ⊢; obtain ⟨v, hv, q⟩ := hf; exact ⟨v, hv, by rw [h v hv]; exact q⟩
theorem mem_qent {x : Nat} {rs : Int32} {S : Nat → Bool} : ∀ (m k : Nat) (a : Nat × Int32), a ∈ qent x rs S m k ↔ ∃ v, k ≤ v ∧ v < k + m ∧ S v = true ∧ a = (10 * x + v, rs) := by
  intro m
  induction m with
  | zero => intro k a; simp [qent]; intro v h1 h2; omega
  | succ m ih =>
    intro k a
    rw [qent, List.mem_append, ih]
    constructor
    · rintro (h | ⟨v, h1, h2, h3, h4⟩)
      · by_cases hS : S k = true
        · rw [if_pos hS] at h; simp at h; exact ⟨k, by omega, by omega, hS, h⟩
        · rw [if_neg hS] at h; cases h
      · exact ⟨v, by omega, by omega, h3, h4⟩
    · rintro ⟨v, h1, h2, h3, h4⟩
      by_cases hv : v = k
      · subst hv; left; rw [if_pos h3, h4]; simp
      · right; exact ⟨v, by omega, by omega, h3, h4⟩
theorem nodup_qent {x : Nat} {rs : Int32} {S : Nat → Bool} : ∀ (m k : Nat), ((qent x rs S m k).map Prod.fst).Nodup := by
  intro m
  induction m with
  | zero => intro k; simp [qent]
  | succ m ih =>
    intro k
    rw [qent, List.map_append]
    refine List.nodup_append.mpr ⟨?_, ih (k + 1), ?_⟩
    · by_cases hS : S k = true
      · rw [if_pos hS]; simp
      · rw [if_neg hS]; simp
    · intro a ha b hb e
      subst e
      by_cases hS : S k = true
      · rw [if_pos hS] at ha
        simp only [List.map_cons, List.map_nil, List.mem_singleton] at ha
        obtain ⟨c, hc, e⟩ := List.mem_map.mp hb
        obtain ⟨v, h1, h2, h3, h4⟩ := (mem_qent m (k + 1) c).mp hc
        rw [h4] at e; simp only at e; omega
      · rw [if_neg hS] at ha; cases ha
theorem qent_nil {x : Nat} {rs : Int32} {S : Nat → Bool} : 0 < (qent x rs S 10 0).length ↔ qany S = true := by
  rw [qany_iff]
  constructor
  · intro h
    obtain ⟨a, ha⟩ := List.exists_mem_of_length_pos h
    obtain ⟨v, h1, h2, h3, h4⟩ := (mem_qent 10 0 a).mp ha
    exact ⟨v, by omega, h3⟩
  · rintro ⟨v, hv, hS⟩
    exact List.length_pos_of_mem ((mem_qent 10 0 (10 * x + v, rs)).mpr ⟨v, by omega, by omega, hS, rfl⟩)
/-- as many as there is room for -/
theorem pigeon : ∀ (n : Nat) (l : List Nat), l.Nodup → (∀ a ∈ l, a < n) → l.length ≤ n := by
  intro n
  induction n with
  | zero => intro l _ h; cases l with
    | nil => simp
    | cons a l => exact absurd (h a List.mem_cons_self) (by omega)
  | succ n ih =>
    intro l hl h
    by_cases hm : n ∈ l
    · have h1 := ih (l.erase n) (hl.erase n) (fun a ha => by
        have h2 := h a (List.mem_of_mem_erase ha)
        have h3 : a ≠ n := fun e => by subst e; exact (List.Nodup.not_mem_erase hl) ha
        omega)
      rw [List.length_erase_of_mem hm] at h1
      omega
    · have := ih l hl (fun a ha => by
        have h2 := h a ha
        have h3 : a ≠ n := fun e => by subst e; exact hm ha
        omega)
      omega
/-- the trail tells what is gone, each once -/
def TW (D : Nat → Nat → Bool) (t : qT) : Prop := (∀ a ∈ t, a.1 < 80) ∧ (t.map Prod.fst).Nodup ∧ ∀ x, x < 8 → ∀ v, v < 10 → (D x v = false ↔ 10 * x + v ∈ t.map Prod.fst)
theorem TW.len {D : Nat → Nat → Bool} {t : qT} (h : TW D t) : t.length ≤ 80 := by
  have := pigeon 80 (t.map Prod.fst) h.2.1 (fun a ha => by obtain ⟨b, hb, e⟩ := List.mem_map.mp ha; rw [← e]; exact h.1 b hb)
  simpa using this
/-- x keeps of its domain what is in s -/
def qnar (D : Nat → Nat → Bool) (x : Nat) (s : Nat → Bool) : Nat → Nat → Bool := fun y v => if y = x then D y v && s v else D y v
theorem TW.drop {D : Nat → Nat → Bool} {t : qT} (h : TW D t) {x : Nat} (hx : x < 8) (rs : Int32) (s : Nat → Bool) : TW (qnar D x s) (t ++ qent x rs (fun v => D x v && !s v) 10 0) := by
  refine ⟨fun a ha => ?_, ?_, fun y hy v hv => ?_⟩
  · rcases List.mem_append.mp ha with ha | ha
    · exact h.1 a ha
    · obtain ⟨v, h1, h2, h3, h4⟩ := (mem_qent 10 0 a).mp ha
      rw [h4]; show 10 * x + v < 80; omega
  · rw [List.map_append]
    refine List.nodup_append.mpr ⟨h.2.1, nodup_qent 10 0, fun a ha b hb e => ?_⟩
    subst e
    obtain ⟨c, hc, e⟩ := List.mem_map.mp hb
    obtain ⟨v, h1, h2, h3, h4⟩ := (mem_qent 10 0 c).mp hc
    rw [h4] at e
    simp only at e
    rw [← e] at ha
    have := (h.2.2 x hx v (by omega)).mpr ha
    simp [this] at h3
  · rw [List.map_append, List.mem_append, ← h.2.2 y hy v hv]
    unfold qnar
    by_cases hyx : y = x
    · subst hyx
      rw [if_pos rfl]
      constructor
      · intro q
        cases hD : D y v with
        | false => left; rfl
        | true =>
          right
          rw [hD] at q
          refine List.mem_map.mpr ⟨(10 * y + v, rs), (mem_qent 10 0 _).mpr ⟨v, by omega, by omega, ?_, rfl⟩, rfl⟩
          simp at q; simp [hD, q]
      · rintro (q | q)
        · simp [q]
        · obtain ⟨c, hc, e⟩ := List.mem_map.mp q
          obtain ⟨u, h1, h2, h3, h4⟩ := (mem_qent 10 0 c).mp hc
          rw [h4] at e; simp only at e
          have : u = v := by omega
          subst this
          simp at h3; simp [h3.2]
    · rw [if_neg hyx]
      constructor
      · intro q; left; exact q
      · rintro (q | q)
        · exact q
        · obtain ⟨c, hc, e⟩ := List.mem_map.mp q
          obtain ⟨u, h1, h2, h3, h4⟩ := (mem_qent 10 0 c).mp hc
          rw [h4] at e; simp only at e
          omega
def HX (h : gH) (o : Nat) (D : Nat → Nat → Bool) (Q : Nat → Bool) (f : Bool) (t : qT) (tk : Nat → Bool) : Prop :=
  (∀ x, x < 8 → h (o + 1) x = mkn 10 (D x)) ∧ h (o + 1) 8 = 1 ∧ h o 7 = mkn 24 Q ∧ h o 9 = b2i f ∧ TL h o t ∧ h o 6 = mkn 24 tk ∧ TW D t
/-- the queue behind a change: c: whether there was one; w: who is woken -/
def qwk (Q : Nat → Bool) (f c : Bool) (w : Nat → Bool) : Nat → Bool := fun r => if c then !f && (Q r || w r) else Q r
theorem drop_sp {o : Nat} (ho : gHall o) {x : Nat} (hx : x < 8) {h : gH} {D : Nat → Nat → Bool} {t : qT} (rs : Int32) (s : Nat → Bool) (hD : h (o + 1) x = mkn 10 (D x)) (ht : TL h o t) (hw : TW D t) :
    Sp (fH_drop o (nI x) (mkn 10 (fun v => D x v && !s v)) rs h) (fun h' => h' (o + 1) x = mkn 10 (qnar D x s x) ∧ TL h' o (t ++ qent x rs (fun v => D x v && !s v) 10 0) ∧ (∀ y, y ≠ x → h' (o + 1) y = h (o + 1) y) ∧ h' o 9 = (if h o 9 = 0 ∧ qany (qnar D x s x) = true then 0 else 1)) := by
  have hlen := (hw.drop hx rs s).len
  rw [List.length_append] at hlen
  refine Sp_mono (drop_loop ho hx _ rs 10 0 gfu h (D x) t (by omega) (by unfold gfu; omega) hD ht hlen) ?_
  rintro h' ⟨a1, a2, a3, a4⟩
  have e : mkn 10 (fun v => D x v && !(decide (0 ≤ v) && (D x v && !s v))) = mkn 10 (qnar D x s x) := mkn_congr (fun v _ => by
    unfold qnar; rw [if_pos rfl]; cases D x v <;> cases s v <;> simp)
  refine ⟨a1.trans e, a2, a3, ?_⟩
  rw [a4, a1, e]
  cases hq : qany (qnar D x s x) with
  | false => rw [(mkn10_0 _).mpr hq]; simp
  | true =>
    have : ¬ mkn 10 (qnar D x s x) = 0 := fun z => by rw [mkn10_0, hq] at z; cases z
    simp [this]
theorem narrow_sp {o : Nat} (ho : gHall o) {x : Nat} (hx : x < 8) {h : gH} {D : Nat → Nat → Bool} {Q : Nat → Bool} {f : Bool} {t : qT} {tk hv : Nat → Bool} (s rs : Int32) (H : HX h o D Q f t tk) (hh : h 5 x = mkn 24 hv) :
    Sp (fH_narrow o (nI x) s rs h) (fun p => p.1 = nI (qent x rs (fun v => D x v && !bt s v) 10 0).length ∧
      HX p.2 o (qnar D x (bt s)) (qwk Q (f || !qany (qnar D x (bt s) x)) (qany (fun v => D x v && !bt s v)) (fun r => hv r && tk r)) (f || !qany (qnar D x (bt s) x)) (t ++ qent x rs (fun v => D x v && !bt s v) 10 0) tk) := by
  obtain ⟨h1, h2, h3, h4, h5, h6, h7⟩ := H
  have hgfu : (10 : Nat) < gfu := by unfold gfu; omega
  have ho5 : o ≠ 5 ∧ o + 1 ≠ 5 ∧ o + 3 ≠ 5 ∧ o + 4 ≠ 5 := by rcases ho with rfl | rfl | rfl | rfl <;> omega
  unfold fH_narrow
  refine Sp_gg (gin_t (by omega) (by omega)) ?_
  rw [clampn (by omega), h1 x hx]
  have eS : mkn 10 (D x) &&& (s ^^^ (-1)) = mkn 10 (fun v => D x v && !bt s v) := by
    rw [mkn_andx (by omega)]
    exact mkn_congr (fun i hi => by rw [bt_not _ (by omega)])
  rw [eS]
  refine Sp_bind (drop_sp ho hx rs (bt s) (h1 x hx) h5 h7) ?_
  rintro h' he ⟨a1, a2, a3, a4⟩
  have hfr := fH_drop_fr ho he
  have hw := h7.drop hx rs (bt s)
  have hlen := hw.len
  rw [List.length_append] at hlen
  have e5 : h' o 5 = nI (t.length + (qent x rs (fun v => D x v && !bt s v) 10 0).length) := by rw [a2.1, List.length_append]
  have e7 : h' o 7 = h o 7 := hfr o 7 (by simp) (by simp)
  have e6 : h' o 6 = h o 6 := hfr o 6 (by simp) (by simp)
  have e9 : h' o 9 = b2i (f || !qany (qnar D x (bt s) x)) := by
    rw [a4, h4]
    cases f <;> cases qany (qnar D x (bt s) x) <;> simp [b2i]
  have eD : ∀ y, y < 8 → h' (o + 1) y = mkn 10 (qnar D x (bt s) y) := fun y hy => by
    by_cases hyx : y = x
    · subst hyx; exact a1
    · rw [a3 y hyx, h1 y hy]; exact mkn_congr (fun v _ => by unfold qnar; rw [if_neg hyx])
  have e8 : h' (o + 1) 8 = 1 := by rw [a3 8 (by omega)]; exact h2
  rw [h5.1, e5]
  have hn : nI (t.length + (qent x rs (fun v => D x v && !bt s v) 10 0).length) - nI t.length = nI (qent x rs (fun v => D x v && !bt s v) 10 0).length := by
    rw [nsub (by omega)]; congr 1; omega
  refine Sp_if (fun q => ?_) (fun q => ?_)
  · have hc : qany (fun v => D x v && !bt s v) = true := by
      have q2 := (nlt (by omega) (by omega)).mp q
      exact (qent_nil (x := x) (rs := rs)).mp (by omega)
    refine Sp_gg (gin_t (by omega) (by omega)) ?_
    rw [wake_eq]
    have e5x : h' 5 x = mkn 24 hv := by
      rw [hfr 5 x (by simp; omega) (by simp; omega)]; exact hh
    rw [e5x, e6, h6, e7, h3, e9]
    have eQ : (if b2i (f || !qany (qnar D x (bt s) x)) = 0 then mkn 24 Q ||| (mkn 24 hv &&& mkn 24 tk) else 0) = mkn 24 (qwk Q (f || !qany (qnar D x (bt s) x)) (qany (fun v => D x v && !bt s v)) (fun r => hv r && tk r)) := by
      rw [hc]
      cases hf : (f || !qany (qnar D x (bt s) x)) with
      | false => rw [if_pos (by decide), mkn_and (by omega), mkn_or (by omega)]; exact mkn_congr (fun i _ => by simp [qwk])
      | true => rw [if_neg (by decide)]; rw [mkn_0 24 (by omega)]; exact mkn_congr (fun i _ => by simp [qwk])
    refine Sp_some ?_
    dsimp only
    refine ⟨?_, ?_, ?_, ?_, ?_, ?_, ?_, ?_⟩
    · rw [hu_k _ _ _ _ (by omega), e5]; exact hn
    · intro y hy; rw [hu_o _ _ _ _ _ (by omega)]; exact eD y hy
    · rw [hu_o _ _ _ _ _ (by omega)]; exact e8
    · rw [hu_same]; exact eQ
    · rw [hu_k _ _ _ _ (by omega)]; exact e9
    · exact ⟨by rw [hu_k _ _ _ _ (by omega)]; exact a2.1, fun i a hi => by rw [hu_o _ _ _ _ _ (by omega), hu_o _ _ _ _ _ (by omega)]; exact a2.2 i a hi⟩
    · rw [hu_k _ _ _ _ (by omega), e6]; exact h6
    · exact hw
  · have hc : qany (fun v => D x v && !bt s v) = false := by
      cases hq : qany (fun v => D x v && !bt s v) with
      | false => rfl
      | true =>
        have := (qent_nil (x := x) (rs := rs)).mpr hq
        exact absurd ((nlt (by omega) (by omega)).mpr (by omega)) q
    refine Sp_some ⟨?_, eD, e8, ?_, e9, a2, ?_, hw⟩
    · exact hn
    · show h' o 7 = _; rw [e7, h3]; exact mkn_congr (fun i _ => by rw [hc]; simp [qwk])
    · show h' o 6 = _; rw [e6]; exact h6

