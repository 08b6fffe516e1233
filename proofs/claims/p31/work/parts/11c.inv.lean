/-! what holds along a search -/
theorem qiter_sub {E : qE} {P : qP} (k : Nat) (hI : PI E P) (hT : PT P) : qsub (qiter E k P).1 P.1 := by
  refine iter_ind (E := E) (fun P' => qsub P'.1 P.1) (fun P' r hI' hT' hr hQ C => ?_) k P hI hT (fun u _ v _ h => h)
  intro u hu v hv h
  exact C u hu v hv ((fold_D (vls (Ev E r)) (vls_nodup _) (P'.1, false, P'.2.2.2, fun _ => false) rfl).2.2.1 u v h)
theorem qcnt_one {D : Nat → Bool} {v : Nat} (hd : D v = true) (hu : ∀ w, w < 10 → D w = true → w = v) (hv : v < 10) : qcnt D 10 = 1 := by
  have : ∀ n, n ≤ 10 → qcnt D n = if v < n then 1 else 0 := by
    intro n
    induction n with
    | zero => intro _; rfl
    | succ n ih =>
      intro hn
      show qcnt D n + (if D n then 1 else 0) = _
      rw [ih (by omega)]
      by_cases e : n = v
      · subst e
        rw [hd, if_neg (Nat.lt_irrefl _), if_pos rfl, if_pos (Nat.lt_succ_self _)]
      · have : D n = false := by
          cases c : D n
          · rfl
          · exact absurd (hu n (by omega) c) e
        rw [this]
        by_cases e2 : v < n
        · rw [if_pos e2, if_pos (show v < n + 1 by omega)]; rfl
        · rw [if_neg e2, if_neg (show ¬ v < n + 1 by omega)]; rfl
  rw [this 10 (Nat.le_refl _), if_pos hv]
/-- an unsettled variable has another value -/
theorem qcnt_two {D : Nat → Bool} (h : qany D = true) (h1 : ¬ qcnt D 10 = 1) (v : Nat) : ∃ w, w < 10 ∧ D w = true ∧ w ≠ v := by
  refine Classical.byContradiction fun z => ?_
  have hu : ∀ w, w < 10 → D w = true → w = v := fun w hw hd => Classical.byContradiction fun e => z ⟨w, hw, hd, e⟩
  obtain ⟨w, hw, hd⟩ := (qany_iff D).mp h
  have e := hu w hw hd
  exact h1 (qcnt_one (v := v) (e ▸ hd) hu (e ▸ hw))
theorem bt_sbit {v : Nat} (hv : v < 10) (w : Nat) : bt (sbit v) w = decide (w = v) := bt_shl1 (by omega) w
theorem bt_sbn {v : Nat} (hv : v < 10) {w : Nat} (hw : w < 10) : bt (sbit v ^^^ (-1 : Int32)) w = !decide (w = v) := by rw [bt_not _ (by omega), bt_sbit hv]
/-- the tries: of variables each once, which have kept but the value tried -/
def sPC (pth : List (Nat × Nat)) (P : qP) : Prop := (pth.map Prod.fst).Nodup ∧ ∀ a ∈ pth, a.1 < 8 ∧ a.2 < 10 ∧ ∀ w, w < 10 → P.1 a.1 w = true → w = a.2
def sI (pth : List (Nat × Nat)) (E : qE) (P : qP) : Prop := PI E P ∧ PT P ∧ sPC pth P
theorem sI_len {pth : List (Nat × Nat)} {P : qP} (h : sPC pth P) : pth.length ≤ 8 := by
  have := pigeon 8 (pth.map Prod.fst) h.1 (fun a ha => by obtain ⟨b, hb, e⟩ := List.mem_map.mp ha; rw [← e]; exact (h.2 b hb).1)
  simpa using this
theorem sI_run {pth : List (Nat × Nat)} {E : qE} {P : qP} (h : sI pth E P) : sI pth E (sP1 E P) ∧ ∀ r, r < 24 → (sP1 E P).2.1 r = false := by
  obtain ⟨d1, d2, d3⟩ := qiter_done E 2024 P h.1 h.2.1 (mu_le P)
  refine ⟨⟨d1, d2, h.2.2.1, fun a ha => ?_⟩, d3⟩
  obtain ⟨a1, a2, a3⟩ := h.2.2.2 a ha
  exact ⟨a1, a2, fun w hw hd => a3 w hw (qiter_sub 2024 h.1 h.2.1 a.1 a1 w hw hd)⟩
theorem s_new {pth : List (Nat × Nat)} {E : qE} {P : qP} (h : sI pth E P) (hf : P.2.2.1 = false) {x : Nat} (hx : x < 8) (hc : ¬ qcnt (P.1 x) 10 = 1) : ¬ x ∈ pth.map Prod.fst ∧ pth.length < 8 := by
  have hn : ¬ x ∈ pth.map Prod.fst := by
    intro z
    obtain ⟨a, ha, e⟩ := List.mem_map.mp z
    obtain ⟨a1, a2, a3⟩ := h.2.2.2 a ha
    have hq := h.1.1 hf x hx
    rw [← e] at hq hc
    obtain ⟨w, hw, hd⟩ := (qany_iff _).mp hq
    have ew := a3 w hw hd
    exact hc (qcnt_one (v := a.2) (ew ▸ hd) a3 a2)
  refine ⟨hn, ?_⟩
  have := pigeon 8 (x :: pth.map Prod.fst) (List.nodup_cons.mpr ⟨hn, h.2.2.1⟩) (fun b hb => by
    rcases List.mem_cons.mp hb with e | e
    · rw [e]; exact hx
    · obtain ⟨c, hc, e⟩ := List.mem_map.mp e
      rw [← e]; exact (h.2.2.2 c hc).1)
  simp at this
  omega
theorem sI_try {pth : List (Nat × Nat)} {E : qE} {P : qP} (h : sI pth E P) (hf : P.2.2.1 = false) {x v : Nat} (hx : x < 8) (hc : ¬ qcnt (P.1 x) 10 = 1) (hv : v < 10) : sI (pth ++ [(x, v)]) E (stry E x v P) := by
  have hn := (s_new h hf hx hc).1
  have ds : ∀ y w, (stry E x v P).1 y w = true → P.1 y w = true := by
    intro y w q
    have q : (if y = x then P.1 y w && bt (sbit v) w else P.1 y w) = true := q
    split at q
    · rw [Bool.and_eq_true] at q; exact q.1
    · exact q
  refine ⟨qnw_PI hx h.1 hf, qnw_PT hx h.2.1, ?_, fun a ha => ?_⟩
  · rw [List.map_append, List.nodup_append]
    refine ⟨h.2.2.1, (by simp), fun a ha b hb e => ?_⟩
    have : b = x := by simpa using hb
    exact hn (by rw [← this, ← e]; exact ha)
  · rcases List.mem_append.mp ha with ha | ha
    · obtain ⟨a1, a2, a3⟩ := h.2.2.2 a ha
      exact ⟨a1, a2, fun w hw q => a3 w hw (ds _ _ q)⟩
    · have e : a = (x, v) := by simpa using ha
      subst e
      refine ⟨hx, hv, fun w hw q => ?_⟩
      have q : (if x = x then P.1 x w && bt (sbit v) w else P.1 x w) = true := q
      rw [if_pos rfl, Bool.and_eq_true, bt_sbit hv] at q
      exact of_decide_eq_true q.2
/-- behind a try another value is left -/
theorem sback_f {E : qE} {P : qP} {x v : Nat} (hv : v < 10) (hq : qany (P.1 x) = true) (hc : ¬ qcnt (P.1 x) 10 = 1) : (sback E x v P).2.2.1 = false := by
  obtain ⟨w, hw, hd, e⟩ := qcnt_two hq hc v
  show (false || !qany (qnar P.1 x (bt (sbit v ^^^ (-1 : Int32))) x)) = false
  have : qany (qnar P.1 x (bt (sbit v ^^^ (-1 : Int32))) x) = true := by
    rw [qany_iff]
    refine ⟨w, hw, ?_⟩
    unfold qnar
    rw [if_pos rfl, hd, bt_sbn hv hw, decide_eq_false e]; rfl
  rw [this]; rfl
theorem Eact_mono {E E2 : qE} (h : sE0 E E2) {r : Nat} (ha : Eact E r = true) : Eact E2 r = true := by
  obtain ⟨h1, h2, -, h4⟩ := h
  unfold Eact qact at ha ⊢
  rw [h4, h1]
  rw [Bool.and_eq_true, Bool.or_eq_true] at ha ⊢
  refine ⟨?_, ha.2⟩
  rcases ha.1 with a | a
  · exact Or.inl a
  · right
    have := of_decide_eq_true a
    exact decide_eq_true (by omega)
theorem Eall_0 {E E2 : qE} (h : sE0 E E2) (hA : Eall E) : Eall E2 := fun r => by rw [h.2.2.2]; exact hA r
theorem sI_back {pth : List (Nat × Nat)} {c : sC} {E : qE} {P1 : qP} (h : sI pth E P1) (hf : P1.2.2.1 = false) {x v : Nat} (hx : x < 8) (hc : ¬ qcnt (P1.1 x) 10 = 1) (hv : v < 10) {fl : Bool} {r : sQ} (hA : Eall r.1) (h8 : El r.1 ≤ 8) : sI pth (snext c pth x v P1 fl r).1 (snext c pth x v P1 fl r).2.1 := by
  have hq := h.1.1 hf x hx
  have f0 := sback_f (E := r.1) hv hq hc
  have b1 : PI r.1 (P1.1, qemp, false, P1.2.2.2) := ⟨fun _ => h.1.1 hf, fun _ _ _ => rfl, fun _ _ z => by cases z⟩
  have ds : ∀ y w, (sback r.1 x v P1).1 y w = true → P1.1 y w = true := by
    intro y w q
    have q : (if y = x then P1.1 y w && bt (sbit v ^^^ (-1 : Int32)) w else P1.1 y w) = true := q
    split at q
    · rw [Bool.and_eq_true] at q; exact q.1
    · exact q
  have k1 : PI r.1 (sback r.1 x v P1) := qnw_PI hx b1 rfl
  have k2 : PT (sback r.1 x v P1) := qnw_PT hx h.2.1
  have k3 : sPC pth (sback r.1 x v P1) := ⟨h.2.2.1, fun a ha => by
    obtain ⟨a1, a2, a3⟩ := h.2.2.2 a ha
    exact ⟨a1, a2, fun w hw q => a3 w hw (ds _ _ q)⟩⟩
  unfold snext
  cases hl : slesson c fl (pth ++ [(x, v)]) r.1 with
  | none => exact ⟨k1, k2, k3⟩
  | some E2 =>
    have he : sE0 r.1 E2 ∧ El E2 = El r.1 + 1 := by
      unfold slesson at hl
      split at hl
      · refine ⟨slearn_0 hl, ?_⟩
        unfold slearn at hl
        split at hl
        · split at hl
          · rw [← Option.some.inj hl]; rfl
          · cases hl
        · cases hl
      · cases hl
    refine ⟨⟨fun q => k1.1 f0, fun q => ?_, fun i hi q => ?_⟩, k2, k3⟩
    · have q : (sback r.1 x v P1).2.2.1 = true := q
      rw [f0] at q; cases q
    · have q : ((sback r.1 x v P1).2.1 i || decide (i = 16 + El r.1)) = true := q
      rw [Bool.or_eq_true] at q
      rcases q with q | q
      · exact Eact_mono he.1 (k1.2.2 i hi q)
      · have ei := of_decide_eq_true q
        unfold Eact qact
        rw [Eall_0 he.1 hA i, he.2, decide_eq_true (show 16 ≤ i ∧ i < 16 + (El r.1 + 1) ∧ 0 ≤ En E2 + (i - 16) from ⟨by omega, by omega, Nat.zero_le _⟩), Bool.or_true]; rfl
/-- rules behind a lesson -/
theorem Eact_ln {E : qE} {pth : List (Nat × Nat)} {mk : Int32} {r : Nat} (h : r ≠ 16 + El E) : Eact (sEln E pth mk) r = Eact E r := by
  show (qact (En E) (El E + 1) 0 r && Eac E r) = (qact (En E) (El E) 0 r && Eac E r)
  have : qact (En E) (El E + 1) 0 r = qact (En E) (El E) 0 r := by
    unfold qact
    rw [decide_eq_decide.mpr (by omega : (16 ≤ r ∧ r < 16 + (El E + 1) ∧ 0 ≤ En E + (r - 16)) ↔ (16 ≤ r ∧ r < 16 + El E ∧ 0 ≤ En E + (r - 16)))]
  rw [this]
theorem allm_eq {n : Nat} (hn : n < 17) : allm n = mkn 24 (fun i => decide (i < n)) := all_mask n hn
theorem bt_allm {n : Nat} (hn : n < 17) (i : Nat) : bt (allm n) i = decide (i < n) := by
  rw [allm_eq hn, bt_mkn (by decide)]
  by_cases h : i < n
  · rw [decide_eq_true h, decide_eq_true (show i < 24 by omega)]; rfl
  · rw [decide_eq_false h, Bool.and_false]
theorem bt_off {a : Int32} {k : Nat} (hk : k < 32) {i : Nat} (h : bt (bitoff a k) i = true) : bt a i = true := by
  unfold bitoff at h
  rw [bt_and, Bool.and_eq_true] at h
  exact h.1
/-- the pairs of a lesson -/
theorem slp_mem : ∀ {pth : List (Nat × Nat)}, (pth.map Prod.fst).Nodup → ∀ a ∈ pth, slp pth a.1 = a.2 := by
  intro pth
  induction pth with
  | nil => intro _ a hm; cases hm
  | cons b l ih =>
    intro hn a hm
    rw [List.map_cons, List.nodup_cons] at hn
    rcases List.mem_cons.mp hm with e | e
    · unfold slp
      rw [e, List.find?_cons_of_pos (by simp)]
    · have nb : ¬ b.1 = a.1 := fun z => hn.1 (by rw [z]; exact List.mem_map.mpr ⟨a, e, rfl⟩)
      have := ih hn.2 a e
      unfold slp at this ⊢
      rw [List.find?_cons_of_neg (by simp [nb])]
      exact this
theorem slp_at {pth : List (Nat × Nat)} (hn : (pth.map Prod.fst).Nodup) {i : Nat} (hi : i < pth.length) : slp pth (pth.getD i (0, 0)).1 = (pth.getD i (0, 0)).2 := by
  have e : pth.getD i (0, 0) = pth[i] := by rw [List.getD_eq_getElem?_getD, List.getElem?_eq_getElem hi]; rfl
  rw [e]
  exact slp_mem hn _ (List.getElem_mem hi)
theorem slp_lt {pth : List (Nat × Nat)} (h : ∀ a ∈ pth, a.2 < 10) (x : Nat) : slp pth x < 10 := by
  unfold slp
  cases e : pth.find? (fun a => decide (a.1 = x)) with
  | none => show 0 < 10; omega
  | some a => exact h a (List.mem_of_find?_eq_some e)

