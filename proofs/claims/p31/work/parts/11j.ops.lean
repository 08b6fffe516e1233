/-! searches within calls */ -/
def scfg (S : qW) (ch pk mo : Nat) (ln al : Bool) : sC := (S.2.1.2.1.1, S.2.1.2.1.2, ch, pk, mo, ln, al)
def s_go (S : qW) (P0 : qP) (ch pk mo : Nat) (ln al : Bool) : Nat × Bool × sQ := sRec (scfg S ch pk mo ln al) 9 [] (Et S.1, P0, (0, 0, 0), fun _ => 0)
/-- at the top no try is open, so none teaches -/
theorem sLoop_fl {c : sC} {sub : List (Nat × Nat) → sQ → Nat × Bool × sQ} {pth : List (Nat × Nat)} : ∀ (n : Nat) (s : sQ), (sLoop c sub pth n false s).1 = 0 → (sLoop c sub pth n false s).2.1 = false := by
  intro n
  induction n with
  | zero => intro s _; rfl
  | succ n ih =>
    intro s
    obtain ⟨E, P, ⟨tr, fa, fo⟩, sol⟩ := s
    cases hf : (sP1 E P).2.2.1 with
    | true => rw [sL_fail hf]; intro _; rfl
    | false =>
      cases hc : schosen (cch c) E (sP1 E P).1 with
      | none => rw [sL_sol hf hc]; intro _; rfl
      | some x =>
        by_cases ht : tr = cmo c
        · rw [sL_dear hf hc ht]; intro _; rfl
        · by_cases hz : (sub (pth ++ [(x, sv c E P x)]) (sch1 c E P tr fa fo sol x)).1 = 0
          · rw [sL_try hf hc ht hz]; exact ih _
          · rw [sL_end hf hc ht hz]; intro z; exact absurd z hz
/-- whether one was found: how many, when not all are told; and it lies within -/
def sFnd (c : sC) (s : sQ) (r : Nat × Bool × sQ) : Prop := cal c = false → (r.1 = 1 → r.2.2.2.2.1.2.2 = s.2.2.1.2.2 + 1 ∧ ∀ x, x < 8 → r.2.2.2.2.2 x < 10 ∧ s.2.1.1 x (r.2.2.2.2.2 x) = true) ∧ (¬ r.1 = 1 → r.2.2.2.2.1.2.2 = s.2.2.1.2.2)
theorem sback_sub {E : qE} {x v : Nat} {P : qP} {y w : Nat} (h : (sback E x v P).1 y w = true) : P.1 y w = true := by
  have q : (if y = x then P.1 y w && bt (sbit v ^^^ (-1 : Int32)) w else P.1 y w) = true := h
  split at q
  · rw [Bool.and_eq_true] at q; exact q.1
  · exact q
theorem snext_sub {c : sC} {pth : List (Nat × Nat)} {x v : Nat} {P1 : qP} {fl : Bool} {r : sQ} {y w : Nat} (h : (snext c pth x v P1 fl r).2.1.1 y w = true) : P1.1 y w = true := by
  unfold snext at h
  cases hl : slesson c fl (pth ++ [(x, v)]) r.1 with
  | none => rw [hl] at h; exact sback_sub h
  | some E2 => rw [hl] at h; exact sback_sub (E := r.1) (v := v) (x := x) h
theorem slearn_el {c : sC} {E E2 : qE} {pth : List (Nat × Nat)} (h : slearn c E pth = some E2) : El E2 ≤ 8 := by
  unfold slearn at h
  split at h
  · rename_i h8
    split at h
    · rw [← Option.some.inj h]; exact h8
    · cases h
  · cases h
theorem snext_el {c : sC} {pth : List (Nat × Nat)} {x v : Nat} {P1 : qP} {fl : Bool} {r : sQ} (h : El r.1 ≤ 8) : El (snext c pth x v P1 fl r).1 ≤ 8 := by
  unfold snext
  cases hl : slesson c fl (pth ++ [(x, v)]) r.1 with
  | none => exact h
  | some E2 =>
    unfold slesson at hl
    split at hl
    · exact slearn_el hl
    · cases hl
theorem sLoop_el {c : sC} {sub : List (Nat × Nat) → sQ → Nat × Bool × sQ} (hs : ∀ p s, El s.1 ≤ 8 → El (sub p s).2.2.1 ≤ 8) (pth : List (Nat × Nat)) : ∀ (n : Nat) (fl : Bool) (s : sQ), El s.1 ≤ 8 → El (sLoop c sub pth n fl s).2.2.1 ≤ 8 := by
  intro n
  induction n with
  | zero => intro fl s h; exact h
  | succ n ih =>
    intro fl s h
    obtain ⟨E, P, ⟨tr, fa, fo⟩, sol⟩ := s
    cases hf : (sP1 E P).2.2.1 with
    | true => rw [sL_fail hf]; exact h
    | false =>
      cases hc : schosen (cch c) E (sP1 E P).1 with
      | none => rw [sL_sol hf hc]; exact h
      | some x =>
        by_cases ht : tr = cmo c
        · rw [sL_dear hf hc ht]; exact h
        · have k := hs (pth ++ [(x, sv c E P x)]) (sch1 c E P tr fa fo sol x) h
          by_cases hz : (sub (pth ++ [(x, sv c E P x)]) (sch1 c E P tr fa fo sol x)).1 = 0
          · rw [sL_try hf hc ht hz]; exact ih false _ (snext_el k)
          · rw [sL_end hf hc ht hz]; exact k
theorem sRec_el (c : sC) : ∀ (k : Nat) (p : List (Nat × Nat)) (s : sQ), El s.1 ≤ 8 → El (sRec c k p s).2.2.1 ≤ 8 := by
  intro k
  induction k with
  | zero => intro p s h; exact h
  | succ k ih => intro p s h; exact sLoop_el ih p 400 _ s h
theorem stry_sub {E : qE} {x v : Nat} {P : qP} {y w : Nat} (h : (stry E x v P).1 y w = true) : P.1 y w = true := by
  have q : (if y = x then P.1 y w && bt (sbit v) w else P.1 y w) = true := h
  split at q
  · rw [Bool.and_eq_true] at q; exact q.1
  · exact q
theorem sLoop_fnd {c : sC} {k : Nat} {pth : List (Nat × Nat)} (hs : ∀ a s, sI (pth ++ [a]) s.1 s.2.1 → Eall s.1 → El s.1 ≤ 8 → sFnd c s (sRec c k (pth ++ [a]) s)) : ∀ (n : Nat) (fl : Bool) (s : sQ), sI pth s.1 s.2.1 → Eall s.1 → El s.1 ≤ 8 → sFnd c s (sLoop c (sRec c k) pth n fl s) := by
  intro n
  induction n with
  | zero => intro fl s _ _ _ _; exact ⟨fun z => (by cases z), fun _ => rfl⟩
  | succ n ih =>
    intro fl s I hA h8 hal
    obtain ⟨E, P, ⟨tr, fa, fo⟩, sol⟩ := s
    obtain ⟨I1, -⟩ := sI_run I
    have sub1 : ∀ x, x < 8 → ∀ v, v < 10 → (sP1 E P).1 x v = true → P.1 x v = true := fun x hx v hv h => qiter_sub 2024 I.1 I.2.1 x hx v hv h
    cases hf : (sP1 E P).2.2.1 with
    | true => rw [sL_fail hf]; exact ⟨fun z => (by cases z), fun _ => rfl⟩
    | false =>
      have hne := I1.1.1 hf
      cases hc : schosen (cch c) E (sP1 E P).1 with
      | none =>
        rw [sL_sol hf hc]
        refine ⟨fun _ => ⟨rfl, fun x hx => ⟨nthb_lt _ 10 0 0 rfl, ?_⟩⟩, fun z => ?_⟩
        · refine sub1 x hx _ (nthb_lt _ 10 0 0 rfl) (nthb_in _ 10 0 0 ?_)
          rw [cntf_10]; exact cntf_qany _ (hne x hx)
        · exact absurd (show (if cal c = true then 0 else 1) = 1 by rw [hal]; rfl) z
      | some x =>
        obtain ⟨hx, hcx⟩ := schosen_some hc
        have hv : sv c E P x < 10 := spick_lt (cpk c) ((sP1 E P).1 x)
        by_cases ht : tr = cmo c
        · rw [sL_dear hf hc ht]; exact ⟨fun z => (by cases z), fun _ => rfl⟩
        · have I5 := sI_try I1 hf hx hcx hv
          obtain ⟨g1, g2⟩ := hs (x, sv c E P x) (sch1 c E P tr fa fo sol x) I5 hA h8 hal
          have kp := sRec_keep c k (pth ++ [(x, sv c E P x)]) (sch1 c E P tr fa fo sol x)
          have ke := sRec_el c k (pth ++ [(x, sv c E P x)]) (sch1 c E P tr fa fo sol x) h8
          by_cases hz : (sRec c k (pth ++ [(x, sv c E P x)]) (sch1 c E P tr fa fo sol x)).1 = 0
          · rw [sL_try hf hc ht hz]
            have g3 : (sRec c k (pth ++ [(x, sv c E P x)]) (sch1 c E P tr fa fo sol x)).2.2.2.2.1.2.2 = fo := g2 (by rw [hz]; decide)
            generalize sRec c k (pth ++ [(x, sv c E P x)]) (sch1 c E P tr fa fo sol x) = r at kp ke g3 ⊢
            have I7 := sI_back (c := c) (fl := r.2.1) (r := r.2.2) I1 hf hx hcx hv (Eall_0 kp.1 hA) ke
            obtain ⟨n1, n2, -⟩ := snext_0 c pth x (sv c E P x) (sP1 E P) r.2.1 r.2.2
            obtain ⟨j1, j2⟩ := ih false (snext c pth x (sv c E P x) (sP1 E P) r.2.1 r.2.2) I7 (Eall_0 n1 (Eall_0 kp.1 hA)) (snext_el ke) hal
            rw [n2, g3] at j1 j2
            exact ⟨fun z => ⟨(j1 z).1, fun y hy => ⟨((j1 z).2 y hy).1, sub1 y hy _ ((j1 z).2 y hy).1 (snext_sub ((j1 z).2 y hy).2)⟩⟩, j2⟩
          · rw [sL_end hf hc ht hz]
            exact ⟨fun z => ⟨(g1 z).1, fun y hy => ⟨((g1 z).2 y hy).1, sub1 y hy _ ((g1 z).2 y hy).1 (stry_sub ((g1 z).2 y hy).2)⟩⟩, g2⟩
theorem sRec_fnd (c : sC) : ∀ (k : Nat) (pth : List (Nat × Nat)) (s : sQ), sI pth s.1 s.2.1 → Eall s.1 → El s.1 ≤ 8 → sFnd c s (sRec c k pth s) := by
  intro k
  induction k with
  | zero => intro pth s _ _ _ _; exact ⟨fun z => (by cases z), fun _ => rfl⟩
  | succ k ih => intro pth s I hA h8; exact sLoop_fnd (fun a s => ih (pth ++ [a]) s) 400 _ s I hA h8
/-- rules of texts alone, of those a search has had -/
theorem XE_0 {h : gH} {E E2 : qE} (H : XE h E2) (e : sE0 E E2) (h0 : El E = 0) : XE h E := by
  obtain ⟨a1, a2, a3, a4, a5, a6, a7⟩ := H
  obtain ⟨e1, e2, e3, e4⟩ := e
  have act : ∀ r, Eact E r = true → Eact E2 r = true ∧ r < 16 := fun r ha => by
    refine ⟨Eact_mono ⟨e1, e2, e3, e4⟩ ha, ?_⟩
    unfold Eact qact at ha
    rw [Bool.and_eq_true, Bool.or_eq_true] at ha
    rcases ha.1 with z | z
    · have z := of_decide_eq_true z
      rw [e1] at a1
      omega
    · have z := of_decide_eq_true z
      omega
  rw [e1] at a1 a3 a4
  refine ⟨a1, by omega, a3, fun r hr => ?_, fun j hj => by omega, fun r hr => ?_, fun x hx => ⟨(a7 x hx).1, fun r hr => ?_⟩⟩
  · have := a4 r hr
    rw [(e3 r (by omega)).1, (e3 r (by omega)).2.1] at this
    exact this
  · obtain ⟨b1, b2⟩ := act r hr
    have := a6 r b1
    rw [(e3 r b2).2.2] at this
    exact this
  · obtain ⟨b1, b2⟩ := act r hr
    rw [(a7 x hx).2 r b1, (e3 r b2).1]
theorem Et_all (R : qR) : Eall (Et R) := fun _ => rfl
theorem sI_top {R : qR} {P : qP} (h : PI (Et R) P) (h2 : PT P) : sI [] (Et R) P := ⟨h, h2, List.nodup_nil, fun a ha => by cases ha⟩
/-- the class searches from a picture -/
theorem X_go {h : gH} {S : qW} {P0 : qP} {ch pk mo : Nat} {ln al : Bool} (hch : ch < 4) (hpk : pk < 3) (hmo : mo ≤ 300) (hE : XE h (Et S.1)) (H : HP h 28 (Et S.1) P0) (I : PI (Et S.1) P0) (T : PT P0) (h10 : h 28 10 = 0) (hd : XDo h 22 S.2.1.2.1.1 S.2.1.2.1.2) (h33 : h 33 10 = 0) (h34 : h 34 8 = 1) : Sp (fS_go (nI ch) (nI pk) (b2i ln) (nI mo) (b2i al) h) (fun h1 => XOut h1 (s_go S P0 ch pk mo ln al).2.2.1 (decide ((s_go S P0 ch pk mo ln al).1 = 2)) (s_go S P0 ch pk mo ln al).2.2.2.2.1 (s_go S P0 ch pk mo ln al).2.2.2.2.2 ∧ sE0 (Et S.1) (s_go S P0 ch pk mo ln al).2.2.1) := by
  have kp := sRec_keep (scfg S ch pk mo ln al) 9 [] (Et S.1, P0, (0, 0, 0), fun _ => 0)
  unfold fS_go
  refine Sp_let (Sp_let (Sp_let (Sp_let (Sp_let (Sp_let ?_)))))
  generalize hh : hu (hu (hu (hu (hu (hu h 38 9 0) 38 10 0) 38 11 0) 38 12 0) 38 13 0) 38 14 0 = h1
  have w : ∀ b, b ≠ 38 → h1 b = h b := fun b hb => by rw [← hh, hu_ne hb, hu_ne hb, hu_ne hb, hu_ne hb, hu_ne hb, hu_ne hb]
  have v : h1 38 9 = nI 0 ∧ h1 38 10 = nI 0 ∧ h1 38 11 = nI 0 ∧ h1 38 12 = nI 0 ∧ h1 38 13 = nI 0 ∧ h1 38 14 = 0 := by
    rw [← hh]
    refine ⟨?_, ?_, ?_, ?_, ?_, ?_⟩ <;> simp [hu_at, nI_0]
  obtain ⟨v1, v2, v3, v4, v5, v6⟩ := v
  have St : XSt (scfg S ch pk mo ln al) h1 (Et S.1) P0 [] (fun _ => 0) (0, 0, 0) (fun _ => 0) := ⟨⟨XE_fr hE (by rw [w 1 (by decide)]) (w 3 (by decide)) (w 4 (by decide)) (w 5 (by decide)) (w 6 (by decide)) (w 7 (by decide)) (w 8 (by decide)), Et_all _⟩, HP_fr H (fun k => by rw [w 28 (by decide)]) (fun b _ _ => w b (by omega)), by rw [w 28 (by decide)]; exact h10, ⟨hd.1, by rw [w 22 (by decide)]; exact hd.2.1, fun i hi => by rw [w 23 (by decide), w 24 (by decide)]; exact hd.2.2 i hi⟩, by rw [w 33 (by decide)]; exact h33, by rw [w 34 (by decide)]; exact h34, ⟨v1, fun i hi => absurd hi (Nat.not_lt_zero _)⟩, fun i hi => absurd hi (Nat.not_lt_zero _), v2, v3, v4, v5, v6, fun z => absurd z (Nat.lt_irrefl _)⟩
  have nd := xsrch (c := scfg S ch pk mo ln al) hch hpk hmo 9 [] (Et S.1, P0, (0, 0, 0), fun _ => 0) (by decide) (sI_top I T) (Et_all _) (Nat.zero_le _) (fun _ => 0) gfu 0 h1 (fun h1 => XOut h1 (s_go S P0 ch pk mo ln al).2.2.1 (decide ((s_go S P0 ch pk mo ln al).1 = 2)) (s_go S P0 ch pk mo ln al).2.2.2.2.1 (s_go S P0 ch pk mo ln al).2.2.2.2.2 ∧ sE0 (Et S.1) (s_go S P0 ch pk mo ln al).2.2.1) St rfl rfl (fun hz h' fu' n8' K hf hn => ?_) (fun hz h' o => ⟨o, kp.1⟩)
  · exact nd
  · have htr := kp.2.2.1 (Nat.zero_le _)
    have hfl : (sRec (scfg S ch pk mo ln al) 9 [] (Et S.1, P0, (0, 0, 0), fun _ => 0)).2.1 = false := sLoop_fl 400 _ hz
    obtain ⟨fu', rfl⟩ : ∃ f, fu' = f + 1 := ⟨fu' - 1, by
      have hmo' : cmo (scfg S ch pk mo ln al) ≤ 300 := hmo
      have hn : n8' + 0 = _ := hn
      unfold gfu at hf; omega⟩
    unfold xbt
    rw [hfl, Bool.and_false, if_neg (show ¬ false = true by decide)]
    have tb : fS_turnBack (-1) h' = some (0, h') := by
      unfold fS_turnBack
      rw [K.2.2.2.2.2.2.1.1]
      exact if_neg (by decide)
    rw [tb, Option.bind_some]
    have hn8 : n8' < 1000000 := by
      have hmo' : cmo (scfg S ch pk mo ln al) ≤ 300 := hmo
      have hn : n8' + 0 = 2 * (sRec (scfg S ch pk mo ln al) 9 [] (Et S.1, P0, (0, 0, 0), fun _ => 0)).2.2.2.2.1.1 := hn
      omega
    dsimp only
    unfold xgo fS_go_39
    rw [nad1 n8']
    have oo := XSt_out K
    have hd2 : decide ((s_go S P0 ch pk mo ln al).1 = 2) = false := decide_eq_false (by
      have hz : (s_go S P0 ch pk mo ln al).1 = 0 := hz
      rw [hz]; decide)
    by_cases hb : nI (n8' + 1) < (1000000 : Int32)
    · exact Sp_pos hb (Sp_pos rfl (Sp_some ⟨by rw [hd2]; exact oo, kp.1⟩))
    · exact Sp_neg hb (Sp_some ⟨by rw [hd2]; exact oo, kp.1⟩)
/-- .. and stands as before -/
theorem AX_go {h h1 : gH} {S : qW} {E : qE} {dr : Bool} {st : Nat × Nat × Nat} {sol : Nat → Nat} (H : AX h S) (o : XOut h1 E dr st sol) (e : sE0 (Et S.1) E) (a : ∀ b, ¬ (b = 3 ∨ b = 4 ∨ b = 5 ∨ b = 8 ∨ (28 ≤ b ∧ b ≤ 43)) → h1 b = h b) (z1 : h1 28 10 = 0) (z2 : h1 33 10 = 0) : AX h1 S :=
  ⟨⟨XE_0 o.1 e rfl, fun r hr => by rw [a 2 (by omega)]; exact H.1.2 r hr⟩, XC_fr H.2.1 (fun b _ _ => a b (by omega)) (fun b _ _ => a b (by omega)), XKp_fr H.2.2.1 (a 0 (by omega)) (fun b _ _ => a b (by omega)), XTp_fr H.2.2.2.1 (by rw [a 10 (by omega)]) (a 11 (by omega)), XSh_fr H.2.2.2.2.1 (fun b _ _ => a b (by omega)), ⟨by rw [a 17 (by omega)]; exact H.2.2.2.2.2.1.1, by rw [a 45 (by omega)]; exact H.2.2.2.2.2.1.2⟩, z1, z2, o.2.1, o.2.2.1⟩
/-- the hall is laid over the thought, and searched on from there -/
theorem X_become {h : gH} {S : qW} (H : AX h S) : Sp (fH_become 28 17 h) (fun h1 => HP h1 28 (Et S.1) S.2.1.1 ∧ AX h1 S ∧ ∀ b, ¬ (28 ≤ b ∧ b ≤ 32) → h1 b = h b) := by
  have h9 : h 17 9 = b2i S.2.1.1.2.2.1 := H.2.1.1.2.2.2.1
  refine Sp_mono (hbec (o := 28) (o1 := 17) (by omega) h9) (fun h1 q => ?_)
  obtain ⟨r1, r2, r3, r4, r5, r6⟩ := q
  obtain ⟨x1, x2, x3, x4, x5, x6, x7⟩ := H.2.1.1
  refine ⟨⟨fun x hx => ?_, ?_, ?_, ?_, ⟨?_, fun i a hi => ?_⟩, ?_, x7⟩, ?_, r6⟩
  · rw [r1 x hx]; exact x1 x hx
  · rw [r2]; exact H.2.2.2.2.2.2.2.2.1
  · rw [r4 7 (by omega) (by omega)]; exact x3
  · rw [r4 9 (by omega) (by omega)]; exact x4
  · rw [r4 5 (by omega) (by omega)]; exact x5.1
  · have hi2 : i < S.2.1.1.2.2.2.length := by
      by_cases q : i < S.2.1.1.2.2.2.length
      · exact q
      · rw [List.getElem?_eq_none (by omega)] at hi; cases hi
    have := x7.len
    rw [(r3 i (by omega)).1, (r3 i (by omega)).2]
    exact x5.2 i a hi
  · rw [r4 6 (by omega) (by omega)]; exact x6
  · exact AX_fr H (fun b b1 b2 b3 b4 b5 => r6 b (by omega)) (by rw [r6 10 (by omega)]) (r6 11 (by omega)) ⟨by rw [r5 10 (by omega)]; exact H.2.2.2.2.2.2.1, by rw [r6 33 (by omega)]; exact H.2.2.2.2.2.2.2.1, by rw [r2]; exact H.2.2.2.2.2.2.2.2.1, by rw [r6 34 (by omega)]; exact H.2.2.2.2.2.2.2.2.2⟩
theorem X_goes {h : gH} {S : qW} {P0 : qP} {ch pk mo : Nat} {ln al : Bool} (hch : ch < 4) (hpk : pk < 3) (hmo : mo ≤ 300) (H : AX h S) (Hp : HP h 28 (Et S.1) P0) (I : PI (Et S.1) P0) (T : PT P0) : Sp (fS_go (nI ch) (nI pk) (b2i ln) (nI mo) (b2i al) h) (fun h1 => AX h1 S ∧ (∀ b, ¬ (b = 3 ∨ b = 4 ∨ b = 5 ∨ b = 8 ∨ (28 ≤ b ∧ b ≤ 43)) → h1 b = h b) ∧ XOut h1 (s_go S P0 ch pk mo ln al).2.2.1 (decide ((s_go S P0 ch pk mo ln al).1 = 2)) (s_go S P0 ch pk mo ln al).2.2.2.2.1 (s_go S P0 ch pk mo ln al).2.2.2.2.2) := by
  refine Sp_mono (Sp_and (X_go hch hpk hmo H.1.1 Hp I T H.2.2.2.2.2.2.1 H.2.1.2.2.1 H.2.2.2.2.2.2.2.1 H.2.2.2.2.2.2.2.2.2) (fun _ e => fS_go_fr e)) (fun h1 q => ?_)
  obtain ⟨⟨o, e⟩, fr⟩ := q
  have a : ∀ b, ¬ (b = 3 ∨ b = 4 ∨ b = 5 ∨ b = 8 ∨ (28 ≤ b ∧ b ≤ 43)) → h1 b = h b := fun b hb => funext fun k => fr b k (by simp; omega) (by simp; omega)
  exact ⟨AX_go H o e a (by rw [fr 28 10 (by simp) (by simp)]; exact H.2.2.2.2.2.2.1) (by rw [fr 33 10 (by simp) (by simp)]; exact H.2.2.2.2.2.2.2.1), a, o⟩

