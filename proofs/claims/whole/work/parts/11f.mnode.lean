/-! one node of the reference's search -/
theorem sdear {c : sC} {tr : Nat} (h : ¬ tr = cmo c) (h2 : tr ≤ cmo c) : tr < cmo c := by omega
theorem mlow_le {n m : Nat} {h h1 : gH} (H : mlow m h h1) (w : n ≤ m) : mlow n h h1 := ⟨fun i hi => H.1 i (by omega), fun q hq => H.2 q (by omega)⟩
theorem MSq_low {c : sC} {kd : Nat → Nat} {t0 : qT} {h0 h : gH} {n : Nat} {r : Nat × Bool × sQ} {p : Int32 × gH} (H : MSq c kd t0 h n r p) (L : mlow n h0 h) : MSq c kd t0 h0 n r p := ⟨H.1, H.2.1, H.2.2.1, H.2.2.2.1, mlow_tr L H.2.2.2.2⟩
theorem scode_0 {r : Nat} (h : r = 0 ∨ r = 1 ∨ r = 2) : scode r = 0 ↔ r = 0 := by
  rcases h with e | e | e <;> subst e <;> decide
/-- one node of it: R searches on below -/
theorem mnode {c : sC} {kd : Nat → Nat} {t0 : qT} (hch : cch c < 4) (hpk : cpk c < 3) (hmo : cmo c ≤ 300) {k : Nat} {R : Int32 → Int32 → gH → Option (Int32 × gH)} {pth : List (Nat × Nat)} (hk : 0 < k ∨ 8 ≤ pth.length)
    (hR : ∀ (a : Nat × Nat) (E : qE) (P : qP) (st : Nat × Nat × Nat) (sol : Nat → Nat) (h : gH), sI (pth ++ [a]) E P → st.1 ≤ cmo c → MP h E kd true t0 P → MSc c h st sol → MPth h (pth ++ [a]) → Sp (R (nI (pth.length + 1)) (nI (cmo c)) h) (MSq c kd t0 h (pth.length + 1) (sRec c k (pth ++ [a]) (E, P, st, sol)))) :
    ∀ (n fu : Nat) (fl : Bool) (E : qE) (P : qP) (st : Nat × Nat × Nat) (sol : Nat → Nat) (h : gH), cmo c < n + st.1 → n < fu → st.1 ≤ cmo c → sI pth E P → MP h E kd true t0 P → MSc c h st sol → MPth h pth → Sp (fM_searches_10 R (nI pth.length) (nI (cmo c)) fu (b2i fl) h) (MSq c kd t0 h pth.length (sLoop c (sRec c k) pth n fl (E, P, st, sol))) := by
  intro n
  induction n with
  | zero => intro fu fl E P st sol h h1 h2 h3; omega
  | succ n ih =>
    intro fu fl E P st sol h hn hfu htr I H S MPT
    obtain ⟨fu, rfl⟩ : ∃ f, fu = f + 1 := ⟨fu - 1, by omega⟩
    obtain ⟨tr, fa, fo⟩ := st
    have htr : tr ≤ cmo c := htr
    have hn : cmo c < n + 1 + tr := hn
    obtain ⟨I1, hq⟩ := sI_run I
    have hl8 := sI_len I.2.2
    unfold fM_searches_10
    refine Sp_bind (Sp_and (mruns_sp H I.1 I.2.1) (fun _ e => fM_runsAll_fr e)) (fun h1 _ q => ?_)
    obtain ⟨H1, fr⟩ := q
    have H1 : MP h1 E kd true t0 (sP1 E P) := H1
    have S1 : MSc c h1 (tr, fa, fo) sol := MSc_g S fr rfl rfl rfl
    have L1 : mlow pth.length h h1 := mlow_of (gfr_row fr 84 rfl rfl) (gfr_row fr 85 rfl rfl) (gfr_row fr 88 rfl rfl)
    have MPT1 : MPth h1 pth := fun i hi => by rw [gfr_row fr 84 rfl rfl, gfr_row fr 85 rfl rfl]; exact MPT i hi
    have e2 := H1.2.1.2.2
    cases hf : (sP1 E P).2.2.1 with
    | true =>
      rw [sL_fail hf]
      refine Sp_neg (by rw [e2, hf]; decide) (Sp_let (Sp_gg (gbo_b fl) (Sp_let (Sp_some ?_))))
      have e49 : h1 65 49 = nI fa := S1.2.2.2.1
      rw [e49, nadd_l fa 1]
      refine ⟨rfl, ?_, ?_, fun _ => (by dsimp only; rw [hu_same]), mlow_tr L1 (mlow_of ?_ ?_ ?_)⟩
      · exact MSe_fr (MSe_of H1) (fun k hk => by dsimp only; rw [hu_k _ _ _ _ (by omega), hu_k _ _ _ _ (by omega)]) (fun b hb => by dsimp only; rw [hu_ne (by omega), hu_ne (by omega)])
      · obtain ⟨a1, ⟨a2, a3, a4, a5⟩, a6, a7, a8, a9⟩ := S1
        refine ⟨MD_fr a1 ?_ ?_ ?_, ⟨?_, ?_, ?_, ?_⟩, ?_, ?_, ?_, fun z x hx => ?_⟩ <;> dsimp only
        · rw [hu_k _ _ _ _ (by decide), hu_k _ _ _ _ (by decide)]
        · rw [hu_ne (by decide), hu_ne (by decide)]
        · rw [hu_ne (by decide), hu_ne (by decide)]
        · rw [hu_k _ _ _ _ (by decide), hu_k _ _ _ _ (by decide)]; exact a2
        · rw [hu_k _ _ _ _ (by decide), hu_k _ _ _ _ (by decide)]; exact a3
        · rw [hu_k _ _ _ _ (by decide), hu_k _ _ _ _ (by decide)]; exact a4
        · rw [hu_k _ _ _ _ (by decide), hu_k _ _ _ _ (by decide)]; exact a5
        · rw [hu_k _ _ _ _ (by decide), hu_k _ _ _ _ (by decide)]; exact a6
        · rw [hu_k _ _ _ _ (by decide), hu_same]
        · rw [hu_k _ _ _ _ (by decide), hu_k _ _ _ _ (by decide)]; exact a8
        · rw [hu_ne (by decide), hu_ne (by decide)]; exact a9 z x hx
      · dsimp only; rw [hu_ne (by decide), hu_ne (by decide)]
      · dsimp only; rw [hu_ne (by decide), hu_ne (by decide)]
      · dsimp only; rw [hu_ne (by decide), hu_ne (by decide)]
    | false =>
      have hne : ∀ x, x < 8 → qany ((sP1 E P).1 x) = true := I1.1.1 hf
      refine Sp_pos (by rw [e2, hf]; rfl) (Sp_eq (chosen_eqM H1.1.2 H1.2.1.1 hch S1.2.1.1) ?_)
      dsimp only
      cases hc : schosen (cch c) E (sP1 E P).1 with
      | none =>
        rw [sL_sol hf hc]
        refine Sp_pos rfl (Sp_let ?_)
        have e50 : h1 65 50 = nI fo := S1.2.2.2.2.1
        have e47 : h1 65 47 = b2i (cal c) := S1.2.1.2.2.2
        rw [e50, nadd_l fo 1, ← nI_0]
        refine Sp_mono (m65 (D := (sP1 E P).1) hne (h0 := hu h1 65 50 (nI (fo + 1))) (fun x hx => by rw [hu_ne (by decide)]; exact H1.2.1.1 x hx) (al := cal c) (by rw [hu_k _ _ _ _ (by decide)]; exact e47) 8 0 gfu _ rfl (by unfold gfu; omega) (fun y hy => absurd hy (Nat.not_lt_zero _)) (fun _ _ => rfl)) (fun p q => ?_)
        obtain ⟨q1, q2, q3, q4, q5⟩ := q
        have r : ∀ b, b ≠ 87 → b ≠ 65 → p.2 b = h1 b := fun b b1 b2 => by rw [q4 b b1 b2, hu_ne b2]
        have r65 : ∀ k, k ≠ 53 → k ≠ 50 → p.2 65 k = h1 65 k := fun k k1 k2 => by rw [q5 k k1, hu_k _ _ _ _ k2]
        refine ⟨q1, MSe_fr (MSe_of H1) (fun k hk => r65 k (by omega) (by omega)) (fun b hb => r b (by omega) (by omega)), ?_, fun _ => q2, mlow_tr L1 (mlow_of (r 84 (by decide) (by decide)) (r 85 (by decide) (by decide)) (r 88 (by decide) (by decide)))⟩
        obtain ⟨a1, ⟨a2, a3, a4, a5⟩, a6, a7, a8, a9⟩ := S1
        refine ⟨MD_fr a1 (r65 12 (by decide) (by decide)) (r 72 (by decide) (by decide)) (r 73 (by decide) (by decide)), ⟨(r65 44 (by decide) (by decide)).trans a2, (r65 45 (by decide) (by decide)).trans a3, (r65 46 (by decide) (by decide)).trans a4, (r65 47 (by decide) (by decide)).trans a5⟩, (r65 48 (by decide) (by decide)).trans a6, (r65 49 (by decide) (by decide)).trans a7, ?_, fun _ x hx => q3 x hx⟩
        rw [q5 50 (by decide), hu_same]
      | some x =>
        obtain ⟨hx, hcx⟩ := schosen_some hc
        rw [oI_some x]
        have e48 : h1 65 48 = nI tr := S1.2.2.1
        refine Sp_neg (neq_m1 (show x < 2 ^ 31 by omega)) ?_
        by_cases ht : tr = cmo c
        · rw [sL_dear hf hc ht]
          refine Sp_pos (by rw [e48, ht]) (Sp_some ⟨rfl, MSe_of H1, S1, (fun z => by cases z), L1⟩)
        · have htl := sdear ht htr
          refine Sp_neg (by rw [e48]; exact fun z => ht ((nI_eq (by omega) (by omega)).mp z)) (Sp_let ?_)
          rw [e48, nadd_l tr 1]
          obtain ⟨hnew, hl⟩ := s_new I1 hf hx hcx
          have hv := spick_lt (cpk c) ((sP1 E P).1 x)
          have H2 : MP (hu h1 65 48 (nI (tr + 1))) E kd true t0 (sP1 E P) := MP_fr H1 (fun k hk => by rw [hu_k _ _ _ _ (by omega)]) (fun b hb => by rw [hu_ne (by omega)])
          have S2 : MSc c (hu h1 65 48 (nI (tr + 1))) (tr + 1, fa, fo) sol := by
            obtain ⟨a1, ⟨a2, a3, a4, a5⟩, a6, a7, a8, a9⟩ := S1
            refine ⟨MD_fr a1 (hu_k _ _ _ _ (by decide)) (hu_ne (by decide)) (hu_ne (by decide)), ⟨?_, ?_, ?_, ?_⟩, hu_same _ _ _ _, ?_, ?_, fun z x hx => ?_⟩
            · rw [hu_k _ _ _ _ (by decide)]; exact a2
            · rw [hu_k _ _ _ _ (by decide)]; exact a3
            · rw [hu_k _ _ _ _ (by decide)]; exact a4
            · rw [hu_k _ _ _ _ (by decide)]; exact a5
            · rw [hu_k _ _ _ _ (by decide)]; exact a7
            · rw [hu_k _ _ _ _ (by decide)]; exact a8
            · rw [hu_ne (by decide)]; exact a9 z x hx
          have L2 : mlow pth.length h (hu h1 65 48 (nI (tr + 1))) := mlow_tr L1 (mlow_of (hu_ne (by decide)) (hu_ne (by decide)) (hu_ne (by decide)))
          have MPT2 : MPth (hu h1 65 48 (nI (tr + 1))) pth := fun i hi => by rw [hu_ne (by decide), hu_ne (by decide)]; exact MPT1 i hi
          generalize hu h1 65 48 (nI (tr + 1)) = h2 at H2 S2 L2 MPT2 ⊢
          refine Sp_eq (pickM hx (H2.2.1.1 x hx) hpk S2.2.1.2.1 (hne x hx)) (Sp_gg (gin_t (by omega) (by omega)) (Sp_let (Sp_gg (gin_t (by omega) (by omega)) (Sp_let ?_))))
          dsimp only
          rw [clampn (show pth.length < 2 ^ 31 by omega)]
          have ev : spick (cpk c) ((sP1 E P).1 x) = sv c E P x := rfl
          rw [ev]
          have hv : sv c E P x < 10 := hv
          generalize hvv : sv c E P x = v at hv ⊢
          have H3 : MP (hu (hu h2 84 pth.length (nI x)) 85 pth.length (nI v)) E kd true t0 (sP1 E P) := MP_fr H2 (fun k hk => by rw [hu_ne (by decide), hu_ne (by decide)]) (fun b hb => by rw [hu_ne (by omega), hu_ne (by omega)])
          have S3 : MSc c (hu (hu h2 84 pth.length (nI x)) 85 pth.length (nI v)) (tr + 1, fa, fo) sol := MSc_fr S2 (fun k hk => by rw [hu_ne (by decide), hu_ne (by decide)]) (by rw [hu_ne (by decide), hu_ne (by decide)]) (by rw [hu_ne (by decide), hu_ne (by decide)]) (by rw [hu_ne (by decide), hu_ne (by decide)])
          have L3 : mlow pth.length h (hu (hu h2 84 pth.length (nI x)) 85 pth.length (nI v)) := mlow_tr L2 ⟨fun i hi => ⟨by rw [hu_ne (by decide), hu_k _ _ _ _ (by omega)], by rw [hu_k _ _ _ _ (by omega), hu_ne (by decide)]⟩, fun q _ => by rw [hu_ne (by decide), hu_ne (by decide)]⟩
          have MPT3 : MPth (hu (hu h2 84 pth.length (nI x)) 85 pth.length (nI v)) (pth ++ [(x, v)]) := by
            intro i hi
            rw [List.length_append] at hi
            have hi : i < pth.length + 1 := hi
            rw [hu_ne (show (84 : Nat) ≠ 85 by decide)]
            by_cases ei : i = pth.length
            · rw [ei, hu_same, hu_same, List.getD_eq_getElem?_getD, List.getElem?_append_right (Nat.le_refl _), Nat.sub_self]; exact ⟨rfl, rfl⟩
            · rw [hu_k _ _ _ _ ei, hu_k _ _ _ _ ei, hu_ne (show (85 : Nat) ≠ 84 by decide), List.getD_eq_getElem?_getD, List.getElem?_append_left (by omega), ← List.getD_eq_getElem?_getD]
              exact MPT2 i (by omega)
          generalize hu (hu h2 84 pth.length (nI x)) 85 pth.length (nI v) = h3 at H3 S3 L3 MPT3 ⊢
          refine m159_0 (show pth.length < 16 by omega) (fun h4 a1 a2 a3 => ?_)
          have H4 : MP h4 E kd true t0 (sP1 E P) := MP_fr H3 (fun k hk => by rw [a3 65 (by decide)]) (fun b hb => a3 b (by omega))
          have S4 : MSc c h4 (tr + 1, fa, fo) sol := MSc_fr S3 (fun k hk => by rw [a3 65 (by decide)]) (a3 72 (by decide)) (a3 73 (by decide)) (a3 87 (by decide))
          have L4 : mlow pth.length h h4 := mlow_tr L3 ⟨fun i _ => ⟨by rw [a3 84 (by decide)], by rw [a3 85 (by decide)]⟩, a2⟩
          have MPT4 : MPth h4 (pth ++ [(x, v)]) := fun i hi => by rw [a3 84 (by decide), a3 85 (by decide)]; exact MPT3 i hi
          have sv88 : ∀ y, y < 8 → h4 88 (8 * pth.length + y) = mkn 10 ((sP1 E P).1 y) := fun y hy => by rw [a1 y hy]; exact H3.2.1.1 y hy
          unfold fM_searches_159
          refine Sp_neg (by decide) (Sp_bind (mdec hx (sbit v) H4 (hne x hx) hf) (fun h5 _ q => ?_))
          obtain ⟨H5, fr5⟩ := q
          have H5 : MP h5 E kd true t0 (stry E x v (sP1 E P)) := H5
          have S5 : MSc c h5 (tr + 1, fa, fo) sol := MSc_g S4 fr5 rfl rfl rfl
          have MPT5 : MPth h5 (pth ++ [(x, v)]) := fun i hi => by rw [gfr_row fr5 84 rfl rfl, gfr_row fr5 85 rfl rfl]; exact MPT4 i hi
          have L5 : mlow pth.length h h5 := mlow_tr L4 (mlow_of (gfr_row fr5 84 rfl rfl) (gfr_row fr5 85 rfl rfl) (gfr_row fr5 88 rfl rfl))
          have sv5 : ∀ y, y < 8 → h5 88 (8 * pth.length + y) = mkn 10 ((sP1 E P).1 y) := fun y hy => by rw [gfr_row fr5 88 rfl rfl]; exact sv88 y hy
          rw [nadd_l pth.length 1]
          have I5 := sI_try I1 hf hx hcx hv
          refine Sp_bind (hR (x, v) E (stry E x v (sP1 E P)) (tr + 1, fa, fo) sol h5 I5 htl H5 S5 MPT5) (fun p _ g => ?_)
          have L6 := mlow_tr L5 (mlow_le g.2.2.2.2 (Nat.le_succ _))
          have er : sRec c k (pth ++ [(x, sv c E P x)]) (sch1 c E P tr fa fo sol x) = sRec c k (pth ++ [(x, v)]) (E, stry E x v (sP1 E P), (tr + 1, fa, fo), sol) := by unfold sch1; rw [hvv]
          have kp := sRec_keep c k (pth ++ [(x, v)]) (E, stry E x v (sP1 E P), (tr + 1, fa, fo), sol)
          have hend : ¬ (sRec c k (pth ++ [(x, v)]) (E, stry E x v (sP1 E P), (tr + 1, fa, fo), sol)).1 = 0 → sLoop c (sRec c k) pth (n + 1) fl (E, P, (tr, fa, fo), sol) = sRec c k (pth ++ [(x, v)]) (E, stry E x v (sP1 E P), (tr + 1, fa, fo), sol) := fun hz => by rw [sL_end hf hc ht (by rw [er]; exact hz), er]
          have hgo : (sRec c k (pth ++ [(x, v)]) (E, stry E x v (sP1 E P), (tr + 1, fa, fo), sol)).1 = 0 → sLoop c (sRec c k) pth (n + 1) fl (E, P, (tr, fa, fo), sol) = sLoop c (sRec c k) pth n false (snext c pth x v (sP1 E P) (sRec c k (pth ++ [(x, v)]) (E, stry E x v (sP1 E P), (tr + 1, fa, fo), sol)).2.1 (sRec c k (pth ++ [(x, v)]) (E, stry E x v (sP1 E P), (tr + 1, fa, fo), sol)).2.2) := fun hz => by rw [sL_try hf hc ht (by rw [er]; exact hz), er, hvv]
          clear er
          generalize sRec c k (pth ++ [(x, v)]) (E, stry E x v (sP1 E P), (tr + 1, fa, fo), sol) = r at g kp hend hgo
          obtain ⟨k1, k2, k3, -, k5⟩ := kp
          have k2 : tr + 1 ≤ r.2.2.2.2.1.1 := k2
          have k3 : r.2.2.2.2.1.1 ≤ cmo c := k3 htl
          obtain ⟨g1, g2, g3, g4, g5⟩ := g
          by_cases hz : r.1 = 0
          · rw [hgo hz]
            refine Sp_pos (by rw [g1, hz]; rfl) ?_
            have sv6 : ∀ y, y < 8 → p.2 88 (8 * pth.length + y) = mkn 10 ((sP1 E P).1 y) := fun y hy => by rw [g5.2 _ (by omega)]; exact sv5 y hy
            have MPT6 : MPth p.2 (pth ++ [(x, v)]) := fun i hi => by
              have hi' : i < pth.length + 1 := by rw [List.length_append] at hi; exact hi
              rw [(g5.1 i hi').1, (g5.1 i hi').2]; exact MPT5 i hi
            have cut : ∀ h6, MPth h6 (pth ++ [(x, v)]) → MPth h6 pth := fun h6 a i hi => by
              have := a i (by rw [List.length_append]; omega)
              rw [List.getD_eq_getElem?_getD, List.getElem?_append_left hi, ← List.getD_eq_getElem?_getD] at this
              exact this
            have e53 : p.2 65 53 = b2i r.2.1 := g4 hz
            have e46 : p.2 65 46 = b2i (cln c) := g3.2.1.2.2.1
            have e9 : p.2 65 9 = nI (El r.2.2.1) := g2.2.1.2.2.2.1
            have hl8' : El r.2.2.1 ≤ 8 := g2.2.1.2.1
            -- on, with what was learned or not
            have go : ∀ (ls : Bool) (E2 : qE) (P2 : qP) (h6 : gH), snext c pth x v (sP1 E P) r.2.1 r.2.2 = (E2, P2, r.2.2.2.2) → (ls = true → El E2 = El r.2.2.1 + 1 ∧ El r.2.2.1 < 8 ∧ (∀ i, i ≠ 16 + El r.2.2.1 → Eact E2 i = Eact r.2.2.1 i ∧ Ev E2 i = Ev r.2.2.1 i) ∧ P2 = swake (16 + El r.2.2.1) (sback r.2.2.1 x v (sP1 E P))) → (ls = false → E2 = r.2.2.1 ∧ P2 = sback r.2.2.1 x v (sP1 E P)) → MSe E2 kd t0 h6 → MSc c h6 r.2.2.2.2.1 r.2.2.2.2.2 → MPth h6 (pth ++ [(x, v)]) → (∀ y, y < 8 → h6 88 (8 * pth.length + y) = mkn 10 ((sP1 E P).1 y)) → mlow pth.length h h6 → Sp (fM_searches_258 R (fM_searches_10 R (nI pth.length) (nI (cmo c)) fu) (nI pth.length) (nI (cmo c)) 0 (nI x) (nI v) (b2i ls) h6) (MSq c kd t0 h pth.length (sLoop c (sRec c k) pth n false (snext c pth x v (sP1 E P) r.2.1 r.2.2))) := by
              intro ls E2 P2 h6 hs h1' h2' He6 S6 M6 sv' L'
              refine m258 hl hx ls h1' h2' hne He6 S6 (cut h6 M6) sv' (fun h7 H7 S7 M7 L7 => ?_)
              have I7 := sI_back (c := c) (fl := r.2.1) I1 hf hx hcx hv g2.1 hl8'
              rw [hs] at I7 ⊢
              exact Sp_mono (ih fu false E2 P2 r.2.2.2.2.1 r.2.2.2.2.2 h7 (by omega) (by omega) k3 I7 H7 S7 M7) (fun p q => MSq_low q (mlow_tr L' L7))
            have nols : slesson c r.2.1 (pth ++ [(x, v)]) r.2.2.1 = none → Sp (fM_searches_257 R (fM_searches_10 R (nI pth.length) (nI (cmo c)) fu) (nI pth.length) (nI (cmo c)) 0 (nI x) (nI v) p.2) (MSq c kd t0 h pth.length (sLoop c (sRec c k) pth n false (snext c pth x v (sP1 E P) r.2.1 r.2.2))) := by
              intro hs
              unfold fM_searches_257
              exact go false r.2.2.1 (sback r.2.2.1 x v (sP1 E P)) p.2 (by unfold snext; rw [hs]) (fun z => by cases z) (fun _ => ⟨rfl, rfl⟩) g2 g3 MPT6 sv6 L6
            cases hfl : r.2.1 with
            | false =>
              rw [hfl] at e53
              have := nols (by unfold slesson; rw [hfl, Bool.and_false]; rfl)
              rw [hfl] at this
              exact Sp_pos (by rw [e53]; rfl) this
            | true =>
              rw [hfl] at e53
              refine Sp_neg (by rw [e53]; decide) ?_
              cases hln : cln c with
              | false =>
                rw [hln] at e46
                have := nols (by unfold slesson; rw [hln]; rfl)
                rw [hfl] at this
                exact Sp_pos (by rw [e46]; rfl) this
              | true =>
                rw [hln] at e46
                refine Sp_neg (by rw [e46]; decide) ?_
                have hsl : slesson c r.2.1 (pth ++ [(x, v)]) r.2.2.1 = slearn c r.2.2.1 (pth ++ [(x, v)]) := by unfold slesson; rw [hfl, hln]; rfl
                by_cases h8 : El r.2.2.1 < 8
                · refine Sp_pos (by rw [e9]; exact (nI_ltI (b := 8) (by omega) (by decide)).mpr h8) ?_
                  have len1 : (pth ++ [(x, v)]).length = pth.length + 1 := by rw [List.length_append]; rfl
                  have ML : MLn c kd t0 p.2 r.2.2.1 (pth ++ [(x, v)]) := ⟨g2.2.1, g2.2.2.1, g2.2.2.2, g3.1, MPT6⟩
                  have x0 := mlearns (P0 := stry E x v (sP1 E P)) I5.2.2 h8 ML
                  rw [len1] at x0
                  refine Sp_bind (Sp_and x0 (fun _ e => fM_learns_fr e)) (fun p8 _ q8 => ?_)
                  obtain ⟨q8, fr8⟩ := q8
                  have S8 : MSc c p8.2 r.2.2.2.2.1 r.2.2.2.2.2 := MSc_g g3 fr8 rfl rfl rfl
                  have sv8 : ∀ y, y < 8 → p8.2 88 (8 * pth.length + y) = mkn 10 ((sP1 E P).1 y) := fun y hy => by rw [gfr_row fr8 88 rfl rfl]; exact sv6 y hy
                  have L8 : mlow pth.length h p8.2 := mlow_tr L6 (mlow_of (gfr_row fr8 84 rfl rfl) (gfr_row fr8 85 rfl rfl) (gfr_row fr8 88 rfl rfl))
                  cases hs : slearn c r.2.2.1 (pth ++ [(x, v)]) with
                  | none =>
                    rw [hs] at q8
                    obtain ⟨a1, a2, a3, a4, a5, a6⟩ := q8
                    refine Sp_pos a1 ?_
                    have := go false r.2.2.1 (sback r.2.2.1 x v (sP1 E P)) p8.2 (by unfold snext; rw [hsl, hs]) (fun z => by cases z) (fun _ => ⟨rfl, rfl⟩) ⟨g2.1, a2, a3, a4⟩ S8 a6 sv8 L8
                    rw [hfl] at this
                    unfold fM_searches_257
                    exact this
                  | some E2 =>
                    rw [hs] at q8
                    obtain ⟨a1, a2, a3, a4, a5, a6⟩ := q8
                    have e0 := slearn_0 hs
                    obtain ⟨mk, e2⟩ : ∃ mk, E2 = sEln r.2.2.1 (pth ++ [(x, v)]) mk := by
                      unfold slearn at hs
                      rw [if_pos h8] at hs
                      split at hs
                      · exact ⟨_, (Option.some.inj hs).symm⟩
                      · cases hs
                    refine Sp_neg (by rw [a1]; decide) ?_
                    have := go true E2 (swake (16 + El r.2.2.1) (sback r.2.2.1 x v (sP1 E P))) p8.2 (by unfold snext; rw [hsl, hs]) (fun _ => ⟨by rw [e2]; rfl, h8, fun i hi => by rw [e2]; exact ⟨Eact_ln hi, updg_o _ _ hi⟩, rfl⟩) (fun z => by cases z) ⟨Eall_0 e0 g2.1, a2, a3, a4⟩ S8 a6 sv8 L8
                    rw [hfl] at this
                    exact this
                · have := nols (by rw [hsl]; unfold slearn; rw [if_neg h8])
                  rw [hfl] at this
                  exact Sp_neg (by rw [e9]; exact fun z => h8 ((nI_ltI (b := 8) (by omega) (by decide)).mp z)) this
          · rw [hend hz]
            exact Sp_neg (by rw [g1]; exact fun z => hz ((scode_0 k5).mp z)) (Sp_some ⟨g1, g2, g3, g4, L6⟩)
theorem msrch {c : sC} {kd : Nat → Nat} {t0 : qT} (hch : cch c < 4) (hpk : cpk c < 3) (hmo : cmo c ≤ 300) : ∀ (k j : Nat) (pth : List (Nat × Nat)) (E : qE) (P : qP) (st : Nat × Nat × Nat) (sol : Nat → Nat) (h : gH), 8 < k + pth.length → k ≤ j → sI pth E P → st.1 ≤ cmo c → MP h E kd true t0 P → MSc c h st sol → MPth h pth → Sp (gMS j (nI pth.length) (nI (cmo c)) h) (MSq c kd t0 h pth.length (sRec c k pth (E, P, st, sol))) := by
  intro k
  induction k with
  | zero => intro j pth E P st sol h hk _ I; have := sI_len I.2.2; omega
  | succ k ih =>
    intro j pth E P st sol h hk hj I htr H S M
    obtain ⟨j, rfl⟩ : ∃ f, j = f + 1 := ⟨j - 1, by omega⟩
    have hl8 := sI_len I.2.2
    show Sp (fM_searches (gMS j) (nI pth.length) (nI (cmo c)) h) _
    have nd := mnode (R := gMS j) (k := k) (pth := pth) hch hpk hmo (by omega) (fun a E P st sol h I' t' H' S' M' => by
      have := ih j (pth ++ [a]) E P st sol h (by rw [List.length_append]; show 8 < k + (pth.length + 1); omega) (by omega) I' t' H' S' M'
      rw [List.length_append] at this
      exact this) 400 gfu (decide (0 < pth.length)) E P st sol h (by omega) (by unfold gfu; omega) htr I H S M
    unfold fM_searches fM_searches_9
    show Sp _ (MSq c kd t0 h pth.length (sLoop c (sRec c k) pth 400 (decide (0 < pth.length)) (E, P, st, sol)))
    by_cases e : 0 < pth.length
    · rw [decide_eq_true e] at nd ⊢
      exact Sp_pos ((nI_ltI (a := 0) (by decide) (by omega)).mpr e) nd
    · rw [decide_eq_false e] at nd ⊢
      exact Sp_neg (fun z => e ((nI_ltI (a := 0) (by decide) (by omega)).mp z)) nd
