/-! tell, level, undo -/
theorem vis_f {n : Nat} (hn : n < 2 ^ 31) {v : Int32} (h : vis (n + 1) v = false) : v < 0 ∨ nI n < v := by
  rw [vis_iff] at h
  have h := of_decide_eq_false h
  rw [Int32.lt_iff_toInt_lt, Int32.lt_iff_toInt_lt, nI_toInt hn, Int32.toInt_zero]
  omega
def updd (dec : Nat → Nat × Int32) (d : Nat) (a : Nat × Int32) : Nat → Nat × Int32 := fun i => if i = d then a else dec i
def s_tell (S : qW) (v1 v2 : Int32) : Int32 × qW := match vin 8 v1 with
  | none => (-2, S)
  | some x => if vis 1024 v2 = false then (-2, S) else if S.2.1.1.2.2.1 = true then (-3, S) else if S.2.1.2.1.1 = 12 then (-4, S) else
      (nI (qent x (nI (100 + S.2.1.2.1.1)) (fun v => S.2.1.1.1 x v && !bt v2 v) 10 0).length, setK S (qnw (Et S.1) x v2 (nI (100 + S.2.1.2.1.1)) S.2.1.1, (S.2.1.2.1.1 + 1, updd S.2.1.2.1.2 S.2.1.2.1.1 (x, v2)), S.2.1.2.2.1, S.2.1.2.2.2))
theorem W_tell {S : qW} (H : WI S) (v1 v2 : Int32) : WI (s_tell S v1 v2).2 := by
  unfold s_tell
  rcases vin_cases 8 (by decide) v1 with ⟨x, hx, -, e⟩ | ⟨e, -⟩
  · rw [e]; dsimp only
    split
    · exact H
    split
    · exact H
    rename_i hf
    split
    · exact H
    rename_i hd
    have hd12 := H.2.2.1
    exact ⟨H.1, KI_ext H.2.1 (qnw_PI hx (KI_PI H.2.1) (by simpa using hf)) (qnw_PT hx H.2.1.2.1) ⟨_, rfl⟩ (Nat.le_succ _), by show S.2.1.2.1.1 + 1 ≤ 12; omega, H.2.2.2⟩
  · rw [e]; exact H
theorem gg_t {α : Type} {c : Bool} {t : Option α} (h : c = true) : gg c t = t := if_pos h
theorem decide_eq22 {h : gH} {d x : Nat} {dec : Nat → Nat × Int32} (v2 : Int32) (H : XDo h 22 d dec) (hd : d < 12) : fP_decide 22 (nI x) v2 h = some (nI d, hu (hu (hu h 23 d (nI x)) 24 d v2) 22 5 (nI (d + 1))) := by
  unfold fP_decide glet
  rw [H.2.1, gg_t (gin_t hd (by omega))]
  dsimp only
  rw [hu_o _ _ _ _ _ (by omega), H.2.1, gg_t (gin_t hd (by omega)), clampn (by omega)]
  rw [hu_same, hu_o _ _ _ _ _ (by omega), hu_o _ _ _ _ _ (by omega), H.2.1, nadd_l, nsub_l (by omega)]
  rfl
theorem XDo_push {h : gH} {d x : Nat} {dec : Nat → Nat × Int32} (v2 : Int32) (H : XDo h 22 d dec) (hd : d < 12) (hx : x < 8) : XDo (hu (hu (hu h 23 d (nI x)) 24 d v2) 22 5 (nI (d + 1))) 22 (d + 1) (updd dec d (x, v2)) := by
  refine ⟨by omega, hu_same _ _ _ _, fun i hi => ?_⟩
  have e23 : hu (hu (hu h 23 d (nI x)) 24 d v2) 22 5 (nI (d + 1)) (22 + 1) = hu h 23 d (nI x) 23 := by rw [hu_ne (by omega), hu_ne (by omega)]
  have e24 : hu (hu (hu h 23 d (nI x)) 24 d v2) 22 5 (nI (d + 1)) (22 + 2) = hu (hu h 23 d (nI x)) 24 d v2 24 := by rw [hu_ne (by omega)]
  rw [e23, e24]
  unfold updd
  by_cases e : i = d
  · subst e
    rw [if_pos rfl, hu_same, hu_same]; exact ⟨rfl, rfl, hx⟩
  · rw [if_neg e, hu_k _ _ _ _ e, hu_k _ _ _ _ e, hu_ne (by omega)]; exact H.2.2 i (by omega)
theorem vis_none {n : Nat} {v : Int32} (e : vin n v = none) : vis n v = false := by unfold vis; rw [e]; rfl
/-- the branches of tell -/
theorem s_tell1 {S : qW} {v1 v2 : Int32} (e : vin 8 v1 = none) : s_tell S v1 v2 = (-2, S) := by unfold s_tell; rw [e]
theorem s_tell2 {S : qW} {x : Nat} {v1 v2 : Int32} (e : vin 8 v1 = some x) (h : vis 1024 v2 = false) : s_tell S v1 v2 = (-2, S) := by unfold s_tell; rw [e]; dsimp only; rw [if_pos h]
theorem s_tell3 {S : qW} {x : Nat} {v1 v2 : Int32} (e : vin 8 v1 = some x) (h : vis 1024 v2 = true) (hf : S.2.1.1.2.2.1 = true) : s_tell S v1 v2 = (-3, S) := by unfold s_tell; rw [e]; dsimp only; rw [if_neg (by rw [h]; decide), if_pos hf]
theorem s_tell4 {S : qW} {x : Nat} {v1 v2 : Int32} (e : vin 8 v1 = some x) (h : vis 1024 v2 = true) (hf : S.2.1.1.2.2.1 = false) (hd : S.2.1.2.1.1 = 12) : s_tell S v1 v2 = (-4, S) := by unfold s_tell; rw [e]; dsimp only; rw [if_neg (by rw [h]; decide), if_neg (by rw [hf]; decide), if_pos hd]
theorem s_tell5 {S : qW} {x : Nat} {v1 v2 : Int32} (e : vin 8 v1 = some x) (h : vis 1024 v2 = true) (hf : S.2.1.1.2.2.1 = false) (hd : ¬ S.2.1.2.1.1 = 12) : s_tell S v1 v2 = (nI (qent x (nI (100 + S.2.1.2.1.1)) (fun v => S.2.1.1.1 x v && !bt v2 v) 10 0).length, setK S (qnw (Et S.1) x v2 (nI (100 + S.2.1.2.1.1)) S.2.1.1, (S.2.1.2.1.1 + 1, updd S.2.1.2.1.2 S.2.1.2.1.1 (x, v2)), S.2.1.2.2.1, S.2.1.2.2.2)) := by unfold s_tell; rw [e]; dsimp only; rw [if_neg (by rw [h]; decide), if_neg (by rw [hf]; decide), if_neg hd]
theorem cXs {h : gH} {S : qW} {s : Int32 × qW} {a : Int32} (e : s = (a, S)) : cX h S s (a, h) := by rw [e]; exact ⟨rfl, Or.inl ⟨rfl, rfl⟩⟩
theorem X_tell {h : gH} {S : qW} (H : AX h S) (W : WI S) (v1 v2 : Int32) : Sp (fX_tell v1 v2 h) (fun p => p.1 = (s_tell S v1 v2).1 ∧ AX p.2 (s_tell S v1 v2).2) := by
  have C := H.2.1
  refine cX_AX H ?_ (fun x e => fX_tell_fr e) (by decide) (by decide)
  unfold fX_tell
  refine Sp_eq (fX_isVariable_eq v1 h) ?_
  rcases vin_cases 8 (by decide) v1 with ⟨x, hx, e1, e⟩ | ⟨e, -⟩
  · subst e1
    rw [vis_nI hx (by decide)]
    dsimp only
    refine Sp_neg (by decide) ?_
    cases hv : vis 1024 v2 with
    | false =>
      rcases vis_f (by decide) hv with q | q
      · exact Sp_pos q (Sp_some (cXs (s_tell2 e hv)))
      · by_cases q2 : v2 < 0
        · exact Sp_pos q2 (Sp_some (cXs (s_tell2 e hv)))
        · exact Sp_neg q2 (Sp_pos q (Sp_some (cXs (s_tell2 e hv))))
    | true =>
      obtain ⟨k, hk, e2⟩ := vis_some (by decide) hv
      have n1 : ¬ v2 < 0 := by rw [e2]; exact nI_pos (by omega)
      have n2 : ¬ (1023 : Int32) < v2 := by rw [e2]; exact fun z => by have := (nlt (a := 1023) (by omega) (by omega)).mp z; omega
      refine Sp_neg n1 (Sp_neg n2 ?_)
      have h9 := C.1.2.2.2.1
      cases hf : S.2.1.1.2.2.1 with
      | true =>
        rw [hf] at h9
        exact Sp_neg (by rw [h9]; decide) (Sp_some (cXs (s_tell3 e hv hf)))
      | false =>
        rw [hf] at h9
        refine Sp_pos h9 ?_
        have hd := C.2.2.1.1
        have hd5 := C.2.2.1.2.1
        by_cases hd12 : S.2.1.2.1.1 = 12
        · exact Sp_neg (by rw [hd5, hd12]; decide) (Sp_some (cXs (s_tell4 e hv hf hd12)))
        · refine Sp_pos (by rw [hd5]; exact nltT (show S.2.1.2.1.1 < 12 by omega) (by decide)) (Sp_eq (decide_eq22 v2 C.2.2.1 (by omega)) ?_)
          rw [s_tell5 e hv hf hd12]
          dsimp only
          rw [nadd_r]
          have hE : XE (hu (hu (hu h 23 S.2.1.2.1.1 (nI x)) 24 S.2.1.2.1.1 v2) 22 5 (nI (S.2.1.2.1.1 + 1))) (Et S.1) := XE_hall H.1.1 (fun b k hb => by rw [hu_o _ _ _ _ _ (by omega), hu_o _ _ _ _ _ (by omega), hu_o _ _ _ _ _ (by omega)])
          have fr3 : ∀ b, b < 22 → hu (hu (hu h 23 S.2.1.2.1.1 (nI x)) 24 S.2.1.2.1.1 v2) 22 5 (nI (S.2.1.2.1.1 + 1)) b = h b := fun b hb => by rw [hu_ne (by omega), hu_ne (by omega), hu_ne (by omega)]
          have hP := HP_fr C.1 (h1 := hu (hu (hu h 23 S.2.1.2.1.1 (nI x)) 24 S.2.1.2.1.1 v2) 22 5 (nI (S.2.1.2.1.1 + 1))) (fun k => congrFun (fr3 17 (by omega)) k) (fun b h1 h2 => fr3 b (by omega))
          refine Sp_bind (Sp_and (narrow_HP gH17 hx v2 (nI (100 + S.2.1.2.1.1)) hE hP) (fun x e => fH_narrow_fr gH17 e)) (fun p _ q => Sp_some ?_)
          obtain ⟨⟨q1, q2⟩, fr⟩ := q
          have fr2 := gfr_out fr 17 21 (by decide) (by decide)
          refine ⟨q1, Or.inr ⟨_, rfl, ⟨q2, ?_, XDo_fr (XDo_push v2 C.2.2.1 (by omega) hx) (fun b b1 b2 => fr2 b (by omega)), ?_, fun i hi => ?_⟩, ?_⟩⟩
          · rw [gfr_fld fr 17 8 (by decide) (by decide), fr3 17 (by omega)]; exact C.2.1
          · rw [fr2 22 (by omega), hu_k _ _ _ _ (by omega), hu_ne (by omega), hu_ne (by omega)]; exact C.2.2.2.1
          · rw [fr2 _ (by omega), fr2 _ (by omega), fr2 _ (by omega), hu_ne (by omega), hu_ne (by omega), hu_ne (by omega), hu_ne (by omega), hu_ne (by omega), hu_ne (by omega), hu_ne (by omega), hu_ne (by omega), hu_ne (by omega)]; exact C.2.2.2.2 i hi
          · rw [gfr_fld fr 17 10 (by decide) (by decide), fr3 17 (by omega)]; exact H.2.2.2.2.2.1.1
  · rw [vis_none e]
    exact Sp_pos rfl (Sp_some (cXs (s_tell1 e)))
