/-! the class splits a text into tokens -/
def dl (k : Nat) : Nat := [100, 105, 115, 116, 105, 110, 99, 116].getD k 0
theorem dl_ok : ∀ k, k < 8 → (¬ nI k < 0 ∧ nI k < Int32.ofNat (gsle 0) ∧ gin (nI k) (gsle 0) = true ∧ gch (((gsb 0 (nI k) &&& (255 : Int32)).toUInt32 % 65536).toInt32) = true ∧ ((gsb 0 (nI k) &&& (255 : Int32)).toUInt32 % 65536).toInt32 = nI (dl k)) := by decide +kernel
theorem charAt_eq {k : Nat} (hk : k < 8) (h : gH) : fJ_charAt 0 (nI k) h = some (nI (dl k), h) := by
  obtain ⟨a1, a2, a3, a4, a5⟩ := dl_ok k hk
  have hl : fJ_isLatin1 0 h = some (1, h) := by unfold fJ_isLatin1; rw [if_neg (by decide), if_pos rfl]
  have hc : fJ_charAt1 0 (nI k) h = some (nI (dl k), h) := by
    unfold fJ_charAt1 fJ_checkIndex
    rw [if_neg a1, if_pos a2, Option.bind_some, gg_t a3, gg_t a4, a5]
  unfold fJ_charAt
  rw [hl, Option.bind_some]
  dsimp only
  rw [if_neg (show ¬ (1 : Int32) = 0 by decide), hc, Option.bind_some]
  exact gg_t (by rw [← a5]; exact a4)
theorem len0_eq (h : gH) : fJ_length 0 h = some (nI 8, h) := by
  have hc : fJ_coder 0 h = some (0, h) := by unfold fJ_coder; rw [if_neg (by decide), gg_t (by decide +kernel)]
  unfold fJ_length
  rw [hc, Option.bind_some]
  have : (Int32.ofNat (gsle 0)) >>> ((0 : Int32) &&& 31) = nI 8 := by decide +kernel
  dsimp only
  rw [this]
def ixr (c : Int32) : Nat → Nat → Int32
  | 0, _ => -1
  | m + 1, i => if gsb 1 (nI i) = c then nI i else ixr c m (i + 1)
theorem ix_loop (c : Int32) (h : gH) : ∀ (m i fu : Nat), i + m = 10 → m < fu → fJ_indexOfChar_7 1 (nI 10) c fu (nI i) h = some (ixr c m i, h) := by
  intro m
  induction m with
  | zero =>
    intro i fu hi hfu
    obtain ⟨fu, rfl⟩ : ∃ f, fu = f + 1 := ⟨fu - 1, by omega⟩
    unfold fJ_indexOfChar_7 ixr
    rw [if_neg (nI_nlt (by omega) (by omega))]
  | succ m ih =>
    intro i fu hi hfu
    obtain ⟨fu, rfl⟩ : ∃ f, fu = f + 1 := ⟨fu - 1, by omega⟩
    unfold fJ_indexOfChar_7 ixr
    rw [if_pos ((nlt (by omega) (by omega)).mpr (by omega)), gg_t (gin_t (n := gsle 1) (show i < gsle 1 from by show i < 10; omega) (by decide))]
    by_cases e : gsb 1 (nI i) = c
    · rw [if_pos e, if_pos e]
    · rw [if_neg e, if_neg e, nadd_l i 1]; exact ih (i + 1) fu (by omega) (by omega)
theorem ix_ok : ∀ x, x < 256 → (¬ ((nI x).toUInt32 % 65536).toInt32 < 0 ∧ ¬ (255 : Int32) < ((nI x).toUInt32 % 65536).toInt32 ∧ decide (ixr (((nI x).toUInt32 % 65536).toInt32).toInt8.toInt32 10 0 < 0) = !tsg x) := by decide +kernel
theorem indexOf_sp {x : Nat} (hx : x < 256) (h : gH) : Sp (fJ_indexOf 1 (((nI x).toUInt32 % 65536).toInt32) h) (fun p => p.2 = h ∧ decide (p.1 < 0) = !tsg x) := by
  obtain ⟨a1, a2, a3⟩ := ix_ok x hx
  have hl : fJ_isLatin1 1 h = some (1, h) := by unfold fJ_isLatin1; rw [if_neg (by decide), if_pos rfl]
  have hln : fJ_length 1 h = some (nI 10, h) := by
    have hc : fJ_coder 1 h = some (0, h) := by unfold fJ_coder; rw [if_neg (by decide), gg_t (by decide +kernel)]
    unfold fJ_length
    rw [hc, Option.bind_some]
    have : (Int32.ofNat (gsle 1)) >>> ((0 : Int32) &&& 31) = nI 10 := by decide +kernel
    dsimp only
    rw [this]
  unfold fJ_indexOf fJ_indexOf2
  refine Sp_bind (R := fun p => p.2 = h ∧ decide (p.1 < 0) = !tsg x) (Sp_eq hl (Sp_neg (show ¬ (1 : Int32) = 0 by decide) (Sp_eq hln ?_))) (fun p _ k => Sp_some k)
  dsimp only
  unfold fJ_indexOf3
  have he : fJ_canEncode (((nI x).toUInt32 % 65536).toInt32) h = some (1, h) := by unfold fJ_canEncode; rw [if_neg a1, if_neg a2]
  refine Sp_bind (R := fun p => p.2 = h ∧ decide (p.1 < 0) = !tsg x) (Sp_eq he (Sp_neg (show ¬ (1 : Int32) = 0 by decide) ?_)) (fun p _ k => Sp_some k)
  dsimp only
  have e1 : (if (0 : Int32) < 0 then (0 : Int32) else 0) = nI 0 := by decide
  have e2 : (if (Int32.ofNat (gsle 1)) < nI 10 then (Int32.ofNat (gsle 1)) else nI 10) = nI 10 := by decide +kernel
  rw [e1, e2]
  refine Sp_pos (by decide) (Sp_bind (R := fun p => p.2 = h ∧ decide (p.1 < 0) = !tsg x) ?_ (fun p _ k => Sp_some k))
  unfold fJ_indexOfChar
  rw [ix_loop _ h 10 0 gfu (by omega) (by unfold gfu; omega)]
  exact Sp_some ⟨rfl, a3⟩
theorem xdig_eq {x : Nat} (hx : x < 2 ^ 31) (h : gH) : fT_isDigit (nI x) h = some (b2i (tdg x), h) := by
  unfold fT_isDigit tdg
  by_cases c1 : x < 48
  · rw [if_pos (show nI x < 48 from (nI_ltI (b := 48) hx (by decide)).mpr c1), decide_eq_false (by omega)]; rfl
  · rw [if_neg (show ¬ nI x < 48 from fun z => c1 ((nI_ltI (b := 48) hx (by decide)).mp z))]
    by_cases c2 : 57 < x
    · rw [if_pos (show 57 < nI x from (nI_ltI (a := 57) (by decide) hx).mpr c2), decide_eq_false (by omega)]; rfl
    · rw [if_neg (show ¬ 57 < nI x from fun z => c2 ((nI_ltI (a := 57) (by decide) hx).mp z)), decide_eq_true (by omega)]; rfl
theorem xsm_eq {x : Nat} (hx : x < 2 ^ 31) (h : gH) : fT_isSmall (nI x) h = some (b2i (tsm x), h) := by
  unfold fT_isSmall tsm
  by_cases c1 : x < 97
  · rw [if_pos (show nI x < 97 from (nI_ltI (b := 97) hx (by decide)).mpr c1), decide_eq_false (by omega)]; rfl
  · rw [if_neg (show ¬ nI x < 97 from fun z => c1 ((nI_ltI (b := 97) hx (by decide)).mp z))]
    by_cases c2 : 122 < x
    · rw [if_pos (show 122 < nI x from (nI_ltI (a := 122) (by decide) hx).mpr c2), decide_eq_false (by omega)]; rfl
    · rw [if_neg (show ¬ 122 < nI x from fun z => c2 ((nI_ltI (a := 122) (by decide) hx).mp z)), decide_eq_true (by omega)]; rfl
theorem end54 {T : qTp} (B : TpB T) {h : gH} (HT : XTp h T) : ∀ (m p fu : Nat), p + m = T.1 → m < fu → fT_endOfToken_54 fu (nI p) h = some (nI (rn (fun i => tsm (T.2 i)) m p), h) := by
  have hn := B.1
  intro m
  induction m with
  | zero =>
    intro p fu hp hfu
    obtain ⟨fu, rfl⟩ : ∃ f, fu = f + 1 := ⟨fu - 1, by omega⟩
    unfold fT_endOfToken_54
    rw [HT.1, if_neg (nI_nlt (by omega) (by omega))]; rfl
  | succ m ih =>
    intro p fu hp hfu
    obtain ⟨fu, rfl⟩ : ∃ f, fu = f + 1 := ⟨fu - 1, by omega⟩
    have hb := B.2 p (by omega)
    unfold fT_endOfToken_54
    rw [HT.1, if_pos ((nlt (by omega) (by omega)).mpr (by omega)), gg_t (gin_t (by omega) (by omega)), clampn (by omega), HT.2 p (by omega), xsm_eq (by omega), Option.bind_some, rn_s]
    dsimp only
    by_cases c : tsm (T.2 p) = true
    · rw [if_neg (b2i_ne _ c), if_pos c, nadd_l p 1]; exact ih (p + 1) fu (by omega) (by omega)
    · rw [if_pos (show b2i (tsm (T.2 p)) = 0 by rw [Bool.eq_false_iff.mpr c]; rfl), if_neg c]
theorem end16 {T : qTp} (B : TpB T) {h : gH} (HT : XTp h T) : ∀ (m p fu : Nat), p + m = T.1 → m < fu → fT_endOfToken_16 fu (nI p) h = some (nI (rn (fun i => tdg (T.2 i)) m p), h) := by
  have hn := B.1
  intro m
  induction m with
  | zero =>
    intro p fu hp hfu
    obtain ⟨fu, rfl⟩ : ∃ f, fu = f + 1 := ⟨fu - 1, by omega⟩
    unfold fT_endOfToken_16
    rw [HT.1, if_neg (nI_nlt (by omega) (by omega))]; rfl
  | succ m ih =>
    intro p fu hp hfu
    obtain ⟨fu, rfl⟩ : ∃ f, fu = f + 1 := ⟨fu - 1, by omega⟩
    have hb := B.2 p (by omega)
    unfold fT_endOfToken_16
    rw [HT.1, if_pos ((nlt (by omega) (by omega)).mpr (by omega)), gg_t (gin_t (by omega) (by omega)), clampn (by omega), HT.2 p (by omega), xdig_eq (by omega), Option.bind_some, rn_s]
    dsimp only
    by_cases c : tdg (T.2 p) = true
    · rw [if_neg (b2i_ne _ c), if_pos c, nadd_l p 1]; exact ih (p + 1) fu (by omega) (by omega)
    · rw [if_pos (show b2i (tdg (T.2 p)) = 0 by rw [Bool.eq_false_iff.mpr c]; rfl), if_neg c]
theorem endTok {T : qTp} (B : TpB T) {h : gH} (HT : XTp h T) {p : Nat} (hp : p < T.1) : fT_endOfToken (nI p) h = some (nI (qend T p), h) := by
  have hn := B.1
  have hb := B.2 p hp
  unfold fT_endOfToken qend
  rw [gg_t (gin_t (by omega) (by omega)), clampn (by omega), HT.2 p hp, xdig_eq (by omega), Option.bind_some]
  dsimp only
  by_cases c : tdg (T.2 p) = true
  · rw [if_neg (b2i_ne _ c), if_pos c, nadd_l p 1]
    exact end16 B HT (T.1 - (p + 1)) (p + 1) gfu (by omega) (by unfold gfu; omega)
  · rw [if_pos (show b2i (tdg (T.2 p)) = 0 by rw [Bool.eq_false_iff.mpr c]; rfl), if_neg c, gg_t (gin_t (by omega) (by omega)), HT.2 p hp, xsm_eq (by omega), Option.bind_some]
    dsimp only
    by_cases c2 : tsm (T.2 p) = true
    · rw [if_neg (b2i_ne _ c2), if_pos c2, nadd_l p 1]
      exact end54 B HT (T.1 - (p + 1)) (p + 1) gfu (by omega) (by unfold gfu; omega)
    · rw [if_pos (show b2i (tsm (T.2 p)) = 0 by rw [Bool.eq_false_iff.mpr c2]; rfl), if_neg c2, nadd_l p 1]
theorem num_at {T : qTp} (B : TpB T) {h : gH} (HT : XTp h T) {e : Nat} (he : e ≤ T.1) : ∀ (m p fu a : Nat), p + m = e → m < fu → (∀ i, p ≤ i → i < e → tdg (T.2 i) = true) → fT_numberAt_5 (nI e) fu (nI a) (nI p) h = some (nI (qnum T m p a), h) := by
  have hn := B.1
  intro m
  induction m with
  | zero =>
    intro p fu a hp hfu hd
    obtain ⟨fu, rfl⟩ : ∃ f, fu = f + 1 := ⟨fu - 1, by omega⟩
    unfold fT_numberAt_5
    rw [if_neg (nI_nlt (by omega) (by omega))]; rfl
  | succ m ih =>
    intro p fu a hp hfu hd
    obtain ⟨fu, rfl⟩ : ∃ f, fu = f + 1 := ⟨fu - 1, by omega⟩
    have c48 : 48 ≤ T.2 p := by have := hd p (by omega) (by omega); unfold tdg at this; have := of_decide_eq_true this; omega
    unfold fT_numberAt_5
    rw [if_pos ((nlt (by omega) (by omega)).mpr (by omega)), gg_t (gin_t (by omega) (by omega)), clampn (by omega), HT.2 p (by omega), show nI a * (10 : Int32) = nI (a * 10) from nmul a 10, nI_add, show nI (a * 10 + T.2 p) - (48 : Int32) = nI (a * 10 + T.2 p - 48) from nsub (a := a * 10 + T.2 p) (b := 48) (by omega), nadd_l p 1]
    have := ih (p + 1) fu (10 * a + (T.2 p - 48)) (by omega) (by omega) (fun i h1 h2 => hd i (by omega) h2)
    rw [show a * 10 + T.2 p - 48 = 10 * a + (T.2 p - 48) by omega]
    exact this
theorem dist_loop {T : qTp} (B : TpB T) {h : gH} (HT : XTp h T) {q : Nat} (hq : q + 8 ≤ T.1) : ∀ (m i fu : Nat), i + m = 8 → m < fu → fT_isDistinctAt_15 (nI q) (nI (q + 8)) fu (nI (q + i)) h = some (b2i ((List.range' i m).all fun k => decide (T.2 (q + k) = dl k)), h) := by
  have hn := B.1
  intro m
  induction m with
  | zero =>
    intro i fu hi hfu
    obtain ⟨fu, rfl⟩ : ∃ f, fu = f + 1 := ⟨fu - 1, by omega⟩
    unfold fT_isDistinctAt_15
    rw [if_neg (nI_nlt (by omega) (by omega))]; rfl
  | succ m ih =>
    intro i fu hi hfu
    obtain ⟨fu, rfl⟩ : ∃ f, fu = f + 1 := ⟨fu - 1, by omega⟩
    have hb := B.2 (q + i) (by omega)
    have hd : dl i < 256 := (by decide : ∀ i, i < 8 → dl i < 256) i (by omega)
    unfold fT_isDistinctAt_15
    rw [if_pos ((nlt (by omega) (by omega)).mpr (by omega)), gg_t (gin_t (by omega) (by omega)), clampn (by omega), HT.2 _ (by omega), nsub (by omega), show q + i - q = i by omega, charAt_eq (by omega), Option.bind_some, List.range'_succ, List.all_cons]
    dsimp only
    by_cases c : T.2 (q + i) = dl i
    · rw [if_pos (by rw [c]), decide_eq_true c, Bool.true_and, nadd_l (q + i) 1]
      exact ih (i + 1) fu (by omega) (by omega)
    · rw [if_neg (fun z => c ((nI_eq (by omega) (by omega)).mp z)), decide_eq_false c]; rfl
theorem qis_all (T : qTp) (q : Nat) : ((List.range' 0 8).all fun k => decide (T.2 (q + k) = dl k)) = qis T q := by
  unfold qis
  show (decide (T.2 (q + 0) = 100) && (decide (T.2 (q + 1) = 105) && (decide (T.2 (q + 2) = 115) && (decide (T.2 (q + 3) = 116) && (decide (T.2 (q + 4) = 105) && (decide (T.2 (q + 5) = 110) && (decide (T.2 (q + 6) = 99) && (decide (T.2 (q + 7) = 116) && true)))))))) = _
  rw [Bool.and_true]; rfl
theorem distAt {T : qTp} (B : TpB T) {h : gH} (HT : XTp h T) {q e : Nat} (he : e ≤ T.1) (hq : q < e) : fT_isDistinctAt (nI q) (nI e) h = some (b2i (decide (e - q = 8) && qis T q), h) := by
  have hn := B.1
  unfold fT_isDistinctAt
  rw [len0_eq, Option.bind_some]
  dsimp only
  rw [nsub (by omega)]
  by_cases c : e - q = 8
  · have := dist_loop B HT (q := q) (by omega) 8 0 gfu (by omega) (by unfold gfu; omega)
    rw [qis_all] at this
    rw [if_pos (by rw [c]), decide_eq_true c, Bool.true_and, show e = q + 8 by omega]
    exact this
  · rw [if_neg (fun z => c ((nI_eq (by omega) (by omega)).mp z)), decide_eq_false c]; rfl
/-- what a token is -/
theorem kindTok {T : qTp} (B : TpB T) {h : gH} (HT : XTp h T) {q k : Nat} (hq : q < T.1) (hk : h 10 7 = nI k) (hk91 : k < 91) : Sp (fT_kindOfToken (nI q) (nI (qend T q)) h) (fun p => p.1 = nI (qkd T q) ∧ (∀ b, b ≠ 14 → p.2 b = h b) ∧ (∀ j, j ≠ k → p.2 14 j = h 14 j) ∧ ((qkd T q = 1 ∨ qkd T q = 2) → p.2 14 k = nI (qvl T q))) := by
  have hn := B.1
  have hb := B.2 q hq
  have qe := qend_gt hq
  unfold fT_kindOfToken
  rw [clampn (show q < 2 ^ 31 by omega)]
  refine Sp_gg (gin_t (by omega) (by omega)) ?_
  rw [HT.2 q hq]
  refine Sp_eq (xdig_eq (by omega) h) ?_
  dsimp only
  by_cases cd : tdg (T.2 q) = true
  · refine Sp_neg (b2i_ne _ cd) ?_
    have kd : qkd T q = if 4 < qend T q - q then 4 else 1 := by unfold qkd; rw [if_pos hq, if_pos cd]
    have kv : qvl T q = qnum T (qend T q - q) q 0 := by unfold qvl; rw [if_pos cd]
    have nu : fT_numberAt (nI q) (nI (qend T q)) h = some (nI (qvl T q), h) := by
      unfold fT_numberAt
      rw [← nI_0, kv]
      refine num_at B HT qe.2 (qend T q - q) q gfu 0 (by omega) (by unfold gfu; omega) (fun i h1 h2 => ?_)
      by_cases e : i = q
      · rw [e]; exact cd
      · have ee : qend T q = rn (fun i => tdg (T.2 i)) (T.1 - (q + 1)) (q + 1) := by unfold qend; rw [if_pos cd]
        exact rn_all (fun i => tdg (T.2 i)) (T.1 - (q + 1)) (q + 1) i (by omega) (by rw [← ee]; exact h2)
    refine Sp_eq nu ?_
    dsimp only
    rw [hk]
    refine Sp_gg (gin_t hk91 (by omega)) (Sp_let ?_)
    rw [clampn (by omega), nsub (by omega)]
    have fin : ∀ c : Nat, c = qkd T q → Sp (some (nI c, hu h 14 k (nI (qvl T q)))) (fun p => p.1 = nI (qkd T q) ∧ (∀ b, b ≠ 14 → p.2 b = h b) ∧ (∀ j, j ≠ k → p.2 14 j = h 14 j) ∧ ((qkd T q = 1 ∨ qkd T q = 2) → p.2 14 k = nI (qvl T q))) := fun c hc => Sp_some ⟨by rw [hc], fun b hb => hu_ne hb, fun j hj => (by dsimp only; rw [hu_k _ _ _ _ hj]), fun _ => (by dsimp only; rw [hu_same])⟩
    by_cases c4 : 4 < qend T q - q
    · rw [if_pos c4] at kd
      exact Sp_pos ((nI_ltI (a := 4) (by decide) (by omega)).mpr c4) (fin 4 kd.symm)
    · rw [if_neg c4] at kd
      exact Sp_neg (fun z => c4 ((nI_ltI (a := 4) (by decide) (by omega)).mp z)) (fin 1 kd.symm)
  · refine Sp_pos (by rw [Bool.eq_false_iff.mpr cd]; rfl) (Sp_eq (xsm_eq (by omega) h) ?_)
    dsimp only
    by_cases cs : tsm (T.2 q) = true
    · have s97 : 97 ≤ T.2 q ∧ T.2 q ≤ 122 := by unfold tsm at cs; exact of_decide_eq_true cs
      have kv : qvl T q = T.2 q - 97 := by unfold qvl; rw [if_neg cd]
      refine Sp_neg (b2i_ne _ cs) ?_
      rw [hk]
      refine Sp_gg (gin_t hk91 (by omega)) (Sp_let ?_)
      rw [clampn (by omega), nsub (by omega), show nI (T.2 q) - (97 : Int32) = nI (T.2 q - 97) from nsub (a := T.2 q) (b := 97) (by omega), ← kv]
      have fin : ∀ c : Nat, c = qkd T q → Sp (some (nI c, hu h 14 k (nI (qvl T q)))) (fun p => p.1 = nI (qkd T q) ∧ (∀ b, b ≠ 14 → p.2 b = h b) ∧ (∀ j, j ≠ k → p.2 14 j = h 14 j) ∧ ((qkd T q = 1 ∨ qkd T q = 2) → p.2 14 k = nI (qvl T q))) := fun c hc => Sp_some ⟨by rw [hc], fun b hb => hu_ne hb, fun j hj => (by dsimp only; rw [hu_k _ _ _ _ hj]), fun _ => (by dsimp only; rw [hu_same])⟩
      have kd : qkd T q = if qend T q - q = 1 then (if T.2 q < 105 then 2 else 4) else if qend T q - q = 8 ∧ qis T q = true then 3 else 4 := by unfold qkd; rw [if_pos hq, if_neg cd, if_pos cs]
      by_cases c1 : qend T q - q = 1
      · rw [if_pos c1] at kd
        refine Sp_pos (by rw [c1]; rfl) (Sp_eq (fX_isVariable_eq _ _) ?_)
        dsimp only
        by_cases c2 : T.2 q < 105
        · rw [if_pos c2] at kd
          exact Sp_neg (b2i_ne _ (vis_nI (by omega) (by decide))) (fin 2 kd.symm)
        · rw [if_neg c2] at kd
          refine Sp_pos ?_ (fin 4 kd.symm)
          unfold vis
          rw [vin_nI (by omega), if_neg (by omega)]; rfl
      · rw [if_neg c1] at kd
        refine Sp_neg (fun z => c1 ((nI_eq (b := 1) (by omega) (by omega)).mp z)) ?_
        have HT' : XTp (hu h 14 k (nI (qvl T q))) T := XTp_fr HT (by rw [hu_ne (by decide)]) (hu_ne (by decide))
        refine Sp_eq (distAt B HT' qe.2 qe.1) ?_
        dsimp only
        by_cases c3 : qend T q - q = 8 ∧ qis T q = true
        · rw [if_pos c3] at kd
          rw [decide_eq_true c3.1, c3.2]
          exact Sp_neg (by decide) (fin 3 kd.symm)
        · rw [if_neg c3] at kd
          refine Sp_pos ?_ (fin 4 kd.symm)
          cases hi : qis T q
          · rw [Bool.and_false]; rfl
          · rw [decide_eq_false (fun z => c3 ⟨z, hi⟩)]; rfl
    · refine Sp_pos (by rw [Bool.eq_false_iff.mpr cs]; rfl) (Sp_bind (indexOf_sp hb h) (fun p _ g => ?_))
      obtain ⟨g1, g2⟩ := g
      have kd : qkd T q = if tsg (T.2 q) = true then T.2 q else 4 := by unfold qkd; rw [if_pos hq, if_neg cd, if_neg cs]
      have fin : ∀ c : Nat, c = qkd T q → (¬ (qkd T q = 1 ∨ qkd T q = 2)) → Sp (some (nI c, p.2)) (fun p => p.1 = nI (qkd T q) ∧ (∀ b, b ≠ 14 → p.2 b = h b) ∧ (∀ j, j ≠ k → p.2 14 j = h 14 j) ∧ ((qkd T q = 1 ∨ qkd T q = 2) → p.2 14 k = nI (qvl T q))) := fun c hc hn => Sp_some ⟨by rw [hc], fun b _ => by rw [g1], fun j _ => by rw [g1], fun z => absurd z hn⟩
      by_cases cg : tsg (T.2 q) = true
      · rw [if_pos cg] at kd
        have := tsg_le cg
        rw [cg] at g2
        exact Sp_neg (of_decide_eq_false g2) (fin (T.2 q) kd.symm (by omega))
      · rw [if_neg cg] at kd
        rw [Bool.eq_false_iff.mpr cg] at g2
        exact Sp_pos (of_decide_eq_true g2) (fin 4 kd.symm (by omega))
/-- where the tokens lie, one after the other -/
def tkp (T : qTp) : Nat → Nat
  | 0 => qskip T 0
  | i + 1 => qnt T (tkp T i)
/-- the first k tokens are stored -/
def TK (h : gH) (T : qTp) (k : Nat) : Prop := h 10 7 = nI k ∧ ∀ i, i < k → h 12 i = nI (qkd T (tkp T i)) ∧ h 13 i = nI (tkp T i) ∧ ((qkd T (tkp T i) = 1 ∨ qkd T (tkp T i) = 2) → h 14 i = nI (qvl T (tkp T i)))
def xfr7 (h h1 : gH) : Prop := (∀ b, b ≠ 10 → ¬ (12 ≤ b ∧ b ≤ 14) → h1 b = h b) ∧ ∀ k, k ≠ 7 → h1 10 k = h 10 k
theorem xfr7_tr {a b c : gH} (h1 : xfr7 a b) (h2 : xfr7 b c) : xfr7 a c := ⟨fun o ho hp => (h2.1 o ho hp).trans (h1.1 o ho hp), fun k hk => (h2.2 k hk).trans (h1.2 k hk)⟩
theorem addTok {T : qTp} {h : gH} {k q : Nat} (H : TK h T k) (hk : k < 91) (e : tkp T k = q) (h14 : (qkd T q = 1 ∨ qkd T q = 2) → h 14 k = nI (qvl T q)) : Sp (fT_addToken (nI (qkd T q)) (nI q) h) (fun h1 => xfr7 h h1 ∧ TK h1 T (k + 1)) := by
  obtain ⟨h1, h2⟩ := H
  unfold fT_addToken
  rw [h1]
  refine Sp_gg (gin_t hk (by omega)) (Sp_let ?_)
  rw [hu_ne (show (10 : Nat) ≠ 12 by decide), h1, clampn (by omega)]
  refine Sp_gg (gin_t hk (by omega)) (Sp_let (Sp_some ?_))
  rw [hu_ne (show (10 : Nat) ≠ 13 by decide), hu_ne (show (10 : Nat) ≠ 12 by decide), h1, nadd_l k 1]
  refine ⟨⟨fun b b1 b2 => ?_, fun j hj => ?_⟩, hu_same _ _ _ _, fun i hi => ?_⟩
  · rw [hu_ne b1, hu_ne (by omega), hu_ne (by omega)]
  · rw [hu_k _ _ _ _ hj, hu_ne (by decide), hu_ne (by decide)]
  · rw [hu_ne (show (12 : Nat) ≠ 10 by decide), hu_ne (show (12 : Nat) ≠ 13 by decide), hu_ne (show (13 : Nat) ≠ 10 by decide), hu_ne (show (14 : Nat) ≠ 10 by decide), hu_ne (show (14 : Nat) ≠ 13 by decide), hu_ne (show (14 : Nat) ≠ 12 by decide)]
    by_cases ei : i = k
    · rw [ei, hu_same, hu_same, e]; exact ⟨rfl, rfl, h14⟩
    · rw [hu_k _ _ _ _ ei, hu_k _ _ _ _ ei, hu_ne (show (13 : Nat) ≠ 12 by decide)]
      exact h2 i (by omega)
theorem split9 {T : qTp} (B : TpB T) {h0 : gH} (HT0 : XTp h0 T) : ∀ (m p j k fu : Nat) (h : gH), p + m = T.1 → m < fu → j ≤ p → k ≤ j → xfr7 h0 h → TK h T k → tkp T k = qskip T p → (∀ i, i < k → tkp T i < T.1) → Sp (fT_split_9 fu (nI p) (nI j) h) (fun h1 => xfr7 h0 h1 ∧ ∃ c, TK h1 T (c + 1) ∧ c ≤ 90 ∧ tkp T c = T.1 ∧ ∀ i, i < c → tkp T i < T.1) := by
  have hn := B.1
  intro m
  induction m using Nat.strongRecOn with
  | _ m ih =>
    intro p j k fu h hp hfu hj hk fr H e hl
    obtain ⟨fu, rfl⟩ : ∃ f, fu = f + 1 := ⟨fu - 1, by omega⟩
    have HT : XTp h T := XTp_fr HT0 (fr.2 6 (by decide)) (fr.1 11 (by decide) (by omega))
    have fin : p = T.1 → Sp (fT_split_76 h) (fun h1 => xfr7 h0 h1 ∧ ∃ c, TK h1 T (c + 1) ∧ c ≤ 90 ∧ tkp T c = T.1 ∧ ∀ i, i < c → tkp T i < T.1) := by
      intro ep
      unfold fT_split_76
      rw [HT.1]
      have e2 : tkp T k = T.1 := by rw [e, ep, qskip_n]
      have k0 : qkd T T.1 = 0 := qkd_n (Nat.lt_irrefl _)
      have := addTok H (by omega) e2 (fun z => by rw [k0] at z; omega)
      rw [k0] at this
      exact Sp_bind this (fun h1 _ g => Sp_some ⟨xfr7_tr fr g.1, k, g.2, by omega, e2, hl⟩)
    unfold fT_split_9
    by_cases c9 : j < 90
    · refine Sp_pos ((nI_ltI (b := 90) (by omega) (by decide)).mpr c9) ?_
      by_cases cp : p < T.1
      · have hb := B.2 p cp
        refine Sp_pos (by rw [HT.1]; exact (nlt (by omega) (by omega)).mpr cp) (Sp_gg (gin_t (by omega) (by omega)) ?_)
        rw [clampn (show p < 2 ^ 31 by omega), HT.2 p cp]
        have sk : tws (T.2 p) = true → qskip T p = qskip T (p + 1) := by
          intro w
          unfold qskip
          rw [show T.1 - p = (T.1 - (p + 1)) + 1 by omega, rn_s, if_pos w]
        have go : tws (T.2 p) = true → Sp (fT_split_9 fu (nI p + 1) (nI j + 1) h) (fun h1 => xfr7 h0 h1 ∧ ∃ c, TK h1 T (c + 1) ∧ c ≤ 90 ∧ tkp T c = T.1 ∧ ∀ i, i < c → tkp T i < T.1) := by
          intro w
          rw [nadd_l p 1, nadd_l j 1]
          exact ih (m - 1) (by omega) (p + 1) (j + 1) k fu h (by omega) (by omega) (by omega) (by omega) fr H (by rw [e, sk w]) hl
        by_cases c1 : T.2 p = 32
        · exact Sp_pos (by rw [c1]; rfl) (go (by rw [c1]; rfl))
        refine Sp_neg (fun z => c1 ((nI_eq (b := 32) (by omega) (by omega)).mp z)) (Sp_gg (gin_t (by omega) (by omega)) ?_)
        by_cases c2 : T.2 p = 10
        · exact Sp_pos (by rw [c2]; rfl) (go (by rw [c2]; rfl))
        refine Sp_neg (fun z => c2 ((nI_eq (b := 10) (by omega) (by omega)).mp z)) (Sp_eq (endTok B HT cp) ?_)
        have qe := qend_gt cp
        have e2 : tkp T k = p := by
          rw [e]
          unfold qskip
          rw [show T.1 - p = (T.1 - (p + 1)) + 1 by omega, rn_s, if_neg (by unfold tws; rw [decide_eq_false c1, decide_eq_false c2]; decide)]
        dsimp only
        refine Sp_bind (kindTok B HT cp H.1 (by omega)) (fun p9 _ g => ?_)
        obtain ⟨g1, g2, g3, g4⟩ := g
        rw [g1]
        have H2 : TK p9.2 T k := ⟨by rw [g2 10 (by decide)]; exact H.1, fun i hi => by rw [g2 12 (by decide), g2 13 (by decide), g3 i (by omega)]; exact H.2 i hi⟩
        have f2 : xfr7 h0 p9.2 := xfr7_tr fr ⟨fun b b1 b2 => g2 b (by omega), fun k _ => by rw [g2 10 (by decide)]⟩
        refine Sp_bind (addTok H2 (by omega) e2 g4) (fun h3 _ g5 => ?_)
        rw [nadd_l j 1]
        refine ih (T.1 - qend T p) (by omega) (qend T p) (j + 1) (k + 1) fu h3 (by omega) (by omega) (by omega) (by omega) (xfr7_tr f2 g5.1) g5.2 ?_ (fun i hi => ?_)
        · show qnt T (tkp T k) = _
          rw [e2]; unfold qnt; rw [if_pos cp]
        · by_cases ei : i = k
          · rw [ei, e2]; exact cp
          · exact hl i (by omega)
      · exact Sp_neg (by rw [HT.1]; exact nI_nlt (by omega) (by omega)) (fin (by omega))
    · exact Sp_neg (fun z => c9 ((nI_ltI (b := 90) (by omega) (by decide)).mp z)) (fin (by omega))
theorem split_sp {T : qTp} (B : TpB T) {h : gH} (HT : XTp h T) : Sp (fT_split h) (fun h1 => xfr7 h h1 ∧ ∃ c, TK h1 T (c + 1) ∧ c ≤ 90 ∧ tkp T c = T.1 ∧ ∀ i, i < c → tkp T i < T.1) := by
  unfold fT_split
  refine Sp_let ?_
  have x0 := split9 B HT T.1 0 0 0 gfu (hu h 10 7 0) (by omega) (by have := B.1; unfold gfu; omega) (by omega) (by omega) ⟨fun b b1 _ => hu_ne b1, fun k hk => hu_k _ _ _ _ hk⟩ ⟨hu_same _ _ _ _, fun i hi => absurd hi (Nat.not_lt_zero _)⟩ rfl (fun i hi => absurd hi (Nat.not_lt_zero _))
  rw [nI_0] at x0
  exact x0

