/-! what is only read: domain, trail, decision; feed -/
def s_domain (S : qW) (v : Int32) : Int32 := match vin 8 v with
  | none => -2
  | some x => mkn 10 (S.2.1.1.1 x)
theorem X_domain {h : gH} {S : qW} (H : AX h S) (v : Int32) : fX_domain v h = some (s_domain S v, h) := by
  unfold fX_domain s_domain
  rw [fX_isVariable_eq]
  rcases vin_cases 8 (by decide) v with ⟨x, hx, e1, e⟩ | ⟨e, -⟩
  · rw [e]; subst e1
    rw [vis_nI hx (by decide)]
    dsimp only [Option.bind]
    rw [if_neg (show ¬ b2i true = 0 by decide), gg_t (gin_t (by omega) (by omega)), clampn (by omega)]
    show some (h 18 x, h) = _
    rw [H.2.1.1.1 x hx]
  · rw [e, vis_none e]; rfl
/-- the first place of a code -/
def plc (t : qT) (c : Nat) : Nat → Nat → Option Nat
  | _, 0 => none
  | k, m + 1 => if (t.map Prod.fst)[k]? = some c then some k else plc t c (k + 1) m
theorem tmap {t : qT} {i : Nat} (h : i < t.length) : t[i]? = some t[i] ∧ (t.map Prod.fst)[i]? = some t[i].1 := by
  refine ⟨List.getElem?_eq_getElem h, ?_⟩
  rw [List.getElem?_map, List.getElem?_eq_getElem h]; rfl
theorem xplc {o : Nat} {h : gH} {t : qT} (ht : TL h o t) (hl : t.length ≤ 80) (hc : ∀ a ∈ t, a.1 < 80) {c : Nat} (h80 : c < 80) : ∀ (m k fu : Nat), k + m = t.length → m < fu → fH_placeOf_2 o (nI c) fu (nI k) h = some (oI (plc t c k m), h) := by
  intro m
  induction m with
  | zero =>
    intro k fu hk hfu
    obtain ⟨fu, rfl⟩ : ∃ f, fu = f + 1 := ⟨fu - 1, by omega⟩
    unfold fH_placeOf_2
    rw [ht.1, if_neg (nI_nlt (by omega) (by omega))]; rfl
  | succ m ih =>
    intro k fu hk hfu
    obtain ⟨fu, rfl⟩ : ∃ f, fu = f + 1 := ⟨fu - 1, by omega⟩
    have hkt : k < t.length := by omega
    obtain ⟨t1, t2⟩ := tmap hkt
    have hck := hc _ (List.getElem_mem hkt)
    unfold fH_placeOf_2 plc
    rw [ht.1, if_pos ((nlt (by omega) (by omega)).mpr hkt), gg_t (gin_t (by omega) (by omega)), clampn (by omega), (ht.2 k _ t1).1, t2, nadd_l k 1, ih (k + 1) fu (by omega) (by omega)]
    by_cases e : t[k].1 = c
    · rw [if_pos (by rw [e]), if_pos (by rw [e])]; rfl
    · rw [if_neg (fun z => e ((nI_eq (by omega) (by omega)).mp z)), if_neg (fun z => e (Option.some.inj z))]
def s_trail (S : qW) (v1 v2 : Int32) : Int32 := if 1000 ≤ v2.toInt ∧ v2.toInt ≤ 1079 then oI (plc S.2.1.1.2.2.2 (v2.toInt - 1000).toNat 0 S.2.1.1.2.2.2.length) else
  if vis 2 v2 = false then -2 else match vin S.2.1.1.2.2.2.length v1 with
  | none => -12
  | some i => if v2 = 0 then nI (S.2.1.1.2.2.2.getD i (0, 0)).1 else (S.2.1.1.2.2.2.getD i (0, 0)).2
theorem tr27 {h : gH} {S : qW} (H : AX h S) (W : WI S) (v1 v2 : Int32) : fX_trail_27 v1 v2 h = some (if vis 2 v2 = false then -2 else match vin S.2.1.1.2.2.2.length v1 with
  | none => -12
  | some i => if v2 = 0 then nI (S.2.1.1.2.2.2.getD i (0, 0)).1 else (S.2.1.1.2.2.2.getD i (0, 0)).2, h) := by
  have hT : PT S.2.1.1 := W.2.1.2.1
  have hlen := hT.len
  have hL := H.2.1.1.2.2.2.2.1
  unfold fX_trail_27
  cases hv : vis 2 v2 with
  | false =>
    rw [if_pos rfl]
    rcases vis_f (n := 1) (by decide) hv with q | (q : (1 : Int32) < v2)
    · rw [if_pos q]
    · by_cases q2 : v2 < 0
      · rw [if_pos q2]
      · rw [if_neg q2, if_pos q]
  | true =>
    obtain ⟨k, hk, e2⟩ := vis_some (by decide) hv
    have n1 : ¬ v2 < 0 := by rw [e2]; exact nI_pos (by omega)
    have n2 : ¬ (1 : Int32) < v2 := by rw [e2]; exact fun z => by have := (nlt (a := 1) (by omega) (by omega)).mp z; omega
    rw [if_neg n1, if_neg n2, if_neg (show ¬ true = false by decide)]
    rcases vin_cases S.2.1.1.2.2.2.length (by omega) v1 with ⟨x, hx, e1, e⟩ | ⟨e, q⟩
    · rw [e]; subst e1
      rw [if_neg (show ¬ nI x < 0 from nI_pos (by omega)), hL.1, if_pos ((nlt (by omega) (by omega)).mpr hx), gg_t (gin_t (by omega) (by omega)), gg_t (gin_t (by omega) (by omega)), clampn (by omega)]
      have hd : S.2.1.1.2.2.2.getD x (0, 0) = S.2.1.1.2.2.2[x] := by rw [List.getD_eq_getElem?_getD, (tmap hx).1]; rfl
      have := hL.2 x _ (tmap hx).1
      show (if v2 = 0 then some (h 20 x, h) else some (h 21 x, h)) = _
      rw [this.1, this.2]
      dsimp only
      rw [hd]
      split <;> rfl
    · rw [e, hL.1]
      by_cases q2 : v1 < 0
      · rw [if_pos q2]
      · rw [if_neg q2, if_neg (by rcases q with q | q; exact absurd q q2; exact q)]
theorem X_trail {h : gH} {S : qW} (H : AX h S) (W : WI S) (v1 v2 : Int32) : fX_trail v1 v2 h = some (s_trail S v1 v2, h) := by
  have hT : PT S.2.1.1 := W.2.1.2.1
  have hlen := hT.len
  unfold fX_trail s_trail
  rw [tr27 H W]
  have e1000 : (1000 : Int32).toInt = 1000 := by decide
  have e1080 : (1080 : Int32).toInt = 1080 := by decide
  by_cases q1 : v2 < 1000
  · rw [if_pos q1]
    rw [Int32.lt_iff_toInt_lt, e1000] at q1
    rw [if_neg (c := 1000 ≤ v2.toInt ∧ v2.toInt ≤ 1079) (by omega)]
  · rw [if_neg q1]
    rw [Int32.lt_iff_toInt_lt, e1000] at q1
    by_cases q2 : v2 < 1080
    · rw [if_pos q2]
      rw [Int32.lt_iff_toInt_lt, e1080] at q2
      rw [if_pos (by omega)]
      have e2 : v2 - 1000 = nI (v2.toInt - 1000).toNat := by
        have : v2 = nI v2.toInt.toNat := Int32.toInt_inj.mp (by rw [nI_toInt (by omega)]; omega)
        rw [this, nsub_l (show 1000 ≤ v2.toInt.toNat by omega), nI_toInt (by omega)]
        exact congrArg nI (by omega)
      unfold fH_placeOf
      have c80 : (v2.toInt - 1000).toNat < 80 := by omega
      generalize (v2.toInt - 1000).toNat = c at e2 c80 ⊢
      have x0 := xplc H.2.1.1.2.2.2.2.1 hlen hT.1 c80 S.2.1.1.2.2.2.length 0 gfu (by omega) (by unfold gfu; omega)
      rw [nI_0] at x0
      rw [e2, x0]
      dsimp only [Option.bind]
    · rw [if_neg q2]
      rw [Int32.lt_iff_toInt_lt, e1080] at q2
      rw [if_neg (c := 1000 ≤ v2.toInt ∧ v2.toInt ≤ 1079) (by omega)]
