/-! how many ways, by slots and by variables; told -/
theorem qsm_add (f : Nat → Nat) : ∀ (a k b : Nat), qsm f k (a + b) = qsm f k a + qsm f (k + a) b := by
  intro a
  induction a with
  | zero => intro k b; simp [qsm]
  | succ a ih => intro k b; rw [Nat.succ_add, qsm, qsm, ih, show k + 1 + a = k + (a + 1) by omega, Nat.add_assoc]
theorem qsm_congr {f g : Nat → Nat} : ∀ (m k : Nat), (∀ i, k ≤ i → i < k + m → f i = g i) → qsm f k m = qsm g k m := by
  intro m
  induction m with
  | zero => intro k _; rfl
  | succ m ih => intro k h; rw [qsm, qsm, h k (by omega) (by omega), ih (k + 1) (fun i h1 h2 => h i (by omega) (by omega))]
theorem qsm_rows (f : Nat → Nat) : ∀ (m k : Nat), qsm f (10 * k) (10 * m) = qsm (fun x => qsm f (10 * x) 10) k m := by
  intro m
  induction m with
  | zero => intro k; rfl
  | succ m ih => intro k; rw [qsm, show 10 * (m + 1) = 10 + 10 * m by omega, qsm_add, show 10 * k + 10 = 10 * (k + 1) by omega, ih]
theorem qsm_sh (f : Nat → Nat) (c : Nat) : ∀ (m k : Nat), qsm f (c + k) m = qsm (fun y => f (c + y)) k m := by
  intro m
  induction m with
  | zero => intro k; rfl
  | succ m ih => intro k; rw [qsm, qsm, show c + k + 1 = c + (k + 1) by omega, ih]
theorem qsm_cnt (f : Nat → Bool) : ∀ m, qsm (fun z => n1 (f z)) 0 m = qcnt f m := by
  intro m
  induction m with
  | zero => rfl
  | succ m ih => rw [show m + 1 = m + 1 from rfl, qsm_add, ih, qcnt, Nat.zero_add]; simp only [qsm, n1, Nat.add_zero]
theorem qsm_le {f : Nat → Nat} {c : Nat} (h : ∀ i, f i ≤ c) : ∀ (m k : Nat), qsm f k m ≤ c * m := by
  intro m
  induction m with
  | zero => intro k; simp [qsm]
  | succ m ih => intro k; rw [qsm, Nat.mul_succ]; have := h k; have := ih (k + 1); omega
theorem qsm_0 : ∀ (m k : Nat), qsm (fun _ => 0) k m = 0 := by
  intro m
  induction m with
  | zero => intro k; rfl
  | succ m ih => intro k; rw [qsm, ih]
theorem qsm_one (f : Nat → Nat) : qsm (fun x => if one8 x then f x else 0) 0 10 = f 0 := by
  rw [show (10 : Nat) = 9 + 1 from rfl, qsm]
  have e : qsm (fun x => if one8 x then f x else 0) (0 + 1) 9 = 0 := by
    rw [← qsm_0 9 (0 + 1)]
    exact qsm_congr 9 _ (fun i h1 _ => by unfold one8; rw [decide_eq_false (by omega)]; rfl)
  rw [e]
  unfold one8
  simp
def gwys (e0 e1 e2 : Nat → Bool) (W : Nat → Nat → Nat → Bool) (i : Nat) : Nat := if (e0 (i / 10) && e1 (i % 10)) = true then qcnt (fun z => W (i / 10) (i % 10) z && e2 z) 10 else 0
theorem gwys_le (e0 e1 e2 : Nat → Bool) (W : Nat → Nat → Nat → Bool) (i : Nat) : gwys e0 e1 e2 W i ≤ 10 := by
  unfold gwys; split
  · exact qcnt_le _ _
  · omega
theorem gwys_nways (e0 e1 e2 : Nat → Bool) (W : Nat → Nat → Nat → Bool) : qsm (gwys e0 e1 e2 W) 0 100 = nways e0 e1 e2 W := by
  rw [show (0 : Nat) = 10 * 0 from rfl, show (100 : Nat) = 10 * 10 from rfl, qsm_rows]
  unfold nways
  refine qsm_congr 10 0 (fun x _ hx => ?_)
  rw [show 10 * x = 10 * x + 0 from rfl, qsm_sh]
  have e : ∀ y, y < 10 → gwys e0 e1 e2 W (10 * x + y) = if (e0 x && e1 y) = true then qcnt (fun z => W x y z && e2 z) 10 else 0 := by
    intro y hy
    unfold gwys
    rw [show (10 * x + y) / 10 = x by omega, show (10 * x + y) % 10 = y by omega]
  cases q : e0 x with
  | false =>
    rw [if_neg (by decide), ← qsm_0 10 0]
    exact qsm_congr 10 0 (fun y _ hy => by rw [e y (by omega), q]; rfl)
  | true =>
    rw [if_pos (by rfl)]
    refine qsm_congr 10 0 (fun y _ hy => ?_)
    rw [e y (by omega), q]
    unfold nyz
    rw [← qsm_cnt]
    cases e1 y <;> rfl
theorem ways45 {r : Nat} (hr : r < 16) {e0 e1 e2 : Nat → Bool} {W : Nat → Nat → Nat → Bool} {h : gH} (hW : ∀ x, x < 10 → ∀ y, y < 10 → h 7 (100 * r + 10 * x + y) = mkn 10 (W x y)) : ∀ (m k fu c : Nat), k + m = 100 → m < fu → c + 10 * m ≤ 1000 → fR_countWays_45 (nI r) (mkn 10 e0) (mkn 10 e1) (mkn 10 e2) fu (nI c) (nI k) h = some (nI (c + qsm (gwys e0 e1 e2 W) k m), h) := by
  intro m
  induction m with
  | zero =>
    intro k fu c hk hfu hc
    obtain ⟨fu, rfl⟩ : ∃ f, fu = f + 1 := ⟨fu - 1, by omega⟩
    have : k = 100 := by omega
    subst this
    unfold fR_countWays_45
    rw [if_neg (by decide)]; rfl
  | succ m ih =>
    intro k fu c hk hfu hc
    obtain ⟨fu, rfl⟩ : ∃ f, fu = f + 1 := ⟨fu - 1, by omega⟩
    have dv : nI k / 10 = nI (k / 10) := pk_div (a := k) (d := 10) (by omega) (by omega) (by omega)
    have md : nI k - nI k / 10 * 10 = nI (k % 10) := pk_rem (a := k) (d := 10) (by omega) (by omega) (by omega)
    have g10 := gwys_le e0 e1 e2 W k
    unfold fR_countWays_45
    rw [if_pos (nltT (show k < 100 by omega) (by decide)), md, dv, nadd_l k 1]
    have cond : (mkn 10 e0 >>> (nI (k / 10) &&& 31) &&& mkn 10 e1 >>> (nI (k % 10) &&& 31)) &&& 1 = if (e0 (k / 10) && e1 (k % 10)) = true then 1 else 0 := by
      have a0 := mkn_test (show 10 ≤ 32 by omega) (show k / 10 < 10 by omega) e0
      have a1 := mkn_test (show 10 ≤ 32 by omega) (show k % 10 < 10 by omega) e1
      have e : (mkn 10 e0 >>> (nI (k / 10) &&& 31) &&& mkn 10 e1 >>> (nI (k % 10) &&& 31)) &&& 1 = ((mkn 10 e0 >>> (nI (k / 10) &&& 31)) &&& 1) &&& ((mkn 10 e1 >>> (nI (k % 10) &&& 31)) &&& 1) := by
        refine bt_ext (fun i _ => ?_)
        simp only [bt_and]
        cases bt (mkn 10 e0 >>> (nI (k / 10) &&& 31)) i <;> cases bt (mkn 10 e1 >>> (nI (k % 10) &&& 31)) i <;> cases bt 1 i <;> rfl
      rw [e, a0, a1]
      cases e0 (k / 10) <;> cases e1 (k % 10) <;> decide
    have hq : qsm (gwys e0 e1 e2 W) k (m + 1) = gwys e0 e1 e2 W k + qsm (gwys e0 e1 e2 W) (k + 1) m := rfl
    rw [hq]
    cases q : (e0 (k / 10) && e1 (k % 10)) with
    | true =>
      have gq : gwys e0 e1 e2 W k = qcnt (fun z => W (k / 10) (k % 10) z && e2 z) 10 := by unfold gwys; rw [q, if_pos rfl]
      rw [q, if_pos rfl] at cond
      rw [if_pos cond]
      have ei : nI r * 100 + nI k = nI (100 * r + 10 * (k / 10) + k % 10) := by
        rw [nmul_l, nI_add]; exact congrArg nI (by omega)
      rw [ei, gg_t (gin_t (by omega) (by omega)), clampn (by omega), hW _ (by omega) _ (by omega), mkn_and (by omega), bitCount_eq, bc_mkn (by omega), Option.bind_some]
      dsimp only
      rw [nI_add, ih (k + 1) fu _ (by omega) (by omega) (by omega), ← gq, Nat.add_assoc]
    | false =>
      have gq : gwys e0 e1 e2 W k = 0 := by unfold gwys; rw [q]; rfl
      rw [q] at cond
      rw [if_neg (by rw [cond]; decide), ih (k + 1) fu c (by omega) (by omega) (by omega), gq, Nat.zero_add]
/-- by slots as by variables -/
theorem nways_slots {vs : Nat → Bool} (hc : (vls vs).length ≤ 3) (D : Nat → Nat → Bool) (T : Nat → Nat → Nat → Bool) : nways (dsl D (slt vs 0)) (dsl D (slt vs 1)) (dsl D (slt vs 2)) (Wof (vls vs).length T) = nways (dvr vs D 0) (dvr vs D 1) (dvr vs D 2) T := by
  have hm : ∀ a, a ∈ vls vs → a < 8 := fun a ha => ((mem_vls vs a).mp ha).1
  have hdl : ∀ a, a ∈ vls vs → dsl D a = D a := fun a ha => by unfold dsl; rw [if_neg (by have := hm a ha; omega)]
  have o1 : ∀ (f : Nat → Bool), qsm (fun z => n1 (f z && one8 z)) 0 10 = n1 (f 0) := fun f => by
    rw [← qsm_one (fun z => n1 (f z))]
    exact qsm_congr 10 0 (fun z _ _ => by cases one8 z <;> cases f z <;> rfl)
  unfold slt dvr
  generalize vls vs = l at hc hm hdl ⊢
  match l, hc with
  | [], _ =>
    simp only [List.length_nil, show (0 + 0 < 3) = True by simp, show (1 + 0 < 3) = True by simp, show (2 + 0 < 3) = True by simp, if_true, show dsl D 8 = one8 from rfl, List.getElem?_nil]
    unfold nways nyz
    simp only [qsm_one, o1]
    rfl
  | [a], _ =>
    have da := hdl a (by simp)
    simp only [List.length_cons, List.length_nil, show (0 + (0 + 1) < 3) = True by simp, show (1 + (0 + 1) < 3) = True by simp, show (2 + (0 + 1) < 3) = False by simp, if_true, if_false, show dsl D 8 = one8 from rfl, show 2 + (0 + 1) - 3 = 0 from rfl, List.getD_cons_zero, da, show ([a] : List Nat)[0]? = some a from rfl, show ([a] : List Nat)[1]? = none from rfl, show ([a] : List Nat)[2]? = none from rfl]
    unfold nways nyz
    simp only [qsm_one, o1]
    refine qsm_congr 10 0 (fun z _ _ => ?_)
    unfold Wof
    cases D a z <;> cases T z 0 0 <;> rfl
  | [a, b], _ =>
    have da := hdl a (by simp)
    have db := hdl b (by simp)
    simp only [List.length_cons, List.length_nil, show (0 + (0 + 1 + 1) < 3) = True by simp, show (1 + (0 + 1 + 1) < 3) = False by simp, show (2 + (0 + 1 + 1) < 3) = False by simp, if_true, if_false, show dsl D 8 = one8 from rfl, show 2 + (0 + 1 + 1) - 3 = 1 from rfl, show 1 + (0 + 1 + 1) - 3 = 0 from rfl, List.getD_cons_zero, List.getD_cons_succ, da, db, show ([a, b] : List Nat)[0]? = some a from rfl, show ([a, b] : List Nat)[1]? = some b from rfl, show ([a, b] : List Nat)[2]? = none from rfl]
    unfold nways nyz
    simp only [qsm_one, o1]
    refine qsm_congr 10 0 (fun y _ _ => ?_)
    cases D a y with
    | false => rfl
    | true =>
      rw [if_pos rfl, if_pos rfl]
      refine qsm_congr 10 0 (fun z _ _ => ?_)
      unfold Wof
      cases D b z <;> cases T y z 0 <;> rfl
  | [a, b, c], _ =>
    have da := hdl a (by simp)
    have db := hdl b (by simp)
    have dc := hdl c (by simp)
    simp only [List.length_cons, List.length_nil, show (0 + (0 + 1 + 1 + 1) < 3) = False by simp, show (1 + (0 + 1 + 1 + 1) < 3) = False by simp, show (2 + (0 + 1 + 1 + 1) < 3) = False by simp, if_false, show 2 + (0 + 1 + 1 + 1) - 3 = 2 from rfl, show 1 + (0 + 1 + 1 + 1) - 3 = 1 from rfl, show 0 + (0 + 1 + 1 + 1) - 3 = 0 from rfl, List.getD_cons_zero, List.getD_cons_succ, da, db, dc, show ([a, b, c] : List Nat)[0]? = some a from rfl, show ([a, b, c] : List Nat)[1]? = some b from rfl, show ([a, b, c] : List Nat)[2]? = some c from rfl]
    have hW : Wof (0 + 1 + 1 + 1) T = T := by funext x y z; unfold Wof; rw [if_pos rfl]
    rw [hW]
theorem countWays_eq {h : gH} {S : qW} (H : AX h S) (W : WI S) {r : Nat} (hr : r < S.1.1) : fR_countWays (nI r) h = some (nI (nways (dvr (S.1.2.1 r) S.2.1.1.1 0) (dvr (S.1.2.1 r) S.2.1.1.1 1) (dvr (S.1.2.1 r) S.2.1.1.1 2) (S.1.2.2.1 r)), h) := by
  have h16 := W.1
  obtain ⟨R1, R2, R3, R4⟩ := XR_of H hr
  have C := H.2.1.1
  have i0 : nI r * 3 = nI (3 * r + 0) := by rw [nmul_l]; exact congrArg nI (by omega)
  have i1 : nI r * 3 + 1 = nI (3 * r + 1) := by rw [nmul_l, nadd_l]; exact congrArg nI (by omega)
  have i2 : nI r * 3 + 2 = nI (3 * r + 2) := by rw [nmul_l, nadd_l]; exact congrArg nI (by omega)
  have s0 := slt_le (S.1.2.1 r) 0
  have s1 := slt_le (S.1.2.1 r) 1
  have s2 := slt_le (S.1.2.1 r) 2
  unfold fR_countWays
  rw [i1, i2, i0, clampn (by omega), clampn (by omega), clampn (by omega), R3 0 (by omega), R3 1 (by omega), R3 2 (by omega), gg_t (gin_t (by omega) (by omega)), gg_t (gin_t (by omega) (by omega)), gg_t (gin_t (by omega) (by omega)), gg_t (gin_t (by omega) (by omega)), gg_t (gin_t (by omega) (by omega)), gg_t (gin_t (by omega) (by omega)), clampn (by omega), clampn (by omega), clampn (by omega)]
  have x0 := ways45 (r := r) (by omega) (e0 := dsl S.2.1.1.1 (slt (S.1.2.1 r) 0)) (e1 := dsl S.2.1.1.1 (slt (S.1.2.1 r) 1)) (e2 := dsl S.2.1.1.1 (slt (S.1.2.1 r) 2)) (h := h) R4 100 0 gfu 0 (by omega) (by unfold gfu; omega) (by omega)
  rw [nI_0, Nat.zero_add, gwys_nways, nways_slots R2] at x0
  rw [show h 18 (slt (S.1.2.1 r) 0) = _ from dsl_at C.1 C.2.1 s0, show h 18 (slt (S.1.2.1 r) 1) = _ from dsl_at C.1 C.2.1 s1, show h 18 (slt (S.1.2.1 r) 2) = _ from dsl_at C.1 C.2.1 s2]
  exact x0
/-- how many went by a rule -/
def wbc (t : qT) (rs : Int32) (i : Nat) : Bool := decide ((t.map Prod.snd)[i]? = some rs)
theorem xwb {o : Nat} {h : gH} {t : qT} (ht : TL h o t) (hl : t.length ≤ 80) (rs : Int32) : ∀ (m k fu : Nat), k + m = t.length → m < fu → fH_wentBy_4 o rs fu (nI (qcnt (wbc t rs) k)) (nI k) h = some (nI (qcnt (wbc t rs) t.length), h) := by
  intro m
  induction m with
  | zero =>
    intro k fu hk hfu
    obtain ⟨fu, rfl⟩ : ∃ f, fu = f + 1 := ⟨fu - 1, by omega⟩
    have : k = t.length := by omega
    subst this
    unfold fH_wentBy_4
    rw [ht.1, if_neg (nI_nlt (Nat.le_refl _) (by omega))]
  | succ m ih =>
    intro k fu hk hfu
    obtain ⟨fu, rfl⟩ : ∃ f, fu = f + 1 := ⟨fu - 1, by omega⟩
    have hkt : k < t.length := by omega
    have t2 : (t.map Prod.snd)[k]? = some t[k].2 := by rw [List.getElem?_map, List.getElem?_eq_getElem hkt]; rfl
    have i1 := ih (k + 1) fu (by omega) (by omega)
    unfold fH_wentBy_4 fH_wentBy_28
    rw [ht.1, if_pos ((nlt (by omega) (by omega)).mpr hkt), gg_t (gin_t (by omega) (by omega)), clampn (by omega), (ht.2 k _ (tmap hkt).1).2, nadd_l k 1]
    rw [qcnt] at i1
    by_cases e : t[k].2 = rs
    · rw [show wbc t rs k = true from decide_eq_true (by rw [t2, e])] at i1
      rw [if_pos e, nadd_l _ 1]; exact i1
    · rw [show wbc t rs k = false from decide_eq_false (by rw [t2]; exact fun z => e (Option.some.inj z))] at i1
      rw [if_neg e, nadd_l _ 0]; exact i1
theorem mwb {h : gH} {t : qT} (ht : MT h t) (hl : t.length ≤ 80) (rs : Int32) : ∀ (m k fu : Nat), k + m = t.length → m < fu → fM_wentBy_4 rs fu (nI (qcnt (wbc t rs) k)) (nI k) h = some (nI (qcnt (wbc t rs) t.length), h) := by
  intro m
  induction m with
  | zero =>
    intro k fu hk hfu
    obtain ⟨fu, rfl⟩ : ∃ f, fu = f + 1 := ⟨fu - 1, by omega⟩
    have : k = t.length := by omega
    subst this
    unfold fM_wentBy_4
    rw [ht.1, if_neg (nI_nlt (Nat.le_refl _) (by omega))]
  | succ m ih =>
    intro k fu hk hfu
    obtain ⟨fu, rfl⟩ : ∃ f, fu = f + 1 := ⟨fu - 1, by omega⟩
    have hkt : k < t.length := by omega
    have t2 : (t.map Prod.snd)[k]? = some t[k].2 := by rw [List.getElem?_map, List.getElem?_eq_getElem hkt]; rfl
    have i1 := ih (k + 1) fu (by omega) (by omega)
    unfold fM_wentBy_4 fM_wentBy_28
    rw [ht.1, if_pos ((nlt (by omega) (by omega)).mpr hkt), gg_t (gin_t (by omega) (by omega)), clampn (by omega), (ht.2 k _ (tmap hkt).1).2, nadd_l k 1]
    rw [qcnt] at i1
    by_cases e : t[k].2 = rs
    · rw [show wbc t rs k = true from decide_eq_true (by rw [t2, e])] at i1
      rw [if_pos e, nadd_l _ 1]; exact i1
    · rw [show wbc t rs k = false from decide_eq_false (by rw [t2]; exact fun z => e (Option.some.inj z))] at i1
      rw [if_neg e, nadd_l _ 0]; exact i1
def s_told (S : qW) (v1 v2 : Int32) : Int32 := match vin S.1.1 v1 with
  | none => -2
  | some r => match vin 7 v2 with
    | none => -2
    | some 0 => nI (S.1.2.2.2 r)
    | some 1 => mkn 8 (S.1.2.1 r)
    | some 2 => nI (Er (Et S.1) r)
    | some 3 => b2i (S.2.1.1.2.1 r)
    | some 4 => b2i (s_idle S r)
    | some 5 => nI (nways (dvr (S.1.2.1 r) S.2.1.1.1 0) (dvr (S.1.2.1 r) S.2.1.1.1 1) (dvr (S.1.2.1 r) S.2.1.1.1 2) (S.1.2.2.1 r))
    | some _ => nI (qcnt (wbc S.2.1.1.2.2.2 (nI r)) S.2.1.1.2.2.2.length)
theorem X_told {h : gH} {S : qW} (H : AX h S) (W : WI S) (v1 v2 : Int32) : Sp (fX_told v1 v2 h) (fun p => p.1 = s_told S v1 v2 ∧ AX p.2 S) := by
  have h16 := W.1
  have hT : PT S.2.1.1 := W.2.1.2.1
  have hlen := hT.len
  unfold fX_told s_told
  refine Sp_eq (fX_isRule_eq (show S.1.1 < 2 ^ 31 by omega) v1 H.1.1.2.2.1) ?_
  dsimp only
  rcases vin_cases S.1.1 (by omega) v1 with ⟨r, hr, e1, e⟩ | ⟨e, -⟩
  · subst e1
    rw [e, vis_nI hr (by omega)]
    dsimp only
    refine Sp_neg (by decide) ?_
    rcases vin_cases 7 (by decide) v2 with ⟨k, hk, e2, e3⟩ | ⟨e3, q⟩
    · subst e2
      rw [e3]
      match k, hk with
      | 0, _ =>
        refine Sp_pos (by decide) (Sp_gg (gin_t (by omega) (by omega)) (Sp_some ⟨?_, H⟩))
        dsimp only
        rw [clampn (by omega), (H.1.2 r hr).1]; rfl
      | 1, _ =>
        refine Sp_neg (by decide) (Sp_pos (by decide) (Sp_gg (gin_t (by omega) (by omega)) (Sp_some ⟨?_, H⟩)))
        dsimp only
        rw [clampn (by omega), (XR_of H hr).1]; rfl
      | 2, _ =>
        refine Sp_neg (by decide) (Sp_neg (by decide) (Sp_pos (by decide) (Sp_gg (gin_t (by omega) (by omega)) (Sp_some ⟨?_, H⟩))))
        dsimp only
        rw [clampn (by omega)]
        exact (H.1.1.2.2.2.2.2.1 r (by rw [Eact_Et]; exact decide_eq_true hr)).1
      | 3, _ =>
        refine Sp_neg (by decide) (Sp_neg (by decide) (Sp_neg (by decide) (Sp_pos (by decide) (Sp_some ⟨?_, H⟩))))
        dsimp only
        have h7 : h 17 7 = mkn 24 S.2.1.1.2.1 := H.2.1.1.2.2.1
        rw [h7, mkn_test (by omega) (by omega)]
        rfl
      | 4, _ =>
        refine Sp_neg (by decide) (Sp_neg (by decide) (Sp_neg (by decide) (Sp_neg (by decide) (Sp_pos (by decide) (Sp_bind (X_isIdle H W hr) (fun p _ q => ?_))))))
        obtain ⟨q1, q2⟩ := q
        cases hq : s_idle S r with
        | true => exact Sp_neg (by rw [q1, hq]; decide) (Sp_some ⟨rfl, q2⟩)
        | false => exact Sp_pos (by rw [q1, hq]; rfl) (Sp_some ⟨rfl, q2⟩)
      | 5, _ =>
        exact Sp_neg (by decide) (Sp_neg (by decide) (Sp_neg (by decide) (Sp_neg (by decide) (Sp_neg (by decide) (Sp_pos (by decide) (Sp_eq (countWays_eq H W hr) (Sp_some ⟨rfl, H⟩)))))))
      | 6, _ =>
        refine Sp_neg (by decide) (Sp_neg (by decide) (Sp_neg (by decide) (Sp_neg (by decide) (Sp_neg (by decide) (Sp_neg (by decide) (Sp_pos (by decide) ?_))))))
        unfold fH_wentBy
        have x0 := xwb H.2.1.1.2.2.2.2.1 hlen (nI r) S.2.1.1.2.2.2.length 0 gfu (by omega) (by unfold gfu; omega)
        rw [show qcnt (wbc S.2.1.1.2.2.2 (nI r)) 0 = 0 from rfl, nI_0] at x0
        exact Sp_eq x0 (Sp_some ⟨rfl, H⟩)
    · have hn : ∀ k, k < 7 → ¬ v2 = nI k := fun k hk z => by
        rcases q with q | q
        · rw [z] at q; exact nI_pos (by omega) q
        · rw [z] at q; exact q ((nlt (by omega) (by omega)).mpr hk)
      rw [e3]
      exact Sp_neg (hn 0 (by omega)) (Sp_neg (hn 1 (by omega)) (Sp_neg (hn 2 (by omega)) (Sp_neg (hn 3 (by omega)) (Sp_neg (hn 4 (by omega)) (Sp_neg (hn 5 (by omega)) (Sp_neg (hn 6 (by omega)) (Sp_some ⟨rfl, H⟩)))))))
  · rw [e, vis_none e]
    exact Sp_pos rfl (Sp_some ⟨rfl, H⟩)
theorem M_told {h : gH} {S : qW} (H : BM h S) (W : WI S) (v1 v2 : Int32) : Sp (fM_told v1 v2 h) (fun p => p.1 = s_told S v1 v2 ∧ BM p.2 S) := by
  have h16 := W.1
  have h8 : h 65 8 = nI S.1.1 := H.1.1.1.2.2.2.1
  have hT : PT S.2.1.1 := W.2.1.2.1
  have hlen := hT.len
  unfold fM_told s_told
  rw [h8]
  refine Sp_eq (fM_in_eq (n := S.1.1) (hi_pred (by omega)) v1 h) ?_
  dsimp only
  rcases vin_cases S.1.1 (by omega) v1 with ⟨r, hr, e1, e⟩ | ⟨e, -⟩
  · subst e1
    have hm := H.1.1.1.2.2.2.2.2.1 r hr
    have hact : Eact (Et S.1) r = true := by rw [Eact_Et]; exact decide_eq_true hr
    rw [e, vis_nI hr (by omega)]
    dsimp only
    refine Sp_neg (by decide) (Sp_eq (fM_in_eq (n := 7) (by decide) v2 h) ?_)
    dsimp only
    rcases vin_cases 7 (by decide) v2 with ⟨k, hk, e2, e3⟩ | ⟨e3, q⟩
    · subst e2
      rw [e3, vis_nI hk (by decide)]
      refine Sp_neg (by decide) ?_
      match k, hk with
      | 0, _ =>
        refine Sp_neg (by decide) (Sp_pos (by decide) (Sp_gg (gin_t (by omega) (by omega)) (Sp_some ⟨?_, H⟩)))
        dsimp only
        rw [clampn (by omega), hm.2.1]; rfl
      | 1, _ =>
        refine Sp_neg (by decide) (Sp_neg (by decide) (Sp_pos (by decide) (Sp_gg (gin_t (by omega) (by omega)) (Sp_some ⟨?_, H⟩))))
        dsimp only
        rw [clampn (by omega), hm.1]; rfl
      | 2, _ =>
        exact Sp_neg (by decide) (Sp_neg (by decide) (Sp_neg (by decide) (Sp_pos (by decide) (Sp_eq (priority_eq H.1.1.1.2 hact).1 (Sp_some ⟨rfl, H⟩)))))
      | 3, _ =>
        refine Sp_neg (by decide) (Sp_neg (by decide) (Sp_neg (by decide) (Sp_neg (by decide) (Sp_pos (by decide) (Sp_gg (gin_t (by omega) (by omega)) ?_)))))
        have e71 := H.1.1.2.1.2.1 r (by omega) hact
        rw [clampn (by omega)]
        cases q : S.2.1.1.2.1 r with
        | true => rw [q] at e71; exact Sp_neg (by rw [e71]; decide) (Sp_some ⟨rfl, H⟩)
        | false => rw [q] at e71; exact Sp_pos (by rw [e71]; rfl) (Sp_some ⟨rfl, H⟩)
      | 4, _ =>
        refine Sp_neg (by decide) (Sp_neg (by decide) (Sp_neg (by decide) (Sp_neg (by decide) (Sp_neg (by decide) (Sp_pos (by decide) (Sp_bind (M_isIdle H W hr) (fun p _ q => ?_)))))))
        obtain ⟨q1, q2⟩ := q
        cases hq : s_idle S r with
        | true => exact Sp_neg (by rw [q1, hq]; decide) (Sp_some ⟨rfl, q2⟩)
        | false => exact Sp_pos (by rw [q1, hq]; rfl) (Sp_some ⟨rfl, q2⟩)
      | 5, _ =>
        refine Sp_pos (by decide) (Sp_bind (Sp_and (Sp_and (through_sp (r := r) (by omega) hm.1 H.1.1.2.1.1 hm.2.2.2.2.2) (fun x e => fM_goesThrough_fr e)) (fun x e => fM_goesThrough_zb H.2.2.2.2 e)) (fun h1 _ q => Sp_some ?_))
        obtain ⟨⟨⟨q1, q2⟩, fr⟩, zb⟩ := q
        refine ⟨q2.2.2.2, BM_same H fr (by decide) (by decide) ?_ zb⟩
        exact MC_fr H.1 (fun k hk => q1.2 k (by omega)) (fun b b1 b2 => q1.1 b (by omega) (by omega))
      | 6, _ =>
        refine Sp_neg (by decide) (Sp_neg (by decide) (Sp_neg (by decide) (Sp_neg (by decide) (Sp_neg (by decide) (Sp_neg (by decide) ?_)))))
        unfold fM_wentBy
        have hL : MT h S.2.1.1.2.2.2 := H.1.1.2.2.2
        have x0 := mwb hL hlen (nI r) S.2.1.1.2.2.2.length 0 gfu (by omega) (by unfold gfu; omega)
        rw [show qcnt (wbc S.2.1.1.2.2.2 (nI r)) 0 = 0 from rfl, nI_0] at x0
        exact Sp_eq x0 (Sp_some ⟨rfl, H⟩)
    · rw [e3, vis_none e3]
      exact Sp_pos rfl (Sp_some ⟨rfl, H⟩)
  · rw [e, vis_none e]
    exact Sp_pos rfl (Sp_some ⟨rfl, H⟩)
