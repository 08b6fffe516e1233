/-- the rules that count: those of the texts, n of them, and l learned ones behind room for all; from the k-th on -/
def qact (n l k r : Nat) : Bool := decide (k ≤ r ∧ r < n) || decide (16 ≤ r ∧ r < 16 + l ∧ k ≤ n + (r - 16))
theorem queues_loop {n l : Nat} (hn : n ≤ 16) (hl : l ≤ 8) (vm but : Int32) : ∀ (m k fu : Nat) (h : gH), k + m = n + l → m < fu → h 65 8 = nI n → h 65 9 = nI l →
    Sp (fM_queues_2 vm but fu (nI k) h) (fun h' => (∀ b, b ≠ 71 → h' b = h b) ∧ ∀ r, h' 71 r = if h 65 2 = 0 ∧ qact n l k r = true ∧ ¬ nI r = but ∧ ¬ (h 68 r &&& vm) = 0 then 1 else h 71 r) := by
  intro m
  induction m with
  | zero =>
    intro k fu h hk hfu h8 h9
    obtain ⟨fu, rfl⟩ : ∃ f, fu = f + 1 := ⟨fu - 1, by omega⟩
    unfold fM_queues_2 fM_allRules
    refine Sp_bind (Sp_some rfl) ?_
    rintro p - rfl
    dsimp only
    rw [h8, h9, nI_add]
    refine Sp_neg (fun q => by have := (nlt (by omega) (by omega)).mp q; omega) (Sp_some ⟨fun _ _ => rfl, fun r => ?_⟩)
    rw [if_neg]
    rintro ⟨-, q, -⟩
    unfold qact at q
    rw [decide_eq_false (by omega), decide_eq_false (by omega)] at q
    cases q
  | succ m ih =>
    intro k fu h hk hfu h8 h9
    obtain ⟨fu, rfl⟩ : ∃ f, fu = f + 1 := ⟨fu - 1, by omega⟩
    unfold fM_queues_2 fM_allRules
    refine Sp_bind (Sp_some rfl) ?_
    rintro p - rfl
    dsimp only
    rw [h8, h9, nI_add]
    refine Sp_pos ((nlt (by omega) (by omega)).mpr (by omega)) ?_
    refine Sp_if (fun q => ?_) (fun q => ?_)
    · -- the k-th rule
      have hra : fM_ruleAt (nI k) h = some (nI (if k < n then k else 16 + k - n), h) := by
        unfold fM_ruleAt
        rw [h8]
        by_cases hkn : k < n
        · rw [if_pos ((nlt (by omega) (by omega)).mpr hkn), if_pos hkn]
        · rw [if_neg (fun q => hkn ((nlt (by omega) (by omega)).mp q)), if_neg hkn, nadd_r, nsub (by omega)]
      rw [hra]
      refine Sp_bind (Sp_some rfl) ?_
      rintro p - rfl
      dsimp only
      obtain ⟨r0, hr0⟩ : ∃ r0, r0 = (if k < n then k else 16 + k - n) := ⟨_, rfl⟩
      rw [← hr0]
      have hlt : r0 < 24 := by rw [hr0]; split <;> omega
      have hact : ∀ r, qact n l k r = (decide (r = r0) || qact n l (k + 1) r) := fun r => by
        unfold qact
        rw [Bool.eq_iff_iff]
        simp only [Bool.or_eq_true, decide_eq_true_eq]
        rw [hr0]
        split <;> omega
      have hno : qact n l (k + 1) r0 = false := by
        unfold qact
        rw [decide_eq_false, decide_eq_false]
        · rfl
        · rw [hr0]; split <;> omega
        · rw [hr0]; split <;> omega
      refine Sp_if (fun qb => ?_) (fun qb => ?_)
      · rw [nadd_l]
        refine Sp_mono (ih (k + 1) fu h (by omega) (by omega) h8 h9) ?_
        rintro h' ⟨a1, a2⟩
        refine ⟨a1, fun r => ?_⟩
        rw [a2 r, hact r]
        by_cases hr : r = r0
        · subst hr; rw [hno]; simp [qb]
        · simp [hr]
      · refine Sp_gg (gin_t hlt (by omega)) ?_
        rw [clampn (by omega)]
        refine Sp_if (fun qs => ?_) (fun qs => ?_)
        · rw [nadd_l]
          refine Sp_mono (ih (k + 1) fu h (by omega) (by omega) h8 h9) ?_
          rintro h' ⟨a1, a2⟩
          refine ⟨a1, fun r => ?_⟩
          rw [a2 r, hact r]
          by_cases hr : r = r0
          · subst hr; rw [hno]; simp [qs]
          · simp [hr]
        · refine Sp_gg (gin_t hlt (by omega)) (Sp_let ?_)
          rw [nadd_l]
          refine Sp_mono (ih (k + 1) fu _ (by omega) (by omega) (by rw [hu_o _ _ _ _ _ (by omega)]; exact h8) (by rw [hu_o _ _ _ _ _ (by omega)]; exact h9)) ?_
          rintro h' ⟨a1, a2⟩
          refine ⟨fun b hb => (a1 b hb).trans (hu_ne hb), fun r => ?_⟩
          rw [a2 r, hact r, hu_o _ _ _ _ _ (by omega), hu_ne (by omega)]
          by_cases hr : r = r0
          · subst hr; rw [hno, hu_same]; simp [q, qb, qs]
          · rw [hu_k _ _ _ _ hr]; simp [hr]
    · refine Sp_some ⟨fun _ _ => rfl, fun r => ?_⟩
      rw [if_neg (fun z => q z.1)]
theorem queues_sp {V : Nat → Bool} {n l : Nat} (hn : n ≤ 16) (hl : l ≤ 8) (vm but : Int32) {h : gH} {D : Nat → Nat → Bool} {Q : Nat → Bool} {f : Bool} (H : MX V h D Q f) (h8 : h 65 8 = nI n) (h9 : h 65 9 = nI l) :
    Sp (fM_queues vm but h) (fun h' => MX V h' D (fun r => if f then Q r else (Q r || (qact n l 0 r && decide (¬ nI r = but) && decide (¬ (h 68 r &&& vm) = 0)))) f ∧ ∀ b, b ≠ 71 → h' b = h b) := by
  unfold fM_queues
  refine Sp_mono (queues_loop hn hl vm but (n + l) 0 gfu h (by omega) (by unfold gfu; omega) h8 h9) ?_
  rintro h' ⟨a1, a2⟩
  refine ⟨⟨fun x hx => by rw [a1 66 (by omega)]; exact H.1 x hx, fun r hr hv => ?_, by rw [a1 65 (by omega)]; exact H.2.2⟩, a1⟩
  rw [a2 r, H.2.2, H.2.1 r hr hv]
  cases f with
  | true => rw [if_neg (fun z => by have := z.1; exact absurd this (by decide))]; rfl
  | false =>
    by_cases h1 : qact n l 0 r = true ∧ ¬ nI r = but ∧ ¬ (h 68 r &&& vm) = 0
    · rw [if_pos ⟨rfl, h1⟩]; simp [h1.1, h1.2.1, h1.2.2, b2i]
    · rw [if_neg (fun z => h1 z.2)]
      congr 1
      cases hq : qact n l 0 r
      · simp [hq]
      · simp only [hq, true_and] at h1
        by_cases h2 : nI r = but
        · simp [h2]
        · have h3 : (h 68 r &&& vm) = 0 := by
            by_cases h3 : (h 68 r &&& vm) = 0
            · exact h3
            · exact absurd ⟨h2, h3⟩ h1
          simp [h3]
theorem and_bit (x : Int32) {v : Nat} (h : v < 32) : decide (¬ (x &&& (1 <<< (nI v &&& 31))) = 0) = bt x v := by
  cases hb : bt x v with
  | true =>
    apply decide_eq_true
    intro z
    have := bt_and x (1 <<< (nI v &&& 31)) v
    rw [z, bt_0, hb, bt_shl1 h] at this
    simp at this
  | false =>
    apply decide_eq_false
    intro z
    apply z
    refine bt_ext (fun i _ => ?_)
    rw [bt_and, bt_shl1 h, bt_0]
    by_cases hi : i = v
    · subst hi; rw [hb]; rfl
    · simp [hi]
theorem decides_sp {V : Nat → Bool} {x : Nat} (hx : x < 8) {n l : Nat} (hn : n ≤ 16) (hl : l ≤ 8) {h : gH} {D : Nat → Nat → Bool} {Q : Nat → Bool} {th : Bool} {t : qT} (s rs : Int32) (H : MX V h D Q false) (hth : h 65 36 = b2i th) (ht : MT h t) (hne : qany (D x) = true) (hr : th = true ∨ TW D t) (h8 : h 65 8 = nI n) (h9 : h 65 9 = nI l) :
    Sp (fM_decides (nI x) s rs h) (fun h' => MX V h' (qnar D x (bt s)) (qwk Q (!qany (qnar D x (bt s) x)) (qany (fun v => D x v && !bt s v)) (fun r => qact n l 0 r && bt (h 68 r) x)) (!qany (qnar D x (bt s) x)) ∧ MT h' (if th then t else t ++ qent x rs (fun v => D x v && !bt s v) 10 0)) := by
  unfold fM_decides
  refine Sp_let ?_
  have H1 : MX V (hu h 65 35 0) D Q false := ⟨fun y hy => by rw [hu_o _ _ _ _ _ (by omega)]; exact H.1 y hy, fun r hr hv => by rw [hu_o _ _ _ _ _ (by omega)]; exact H.2.1 r hr hv, by rw [hu_k _ _ _ _ (by omega)]; exact H.2.2⟩
  refine Sp_bind (Sp_and (keeps_sp hx s rs H1 (by rw [hu_k _ _ _ _ (by omega)]; exact hth) (MT_of ht (by rw [hu_k _ _ _ _ (by omega)]) (by rw [hu_ne (by omega)]) (by rw [hu_ne (by omega)])) hne hr) (fun _ e => fM_keeps_fr e)) ?_
  rintro h1 - ⟨⟨a1, a2, a3, a4⟩, fr⟩
  have e8 : h1 65 8 = nI n := by rw [fr 65 8 (by decide) (by decide), hu_k _ _ _ _ (by omega)]; exact h8
  have e9 : h1 65 9 = nI l := by rw [fr 65 9 (by decide) (by decide), hu_k _ _ _ _ (by omega)]; exact h9
  have e68 : ∀ r, h1 68 r = h 68 r := fun r => by rw [fr 68 r (by decide) (by simp), hu_o _ _ _ _ _ (by omega)]
  refine Sp_bind (queues_sp hn hl _ _ a1 e8 e9) ?_
  rintro h2 - ⟨b1, b2⟩
  refine Sp_some ⟨MX_congr b1 (fun _ _ _ _ => rfl) (fun r hr _ => ?_) rfl, MT_of a2 (by rw [b2 65 (by omega)]) (b2 74 (by omega)) (b2 75 (by omega))⟩
  have hm1 : decide (¬ nI r = (-1 : Int32)) = true := decide_eq_true (neq_m1 (by omega))
  rw [a4, hu_same, e68, hm1]
  unfold qwk
  cases hc : qany (fun v => D x v && !bt s v) with
  | false =>
    have hD : qany (qnar D x (bt s) x) = true := by
      rw [qany_iff] at hne ⊢
      obtain ⟨v, hv, hd⟩ := hne
      refine ⟨v, hv, ?_⟩
      have := (qany_f _).mp hc v hv
      unfold qnar
      rw [if_pos rfl, hd]
      simp [hd] at this; simp [this]
    rw [hD]
    have e0 : decide (¬ (h 68 r &&& (if false = true then (0 : Int32) ||| (1 <<< (nI x &&& 31)) else 0)) = 0) = false := by
      rw [if_neg (by simp)]; apply decide_eq_false; intro z; apply z
      refine bt_ext (fun i _ => ?_)
      rw [bt_and, bt_0]; simp
    rw [e0]; simp
  | true =>
    have e0 : (if true = true then (0 : Int32) ||| (1 <<< (nI x &&& 31)) else 0) = 1 <<< (nI x &&& 31) := by
      rw [if_pos rfl]
      refine bt_ext (fun i _ => ?_)
      rw [bt_or, bt_0]; simp
    rw [e0, and_bit _ (by omega)]
    cases hf : qany (qnar D x (bt s) x) with
    | true => simp
    | false => simp [qemp]
