/-! where the law begins -/
def fsh : Nat → Int32 := fun k => if k = 1 then -1 else 0
def hini (f1 f2 f3 f4 fm : Nat → Int32) : gH := fun o => if o = 18 then f1 else if o = 29 then f2 else if o = 34 then f3 else if o = 45 then f4 else if o = 66 then fm else if o = 56 then fsh else if o = 58 then fsh else if o = 60 then fsh else if o = 62 then fsh else fun _ => 0
theorem hini_z (f1 f2 f3 f4 fm : Nat → Int32) (o : Nat) (ho : o ≠ 18 ∧ o ≠ 29 ∧ o ≠ 34 ∧ o ≠ 45 ∧ o ≠ 66 ∧ o ≠ 56 ∧ o ≠ 58 ∧ o ≠ 60 ∧ o ≠ 62) (k : Nat) : hini f1 f2 f3 f4 fm o k = 0 := by
  obtain ⟨a1, a2, a3, a4, a5, a6, a7, a8, a9⟩ := ho
  unfold hini
  rw [if_neg a1, if_neg a2, if_neg a3, if_neg a4, if_neg a5, if_neg a6, if_neg a7, if_neg a8, if_neg a9]
def S00 : qW := ((0, fun _ _ => false, fun _ _ _ _ => false, fun _ => 0), ((fun _ _ => true, fun _ => false, false, []), (0, fun _ => (0, 0)), (0, fun _ => 0, fun _ => 0, fun _ => 0), 0), none, (0, fun _ => 0), fun _ => (-1, 0, fun _ => 0))
theorem mm1023 : (1023 : Int32) = mkn 10 (fun _ => true) := by decide +kernel
theorem m24z : (0 : Int32) = mkn 24 (fun _ => false) := by decide +kernel
theorem m24b : (0 : Int32) = mkn 24 (bt 0) := by decide +kernel
theorem Eact0 : Eact (Et S00.1) = fun _ => false := funext fun r => by
  unfold Eact qact
  have e1 : decide (0 ≤ r ∧ r < En (Et S00.1)) = false := decide_eq_false (fun z => Nat.not_lt_zero _ z.2)
  have e2 : decide (16 ≤ r ∧ r < 16 + El (Et S00.1) ∧ 0 ≤ En (Et S00.1) + (r - 16)) = false := decide_eq_false (fun z => by
    have h2 : r < 16 + 0 := z.2.1
    omega)
  rw [e1, e2]; rfl
theorem TW0 : TW (fun _ _ => true) [] := ⟨fun a h => absurd h List.not_mem_nil, List.nodup_nil, fun x _ v _ => ⟨fun z => by (cases z), fun z => absurd z List.not_mem_nil⟩⟩
theorem W00 : WI S00 := by
  refine ⟨by decide, ⟨fun vs T kd => ⟨fun _ x _ => ?_, fun z => by (cases z), fun r _ z => by (cases z)⟩, TW0, by decide, fun i hi => absurd hi (Nat.not_lt_zero _), fun i j _ hj => absurd hj (Nat.not_lt_zero _)⟩, by decide, fun k z => by (cases z), by decide, fun i hi => absurd hi (Nat.not_lt_zero _), fun i _ => ⟨Nat.zero_le _, Or.inl ⟨rfl, rfl⟩⟩⟩
  show qany (fun _ => true) = true
  decide
theorem Inv0 {f1 f2 f3 f4 fm : Nat → Int32} (h1 : (∀ x, x < 8 → f1 x = 1023) ∧ f1 8 = 1) (h2 : f2 8 = 1) (h3 : f3 8 = 1) (h4 : f4 8 = 1) (h5 : ∀ x, x < 8 → fm x = 1023) : Inv (hini f1 f2 f3 f4 fm) := by
  have z := hini_z f1 f2 f3 f4 fm
  generalize hh : hini f1 f2 f3 f4 fm = h at z
  have e18 : h 18 = f1 := by rw [← hh]; rfl
  have e29 : h 29 = f2 := by rw [← hh]; rfl
  have e34 : h 34 = f3 := by rw [← hh]; rfl
  have e45 : h 45 = f4 := by rw [← hh]; rfl
  have e66 : h 66 = fm := by rw [← hh]; rfl
  have esh : ∀ i, i < 4 → h (56 + 2 * i) = fsh := by
    intro i hi
    have e : i = 0 ∨ i = 1 ∨ i = 2 ∨ i = 3 := by omega
    rw [← hh]
    rcases e with e | e | e | e <;> subst e <;> rfl
  have nE : ∀ r, Eact (Et S00.1) r = false := fun r => by rw [Eact0]
  refine ⟨S00, ⟨⟨⟨by decide, by decide, z 1 (by decide) 8, fun r hr => absurd hr (Nat.not_lt_zero _), fun r hr => absurd hr (Nat.not_lt_zero _), fun r hr => (by rw [nE r] at hr; cases hr), fun x _ => ⟨?_, fun r hr => (by rw [nE r] at hr; cases hr)⟩⟩, fun r hr => absurd hr (Nat.not_lt_zero _)⟩,
    ⟨⟨fun x hx => ?_, ?_, ?_, z 17 (by decide) 9, ⟨z 17 (by decide) 5, fun i a e => by (have e : ([] : qT)[i]? = some a := e; rw [List.getElem?_nil] at e; cases e)⟩, ?_, TW0⟩, z 17 (by decide) 8, ⟨by decide, z 22 (by decide) 5, fun i hi => absurd hi (Nat.not_lt_zero _)⟩, ⟨z 22 (by decide) 6, fun i hi => absurd hi (Nat.not_lt_zero _)⟩⟩,
    z 0 (by decide) 12, ⟨z 10 (by decide) 6, fun i hi => absurd hi (Nat.not_lt_zero _)⟩, fun i hi => ⟨?_, ?_, fun j hj => absurd hj (Nat.not_lt_zero _)⟩, ⟨z 17 (by decide) 10, ?_⟩, ⟨z 28 (by decide) 10, z 33 (by decide) 10, ?_, ?_⟩⟩,
    ⟨⟨⟨⟨Et_all _, ⟨by decide, by decide, z 65 (by decide) 8, z 65 (by decide) 9, fun r hr => absurd hr (Nat.not_lt_zero _), fun r hr => absurd hr (Nat.not_lt_zero _)⟩⟩, ⟨fun x hx => ?_, fun r _ hr => (by rw [nE r] at hr; cases hr), z 65 (by decide) 2⟩, z 65 (by decide) 36, ⟨z 65 (by decide) 15, fun i a e => by (have e : ([] : qT)[i]? = some a := e; rw [List.getElem?_nil] at e; cases e)⟩⟩, z 65 (by decide) 20, ⟨by decide, z 65 (by decide) 12, fun i hi => absurd hi (Nat.not_lt_zero _)⟩, ⟨z 65 (by decide) 19, fun i hi => absurd hi (Nat.not_lt_zero _)⟩⟩,
      z 65 (by decide) 76, ⟨z 65 (by decide) 22, fun i hi => absurd hi (Nat.not_lt_zero _)⟩, fun i _ => ⟨(z 103 (by decide) i).trans ?_, fun q => absurd rfl q⟩, ⟨fun o ho k => Or.inl (z o ?_ k), fun k _ => Or.inl (z 65 (by decide) k)⟩⟩, W00, z 64 (by decide) 8⟩
  · rw [z 5 (by decide) x]; exact m24b
  · show h 18 x = _
    rw [e18, h1.1 x hx]; exact mm1023
  · show h 18 8 = 1
    rw [e18]; exact h1.2
  · rw [z 17 (by decide) 7]; exact m24z
  · rw [z 17 (by decide) 6, Eact0]; exact m24z
  · rw [esh i hi]; rfl
  · rw [esh i hi]; rfl
  · rw [e45]; exact h4
  · rw [e29]; exact h2
  · rw [e34]; exact h3
  · rw [e66, h5 x hx]; exact mm1023
  · show (0 : Int32) = b2i (!decide ((-1 : Int32) = -1))
    decide
  · have : o = 69 ∨ o = 71 ∨ o = 83 ∨ o = 90 ∨ o = 93 ∨ o = 94 ∨ o = 103 := by unfold zbo at ho; simpa using ho
    rcases this with e | e | e | e | e | e | e <;> subst e <;> decide
theorem tb_at {s : State} {args : Array Value} (hts : ∀ w ∈ lw_tbl, w.before args s = true) (i : Nat) {w : Cond} (h : lw_tbl[i]? = some w) : w.before args s = true := hts w (List.mem_of_getElem? h)
set_option maxRecDepth 100000 in
theorem texts0 {s : State} {b : Nat} (hts : ∀ w ∈ lw_tbl, w.before #[Value.ref b] s = true) (hgv : (Jvm.Cond.and given_1 narrow_1).before #[Value.ref b] s = true) {A : Nat → Prop} (hA : ∀ a : Nat, a < s.heap.size → ¬ A a) :
    ∃ (adK adV : Nat → Nat) (fm : Nat), vk_S 2 [8, 10] gSb adK adV A s s.heap ∧ vk_R RX2 96 "distinct" (adK 0) s ∧ vk_R RX2 89 "():+-*<=>!" (adK 1) s ∧ va_Z "java/lang/String" "COMPACT_STRINGS" "Z" (.int 1) A s s.heap ∧ (va_Z "jdk/internal/util/Preconditions" "SIOOBE_FORMATTER" "Ljava/util/function/BiFunction;" .null A s s.heap ∨ va_Z "jdk/internal/util/Preconditions" "SIOOBE_FORMATTER" "Ljava/util/function/BiFunction;" (.ref fm) A s s.heap) := by
  have hs := flat_of_before _ hgv
  have two : ∀ i : Nat, i < 2 → i = 0 ∨ i = 1 := fun i h => by omega
  obtain ⟨adK, adV, hS, hev⟩ := vk_Sof (args := #[Value.ref b]) (s := s) (N := 2) (tm := fun i => if i = 0 then .string RX2 96 else .string RX2 89) (len := [8, 10]) (byt := gSb) (A := A)
    (fun i hi => by rcases two i hi with e | e <;> subst e <;> decide)
    (fun i hi => by rcases two i hi with e | e <;> subst e <;> exact hs _ (by decide +kernel))
    (fun i hi => by rcases two i hi with e | e <;> subst e <;> exact hs _ (by decide +kernel))
    (fun i hi => by rcases two i hi with e | e <;> subst e <;> exact hs _ (by decide +kernel))
    (fun i hi => by rcases two i hi with e | e <;> subst e <;> exact hs _ (by decide +kernel))
    (fun i hi j hj => by
      rcases two i hi with e | e <;> subst e
      · have hj : j < 8 := hj
        have e : j = 0 ∨ j = 1 ∨ j = 2 ∨ j = 3 ∨ j = 4 ∨ j = 5 ∨ j = 6 ∨ j = 7 := by omega
        rcases e with e | e | e | e | e | e | e | e <;> subst e <;> exact hs _ (by decide +kernel)
      · have hj : j < 10 := hj
        have e : j = 0 ∨ j = 1 ∨ j = 2 ∨ j = 3 ∨ j = 4 ∨ j = 5 ∨ j = 6 ∨ j = 7 ∨ j = 8 ∨ j = 9 := by omega
        rcases e with e | e | e | e | e | e | e | e | e | e <;> subst e <;> exact hs _ (by decide +kernel))
    (fun i j hi hj hne => by
      rcases two i hi with e | e <;> rcases two j hj with e2 | e2 <;> subst e <;> subst e2
      · exact absurd rfl hne
      · exact Or.inl (hs _ (by decide +kernel))
      · exact Or.inr (hs _ (by decide +kernel))
      · exact absurd rfl hne) hA
  have z := va_Zqof (args := #[Value.ref b]) (s := s) (A := A) (tb_at hts 530 (by decide +kernel)) (tb_at hts 136 (by decide +kernel)) (show (Cond.isRef (.static "jdk/internal/util/Preconditions" "SIOOBE_FORMATTER" "Ljava/util/function/BiFunction;")).before #[Value.ref b] s = true from hs _ (by decide +kernel)) hA
  have v0 := vk_R.of (own := RX2) (tx := "distinct") (k := 96) (tb_at hts 504 (by decide +kernel)) (hev 0 (by decide))
  have v1 := vk_R.of (own := RX2) (tx := "():+-*<=>!") (k := 89) (tb_at hts 553 (by decide +kernel)) (hev 1 (by decide))
  have v2 := va_Zof (A := A) (tb_at hts 514 (by decide +kernel)) (tb_at hts 134 (by decide +kernel)) (va_eqt (show (Cond.eq (.static "java/lang/String" "COMPACT_STRINGS" "Z") (.int 1)).before #[Value.ref b] s = true from hs _ (by decide +kernel))) hA
  rcases z with z | ⟨fm, z⟩
  · exact ⟨adK, adV, 0, hS, v0, v1, v2, Or.inl z⟩
  · exact ⟨adK, adV, fm, hS, v0, v1, v2, Or.inr z⟩
