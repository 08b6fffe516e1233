/-! the model's rows and fields of booleans hold 0 and 1 -/
def zbo : List Nat := [69, 71, 83, 90, 93, 94, 103]
def zbf : List Nat := [2, 29, 36, 39, 46, 47, 53, 57, 70, 76]
def ZB (h : gH) : Prop := (∀ o ∈ zbo, ∀ k, h o k = 0 ∨ h o k = 1) ∧ ∀ k ∈ zbf, h 65 k = 0 ∨ h 65 k = 1
theorem zb_e {h h1 : gH} (a : ZB h) (e : h = h1) : ZB h1 := e ▸ a
theorem zb_z {h : gH} {o k : Nat} {v : Int32} (a : ZB h) (b : v = 0 ∨ v = 1) : ZB (hu h o k v) := by
  refine ⟨fun c hc j => ?_, fun j hj => ?_⟩
  · unfold hu; split
    · split
      · exact b
      · exact a.1 c hc j
    · exact a.1 c hc j
  · unfold hu; split
    · split
      · exact b
      · exact a.2 j hj
    · exact a.2 j hj
theorem zb_o {h : gH} {o k : Nat} {v : Int32} (a : ZB h) (b : o ∉ zbo ∧ o ≠ 65) : ZB (hu h o k v) := by
  refine ⟨fun c hc j => ?_, fun j hj => ?_⟩
  · have : c ≠ o := fun e => b.1 (e ▸ hc)
    rw [hu_ne this]; exact a.1 c hc j
  · have : 65 ≠ o := fun e => b.2 e.symm
    rw [hu_ne this]; exact a.2 j hj
theorem zb_f {h : gH} {k : Nat} {v : Int32} (a : ZB h) (b : k ∉ zbf) : ZB (hu h 65 k v) := by
  refine ⟨fun c hc j => ?_, fun j hj => ?_⟩
  · have : c ≠ 65 := fun e => by subst e; revert hc; decide
    rw [hu_ne this]; exact a.1 c hc j
  · have : j ≠ k := fun e => b (e ▸ hj)
    unfold hu
    rw [if_pos rfl, if_neg this]; exact a.2 j hj
theorem fM_in_zb {v0 : Int64} {v2 : Int64} {v4 : Int64} {h : gH} {x : (Int32 × gH)} (hz : ZB h) (H : fM_in v0 v2 v4 h = some x) : ZB x.2 := by
  unfold fM_in at H
  by_cases q : (lg_cmp v0 v2) < (0 : Int32)
  · replace H := gift q H
    obtain rfl := Option.some.inj H
    exact hz
  · replace H := giff q H
    by_cases q : (0 : Int32) < (lg_cmp v0 v4)
    · replace H := gift q H
      obtain rfl := Option.some.inj H
      exact hz
    · replace H := giff q H
      obtain rfl := Option.some.inj H
      exact hz
theorem fM_bitsOf_4_zb  : ∀ (n : Nat) (v1 : Int32) (v2 : Int32) (h : gH) (x : (Int32 × gH)), ZB h → fM_bitsOf_4  n v1 v2 h = some x → ZB x.2 := by
  intro n
  induction n with
  | zero => intro v1 v2 h x  hz H; exact g0 H
  | succ n ih =>
    intro v1 v2 h x  hz H
    unfold fM_bitsOf_4 at H
    by_cases q : v2 = (0 : Int32)
    · replace H := gift q H
      obtain rfl := Option.some.inj H
      exact hz
    · replace H := giff q H
      exact ih _ _ _ _  hz H
theorem fM_bitsOf_zb {v0 : Int32} {h : gH} {x : (Int32 × gH)} (hz : ZB h) (H : fM_bitsOf v0 h = some x) : ZB x.2 := by
  unfold fM_bitsOf at H
  exact fM_bitsOf_4_zb  gfu _ _ _ _  hz H
theorem fM_feed_zb {v1 : Int32} {h : gH} {x : (Int32 × gH)} (hz : ZB h) (H : fM_feed v1 h = some x) : ZB x.2 := by
  unfold fM_feed at H
  obtain ⟨p1, e2, H⟩ := gbi H
  replace hz := fM_in_zb  hz e2
  by_cases q : p1.1 = (0 : Int32)
  · replace H := gift q H
    obtain rfl := Option.some.inj H
    exact hz
  · replace H := giff q H
    by_cases q : (p1.2 65 22) = (90 : Int32)
    · replace H := gift q H
      obtain rfl := Option.some.inj H
      exact hz
    · replace H := giff q H
      obtain ⟨b3, H⟩ := ggi H
      have b3 := gin_in b3
      obtain ⟨h4, e5, H⟩ := glei H
      replace hz := zb_e (zb_o hz (by decide)) e5
      obtain ⟨h6, e7, H⟩ := glei H
      replace hz := zb_e (zb_f hz (by decide)) e7
      obtain rfl := Option.some.inj H
      exact hz
theorem fM_byteAt_zb {v1 : Int32} {h : gH} {x : (Int32 × gH)} (hz : ZB h) (H : fM_byteAt v1 h = some x) : ZB x.2 := by
  unfold fM_byteAt at H
  by_cases q : v1 < (h 65 22)
  · replace H := gift q H
    obtain ⟨b1, H⟩ := ggi H
    have b1 := gin_in b1
    obtain rfl := Option.some.inj H
    exact hz
  · replace H := giff q H
    obtain rfl := Option.some.inj H
    exact hz
theorem fM_isSignByte_zb {v0 : Int32} {h : gH} {x : (Int32 × gH)} (hz : ZB h) (H : fM_isSignByte v0 h = some x) : ZB x.2 := by
  unfold fM_isSignByte at H
  by_cases q : v0 = (40 : Int32)
  · replace H := gift q H
    obtain rfl := Option.some.inj H
    exact hz
  · replace H := giff q H
    by_cases q : v0 = (41 : Int32)
    · replace H := gift q H
      obtain rfl := Option.some.inj H
      exact hz
    · replace H := giff q H
      by_cases q : v0 = (58 : Int32)
      · replace H := gift q H
        obtain rfl := Option.some.inj H
        exact hz
      · replace H := giff q H
        by_cases q : v0 = (43 : Int32)
        · replace H := gift q H
          obtain rfl := Option.some.inj H
          exact hz
        · replace H := giff q H
          by_cases q : v0 = (45 : Int32)
          · replace H := gift q H
            obtain rfl := Option.some.inj H
            exact hz
          · replace H := giff q H
            by_cases q : v0 = (42 : Int32)
            · replace H := gift q H
              obtain rfl := Option.some.inj H
              exact hz
            · replace H := giff q H
              by_cases q : v0 = (60 : Int32)
              · replace H := gift q H
                obtain rfl := Option.some.inj H
                exact hz
              · replace H := giff q H
                by_cases q : v0 = (61 : Int32)
                · replace H := gift q H
                  obtain rfl := Option.some.inj H
                  exact hz
                · replace H := giff q H
                  by_cases q : v0 = (62 : Int32)
                  · replace H := gift q H
                    obtain rfl := Option.some.inj H
                    exact hz
                  · replace H := giff q H
                    by_cases q : v0 = (33 : Int32)
                    · replace H := gift q H
                      obtain rfl := Option.some.inj H
                      exact hz
                    · replace H := giff q H
                      obtain rfl := Option.some.inj H
                      exact hz
theorem fM_isDistinct_zb {h : gH} {x : (Int32 × gH)} (hz : ZB h) (H : fM_isDistinct  h = some x) : ZB x.2 := by
  unfold fM_isDistinct at H
  by_cases q : (h 65 24) = ((h 65 26) + (8 : Int32))
  · replace H := gift q H
    obtain ⟨p1, e2, H⟩ := gbi H
    replace hz := fM_byteAt_zb  hz e2
    by_cases q : p1.1 = (100 : Int32)
    · replace H := gift q H
      obtain ⟨p3, e4, H⟩ := gbi H
      replace hz := fM_byteAt_zb  hz e4
      by_cases q : p3.1 = (105 : Int32)
      · replace H := gift q H
        obtain ⟨p5, e6, H⟩ := gbi H
        replace hz := fM_byteAt_zb  hz e6
        by_cases q : p5.1 = (115 : Int32)
        · replace H := gift q H
          obtain ⟨p7, e8, H⟩ := gbi H
          replace hz := fM_byteAt_zb  hz e8
          by_cases q : p7.1 = (116 : Int32)
          · replace H := gift q H
            obtain ⟨p9, e10, H⟩ := gbi H
            replace hz := fM_byteAt_zb  hz e10
            by_cases q : p9.1 = (105 : Int32)
            · replace H := gift q H
              obtain ⟨p11, e12, H⟩ := gbi H
              replace hz := fM_byteAt_zb  hz e12
              by_cases q : p11.1 = (110 : Int32)
              · replace H := gift q H
                obtain ⟨p13, e14, H⟩ := gbi H
                replace hz := fM_byteAt_zb  hz e14
                by_cases q : p13.1 = (99 : Int32)
                · replace H := gift q H
                  obtain ⟨p15, e16, H⟩ := gbi H
                  replace hz := fM_byteAt_zb  hz e16
                  by_cases q : p15.1 = (116 : Int32)
                  · replace H := gift q H
                    obtain rfl := Option.some.inj H
                    exact hz
                  · replace H := giff q H
                    obtain rfl := Option.some.inj H
                    exact hz
                · replace H := giff q H
                  obtain rfl := Option.some.inj H
                  exact hz
              · replace H := giff q H
                obtain rfl := Option.some.inj H
                exact hz
            · replace H := giff q H
              obtain rfl := Option.some.inj H
              exact hz
          · replace H := giff q H
            obtain rfl := Option.some.inj H
            exact hz
        · replace H := giff q H
          obtain rfl := Option.some.inj H
          exact hz
      · replace H := giff q H
        obtain rfl := Option.some.inj H
        exact hz
    · replace H := giff q H
      obtain rfl := Option.some.inj H
      exact hz
  · replace H := giff q H
    obtain rfl := Option.some.inj H
    exact hz
theorem fM_next_26_zb {k0 : gH → Option gH} (hk0z : ∀  (h : gH) (x : gH), ZB h → k0  h = some x → ZB x) {h : gH} {x : gH} (hz : ZB h) (H : fM_next_26 k0   h = some x) : ZB x := by
  unfold fM_next_26 at H
  exact hk0z  _ _  (zb_f hz (by decide)) H
theorem fM_next_266_zb {k213 : Int32 → gH → Option gH} {v2 : Int32} {s1 : Int32} (hk213z : ∀ (u2 : Int32) (h : gH) (x : gH), ZB h → k213 u2 h = some x → ZB x) {h : gH} {x : gH} (hz : ZB h) (H : fM_next_266 k213 v2 s1 h = some x) : ZB x := by
  unfold fM_next_266 at H
  obtain ⟨h25, e26, H⟩ := glei H
  replace hz := zb_e (zb_f hz (by decide)) e26
  exact hk213z _ _ _  (zb_f hz (by decide)) H
theorem fM_next_213_zb  : ∀ (n : Nat) (v2 : Int32) (h : gH) (x : gH), ZB h → fM_next_213  n v2 h = some x → ZB x := by
  intro n
  induction n with
  | zero => intro v2 h x  hz H; exact g0 H
  | succ n ih =>
    intro v2 h x  hz H
    unfold fM_next_213 at H
    obtain ⟨p21, e22, H⟩ := gbi H
    replace hz := fM_byteAt_zb  hz e22
    obtain ⟨p23, e24, H⟩ := gbi H
    replace hz := fM_in_zb  hz e24
    by_cases q : p23.1 = (0 : Int32)
    · replace H := gift q H
      by_cases q : (4 : Int32) < v2
      · replace H := gift q H
        obtain rfl := Option.some.inj H
        exact (zb_f hz (by decide))
      · replace H := giff q H
        obtain rfl := Option.some.inj H
        exact (zb_f hz (by decide))
    · replace H := giff q H
      by_cases q : v2 < (4 : Int32)
      · replace H := gift q H
        obtain ⟨p27, e28, H⟩ := gbi H
        replace hz := fM_byteAt_zb  hz e28
        exact fM_next_266_zb ih  hz H
      · replace H := giff q H
        exact fM_next_266_zb ih  hz H
theorem fM_next_169_zb {s1 : Int32}  {h : gH} {x : gH} (hz : ZB h) (H : fM_next_169  s1 h = some x) : ZB x := by
  unfold fM_next_169 at H
  obtain ⟨h35, e36, H⟩ := glei H
  replace hz := zb_e (zb_f hz (by decide)) e36
  by_cases q : (h35 65 27) = (-1 : Int32)
  · replace H := gift q H
    obtain rfl := Option.some.inj H
    exact (zb_f hz (by decide))
  · replace H := giff q H
    obtain rfl := Option.some.inj H
    exact (zb_f hz (by decide))
theorem fM_next_156_zb  {h : gH} {x : gH} (hz : ZB h) (H : fM_next_156   h = some x) : ZB x := by
  unfold fM_next_156 at H
  obtain ⟨p33, e34, H⟩ := gbi H
  replace hz := fM_isDistinct_zb  hz e34
  by_cases q : p33.1 = (0 : Int32)
  · replace H := gift q H
    exact fM_next_169_zb  hz H
  · replace H := giff q H
    exact fM_next_169_zb  hz H
theorem fM_next_95_zb {v1 : Int32}  : ∀ (n : Nat) (h : gH) (x : gH), ZB h → fM_next_95 v1 n  h = some x → ZB x := by
  intro n
  induction n with
  | zero => intro  h x  hz H; exact g0 H
  | succ n ih =>
    intro  h x  hz H
    unfold fM_next_95 at H
    obtain ⟨p29, e30, H⟩ := gbi H
    replace hz := fM_byteAt_zb  hz e30
    obtain ⟨p31, e32, H⟩ := gbi H
    replace hz := fM_in_zb  hz e32
    by_cases q : p31.1 = (0 : Int32)
    · replace H := gift q H
      by_cases q : (p31.2 65 24) = ((p31.2 65 26) + (1 : Int32))
      · replace H := gift q H
        by_cases q : (104 : Int32) < v1
        · replace H := gift q H
          exact fM_next_156_zb  hz H
        · replace H := giff q H
          exact fM_next_169_zb  hz H
      · replace H := giff q H
        exact fM_next_156_zb  hz H
    · replace H := giff q H
      exact ih  _ _  (zb_f hz (by decide)) H
theorem fM_next_0_zb  : ∀ (n : Nat) (h : gH) (x : gH), ZB h → fM_next_0  n  h = some x → ZB x := by
  intro n
  induction n with
  | zero => intro  h x  hz H; exact g0 H
  | succ n ih =>
    intro  h x  hz H
    unfold fM_next_0 at H
    obtain ⟨p1, e2, H⟩ := gbi H
    replace hz := fM_byteAt_zb  hz e2
    by_cases q : p1.1 = (32 : Int32)
    · replace H := gift q H
      exact fM_next_26_zb ih  hz H
    · replace H := giff q H
      obtain ⟨p3, e4, H⟩ := gbi H
      replace hz := fM_byteAt_zb  hz e4
      by_cases q : p3.1 = (10 : Int32)
      · replace H := gift q H
        exact fM_next_26_zb ih  hz H
      · replace H := giff q H
        obtain ⟨h5, e6, H⟩ := glei H
        replace hz := zb_e (zb_f hz (by decide)) e6
        obtain ⟨p7, e8, H⟩ := gbi H
        replace hz := fM_byteAt_zb  hz e8
        obtain ⟨h9, e10, H⟩ := glei H
        replace hz := zb_e (zb_f hz (by decide)) e10
        by_cases q : p7.1 < (0 : Int32)
        · replace H := gift q H
          obtain ⟨h37, e38, H⟩ := glei H
          replace hz := zb_e (zb_f hz (by decide)) e38
          obtain rfl := Option.some.inj H
          exact (zb_f hz (by decide))
        · replace H := giff q H
          obtain ⟨p11, e12, H⟩ := gbi H
          replace hz := fM_in_zb  hz e12
          by_cases q : p11.1 = (0 : Int32)
          · replace H := gift q H
            obtain ⟨p13, e14, H⟩ := gbi H
            replace hz := fM_in_zb  hz e14
            by_cases q : p13.1 = (0 : Int32)
            · replace H := gift q H
              obtain ⟨p15, e16, H⟩ := gbi H
              replace hz := fM_isSignByte_zb  hz e16
              by_cases q : p15.1 = (0 : Int32)
              · replace H := gift q H
                obtain rfl := Option.some.inj H
                exact hz
              · replace H := giff q H
                obtain ⟨h17, e18, H⟩ := glei H
                replace hz := zb_e (zb_f hz (by decide)) e18
                obtain ⟨h19, e20, H⟩ := glei H
                replace hz := zb_e (zb_f hz (by decide)) e20
                obtain rfl := Option.some.inj H
                exact (zb_f hz (by decide))
            · replace H := giff q H
              exact fM_next_213_zb  gfu _ _ _  (zb_f hz (by decide)) H
          · replace H := giff q H
            exact fM_next_95_zb  gfu  _ _  hz H
theorem fM_next_zb {h : gH} {x : gH} (hz : ZB h) (H : fM_next  h = some x) : ZB x := by
  unfold fM_next at H
  exact fM_next_0_zb  gfu  _ _  hz H
theorem fM_fail_zb {h : gH} {x : gH} (hz : ZB h) (H : fM_fail  h = some x) : ZB x := by
  unfold fM_fail at H
  by_cases q : (h 65 29) = (0 : Int32)
  · replace H := gift q H
    obtain ⟨h1, e2, H⟩ := glei H
    replace hz := zb_e (zb_z hz (Or.inr rfl)) e2
    obtain rfl := Option.some.inj H
    exact (zb_f hz (by decide))
  · replace H := giff q H
    obtain rfl := Option.some.inj H
    exact hz
theorem fM_isSign_zb {v1 : Int32} {h : gH} {x : (Int32 × gH)} (hz : ZB h) (H : fM_isSign v1 h = some x) : ZB x.2 := by
  unfold fM_isSign at H
  by_cases q : (h 65 29) = (0 : Int32)
  · replace H := gift q H
    by_cases q : (h 65 25) = (3 : Int32)
    · replace H := gift q H
      by_cases q : (h 65 27) = v1
      · replace H := gift q H
        obtain rfl := Option.some.inj H
        exact hz
      · replace H := giff q H
        obtain rfl := Option.some.inj H
        exact hz
    · replace H := giff q H
      obtain rfl := Option.some.inj H
      exact hz
  · replace H := giff q H
    obtain rfl := Option.some.inj H
    exact hz
theorem fM_name_42_zb  {h : gH} {x : (Int32 × gH)} (hz : ZB h) (H : fM_name_42   h = some x) : ZB x.2 := by
  unfold fM_name_42 at H
  obtain ⟨h1, e2, H⟩ := gbi H
  replace hz := fM_fail_zb  hz e2
  obtain rfl := Option.some.inj H
  exact hz
theorem fM_name_zb {h : gH} {x : (Int32 × gH)} (hz : ZB h) (H : fM_name  h = some x) : ZB x.2 := by
  unfold fM_name at H
  by_cases q : (h 65 29) = (0 : Int32)
  · replace H := gift q H
    by_cases q : (h 65 25) = (1 : Int32)
    · replace H := gift q H
      by_cases q : (h 65 27) = (8 : Int32)
      · replace H := gift q H
        exact fM_name_42_zb  hz H
      · replace H := giff q H
        obtain ⟨p3, e4, H⟩ := gbi H
        replace hz := fM_bitsOf_zb  hz e4
        by_cases q : (3 : Int32) < p3.1
        · replace H := gift q H
          exact fM_name_42_zb  hz H
        · replace H := giff q H
          obtain ⟨h5, e6, H⟩ := glei H
          replace hz := zb_e (zb_f hz (by decide)) e6
          obtain ⟨h7, e8, H⟩ := gbi H
          replace hz := fM_next_zb  hz e8
          obtain ⟨b9, H⟩ := ggi H
          have b9 := gin_in b9
          obtain rfl := Option.some.inj H
          exact hz
    · replace H := giff q H
      exact fM_name_42_zb  hz H
  · replace H := giff q H
    exact fM_name_42_zb  hz H
theorem fM_term_5_zb {R : Nat → gH → Option (Int32 × gH)} (hR0z : ∀ h x, ZB h → R 0 h = some x → ZB x.2) (hR1z : ∀ h x, ZB h → R 1 h = some x → ZB x.2) (hR2z : ∀ h x, ZB h → R 2 h = some x → ZB x.2)  : ∀ (n : Nat) (v1 : Int32) (h : gH) (x : (Int32 × gH)), ZB h → fM_term_5 R  n v1 h = some x → ZB x.2 := by
  intro n
  induction n with
  | zero => intro v1 h x  hz H; exact g0 H
  | succ n ih =>
    intro v1 h x  hz H
    unfold fM_term_5 at H
    obtain ⟨p3, e4, H⟩ := gbi H
    replace hz := fM_isSign_zb  hz e4
    by_cases q : p3.1 = (0 : Int32)
    · replace H := gift q H
      obtain rfl := Option.some.inj H
      exact hz
    · replace H := giff q H
      obtain ⟨h5, e6, H⟩ := gbi H
      replace hz := fM_next_zb  hz e6
      obtain ⟨p7, e8, H⟩ := gbi H
      replace hz := hR0z _ _ hz e8
      exact ih _ _ _  hz H
theorem fM_term_zb {R : Nat → gH → Option (Int32 × gH)} (hR0z : ∀ h x, ZB h → R 0 h = some x → ZB x.2) (hR1z : ∀ h x, ZB h → R 1 h = some x → ZB x.2) (hR2z : ∀ h x, ZB h → R 2 h = some x → ZB x.2) {h : gH} {x : (Int32 × gH)} (hz : ZB h) (H : fM_term R  h = some x) : ZB x.2 := by
  unfold fM_term at H
  obtain ⟨p1, e2, H⟩ := gbi H
  replace hz := hR0z _ _ hz e2
  exact fM_term_5_zb hR0z hR1z hR2z  gfu _ _ _  hz H
theorem fM_sum_52_zb {R : Nat → gH → Option (Int32 × gH)} {k5 : Int32 → gH → Option (Int32 × gH)} {s0 : Int32} (hR0z : ∀ h x, ZB h → R 0 h = some x → ZB x.2) (hR1z : ∀ h x, ZB h → R 1 h = some x → ZB x.2) (hR2z : ∀ h x, ZB h → R 2 h = some x → ZB x.2) (hk5z : ∀ (u1 : Int32) (h : gH) (x : (Int32 × gH)), ZB h → k5 u1 h = some x → ZB x.2) {h : gH} {x : (Int32 × gH)} (hz : ZB h) (H : fM_sum_52 R k5  s0 h = some x) : ZB x.2 := by
  unfold fM_sum_52 at H
  exact hk5z _ _ _  hz H
theorem fM_sum_23_zb {R : Nat → gH → Option (Int32 × gH)} {k5 : Int32 → gH → Option (Int32 × gH)} {v1 : Int32} (hR0z : ∀ h x, ZB h → R 0 h = some x → ZB x.2) (hR1z : ∀ h x, ZB h → R 1 h = some x → ZB x.2) (hR2z : ∀ h x, ZB h → R 2 h = some x → ZB x.2) (hk5z : ∀ (u1 : Int32) (h : gH) (x : (Int32 × gH)), ZB h → k5 u1 h = some x → ZB x.2) {h : gH} {x : (Int32 × gH)} (hz : ZB h) (H : fM_sum_23 R k5 v1  h = some x) : ZB x.2 := by
  unfold fM_sum_23 at H
  obtain ⟨p5, e6, H⟩ := gbi H
  replace hz := fM_isSign_zb  hz e6
  obtain ⟨h7, e8, H⟩ := gbi H
  replace hz := fM_next_zb  hz e8
  obtain ⟨p9, e10, H⟩ := gbi H
  replace hz := hR1z _ _ hz e10
  by_cases q : p5.1 = (0 : Int32)
  · replace H := gift q H
    exact fM_sum_52_zb hR0z hR1z hR2z hk5z  hz H
  · replace H := giff q H
    exact fM_sum_52_zb hR0z hR1z hR2z hk5z  hz H
theorem fM_sum_5_zb {R : Nat → gH → Option (Int32 × gH)} (hR0z : ∀ h x, ZB h → R 0 h = some x → ZB x.2) (hR1z : ∀ h x, ZB h → R 1 h = some x → ZB x.2) (hR2z : ∀ h x, ZB h → R 2 h = some x → ZB x.2)  : ∀ (n : Nat) (v1 : Int32) (h : gH) (x : (Int32 × gH)), ZB h → fM_sum_5 R  n v1 h = some x → ZB x.2 := by
  intro n
  induction n with
  | zero => intro v1 h x  hz H; exact g0 H
  | succ n ih =>
    intro v1 h x  hz H
    unfold fM_sum_5 at H
    obtain ⟨p3, e4, H⟩ := gbi H
    replace hz := fM_isSign_zb  hz e4
    by_cases q : p3.1 = (0 : Int32)
    · replace H := gift q H
      obtain ⟨p11, e12, H⟩ := gbi H
      replace hz := fM_isSign_zb  hz e12
      by_cases q : p11.1 = (0 : Int32)
      · replace H := gift q H
        obtain rfl := Option.some.inj H
        exact hz
      · replace H := giff q H
        exact fM_sum_23_zb hR0z hR1z hR2z ih  hz H
    · replace H := giff q H
      exact fM_sum_23_zb hR0z hR1z hR2z ih  hz H
theorem fM_sum_zb {R : Nat → gH → Option (Int32 × gH)} (hR0z : ∀ h x, ZB h → R 0 h = some x → ZB x.2) (hR1z : ∀ h x, ZB h → R 1 h = some x → ZB x.2) (hR2z : ∀ h x, ZB h → R 2 h = some x → ZB x.2) {h : gH} {x : (Int32 × gH)} (hz : ZB h) (H : fM_sum R  h = some x) : ZB x.2 := by
  unfold fM_sum at H
  obtain ⟨p1, e2, H⟩ := gbi H
  replace hz := hR1z _ _ hz e2
  exact fM_sum_5_zb hR0z hR1z hR2z  gfu _ _ _  hz H
theorem fM_one_118_zb {R : Nat → gH → Option (Int32 × gH)} {v1 : Int32} {v2 : Int32} (hR0z : ∀ h x, ZB h → R 0 h = some x → ZB x.2) (hR1z : ∀ h x, ZB h → R 1 h = some x → ZB x.2) (hR2z : ∀ h x, ZB h → R 2 h = some x → ZB x.2)  {h : gH} {x : (Int32 × gH)} (hz : ZB h) (H : fM_one_118 R v1 v2  h = some x) : ZB x.2 := by
  unfold fM_one_118 at H
  obtain ⟨h11, e12, H⟩ := glei H
  replace hz := zb_e (zb_f hz (by decide)) e12
  by_cases q : v1 = (0 : Int32)
  · replace H := gift q H
    by_cases q : (h11 65 29) = (0 : Int32)
    · replace H := gift q H
      obtain ⟨h13, e14, H⟩ := gbi H
      replace hz := fM_next_zb  hz e14
      obtain rfl := Option.some.inj H
      exact hz
    · replace H := giff q H
      obtain rfl := Option.some.inj H
      exact hz
  · replace H := giff q H
    obtain rfl := Option.some.inj H
    exact hz
theorem fM_one_100_zb {R : Nat → gH → Option (Int32 × gH)} {v1 : Int32} {s0 : Int32} (hR0z : ∀ h x, ZB h → R 0 h = some x → ZB x.2) (hR1z : ∀ h x, ZB h → R 1 h = some x → ZB x.2) (hR2z : ∀ h x, ZB h → R 2 h = some x → ZB x.2)  {h : gH} {x : (Int32 × gH)} (hz : ZB h) (H : fM_one_100 R v1 s0 h = some x) : ZB x.2 := by
  unfold fM_one_100 at H
  by_cases q : v1 = (0 : Int32)
  · replace H := gift q H
    obtain ⟨p15, e16, H⟩ := gbi H
    replace hz := fM_isSign_zb  hz e16
    by_cases q : p15.1 = (0 : Int32)
    · replace H := gift q H
      obtain ⟨h17, e18, H⟩ := gbi H
      replace hz := fM_fail_zb  hz e18
      exact fM_one_118_zb hR0z hR1z hR2z  hz H
    · replace H := giff q H
      exact fM_one_118_zb hR0z hR1z hR2z  hz H
  · replace H := giff q H
    exact fM_one_118_zb hR0z hR1z hR2z  hz H
theorem fM_one_49_zb {R : Nat → gH → Option (Int32 × gH)} (hR0z : ∀ h x, ZB h → R 0 h = some x → ZB x.2) (hR1z : ∀ h x, ZB h → R 1 h = some x → ZB x.2) (hR2z : ∀ h x, ZB h → R 2 h = some x → ZB x.2)  {h : gH} {x : (Int32 × gH)} (hz : ZB h) (H : fM_one_49 R   h = some x) : ZB x.2 := by
  unfold fM_one_49 at H
  by_cases q : (h 65 28) = (5 : Int32)
  · replace H := gift q H
    obtain ⟨h21, e22, H⟩ := gbi H
    replace hz := fM_fail_zb  hz e22
    obtain rfl := Option.some.inj H
    exact hz
  · replace H := giff q H
    obtain ⟨p3, e4, H⟩ := gbi H
    replace hz := fM_isSign_zb  hz e4
    obtain ⟨h5, e6, H⟩ := glei H
    replace hz := zb_e (zb_f hz (by decide)) e6
    obtain ⟨h7, e8, H⟩ := gbi H
    replace hz := fM_next_zb  hz e8
    by_cases q : p3.1 = (0 : Int32)
    · replace H := gift q H
      obtain ⟨p9, e10, H⟩ := gbi H
      replace hz := hR2z _ _ hz e10
      exact fM_one_100_zb hR0z hR1z hR2z  hz H
    · replace H := giff q H
      obtain ⟨p19, e20, H⟩ := gbi H
      replace hz := hR0z _ _ hz e20
      exact fM_one_100_zb hR0z hR1z hR2z  hz H
theorem fM_one_26_zb {R : Nat → gH → Option (Int32 × gH)} (hR0z : ∀ h x, ZB h → R 0 h = some x → ZB x.2) (hR1z : ∀ h x, ZB h → R 1 h = some x → ZB x.2) (hR2z : ∀ h x, ZB h → R 2 h = some x → ZB x.2)  {h : gH} {x : (Int32 × gH)} (hz : ZB h) (H : fM_one_26 R   h = some x) : ZB x.2 := by
  unfold fM_one_26 at H
  obtain ⟨p1, e2, H⟩ := gbi H
  replace hz := fM_isSign_zb  hz e2
  by_cases q : p1.1 = (0 : Int32)
  · replace H := gift q H
    obtain ⟨p23, e24, H⟩ := gbi H
    replace hz := fM_isSign_zb  hz e24
    by_cases q : p23.1 = (0 : Int32)
    · replace H := gift q H
      obtain ⟨p25, e26, H⟩ := gbi H
      replace hz := fM_name_zb  hz e26
      obtain rfl := Option.some.inj H
      exact hz
    · replace H := giff q H
      exact fM_one_49_zb hR0z hR1z hR2z  hz H
  · replace H := giff q H
    exact fM_one_49_zb hR0z hR1z hR2z  hz H
theorem fM_one_zb {R : Nat → gH → Option (Int32 × gH)} (hR0z : ∀ h x, ZB h → R 0 h = some x → ZB x.2) (hR1z : ∀ h x, ZB h → R 1 h = some x → ZB x.2) (hR2z : ∀ h x, ZB h → R 2 h = some x → ZB x.2) {h : gH} {x : (Int32 × gH)} (hz : ZB h) (H : fM_one R  h = some x) : ZB x.2 := by
  unfold fM_one at H
  by_cases q : (h 65 29) = (0 : Int32)
  · replace H := gift q H
    by_cases q : (h 65 25) = (2 : Int32)
    · replace H := gift q H
      obtain ⟨h27, e28, H⟩ := gbi H
      replace hz := fM_next_zb  hz e28
      obtain rfl := Option.some.inj H
      exact hz
    · replace H := giff q H
      exact fM_one_26_zb hR0z hR1z hR2z  hz H
  · replace H := giff q H
    exact fM_one_26_zb hR0z hR1z hR2z  hz H
theorem gMG_zba : ∀ n : Nat, (∀ (h : gH) (x : Int32 × gH), ZB h → gMG n 0 h = some x → ZB x.2) ∧ (∀ (h : gH) (x : Int32 × gH), ZB h → gMG n 1 h = some x → ZB x.2) ∧ (∀ (h : gH) (x : Int32 × gH), ZB h → gMG n 2 h = some x → ZB x.2) := by
  intro n
  induction n with
  | zero => exact ⟨fun h x hz H => g0 H, fun h x hz H => g0 H, fun h x hz H => g0 H⟩
  | succ n ih =>
    exact ⟨fun h x hz H => fM_one_zb ih.1 ih.2.1 ih.2.2 hz H,
      fun h x hz H => fM_term_zb ih.1 ih.2.1 ih.2.2 hz H,
      fun h x hz H => fM_sum_zb ih.1 ih.2.1 ih.2.2 hz H⟩
theorem gMG_zb_0 (n : Nat) : ∀ (h : gH) (x : Int32 × gH), ZB h → gMG n 0 h = some x → ZB x.2 := (gMG_zba n).1
theorem gMG_zb_1 (n : Nat) : ∀ (h : gH) (x : Int32 × gH), ZB h → gMG n 1 h = some x → ZB x.2 := (gMG_zba n).2.1
theorem gMG_zb_2 (n : Nat) : ∀ (h : gH) (x : Int32 × gH), ZB h → gMG n 2 h = some x → ZB x.2 := (gMG_zba n).2.2
theorem fM_test_47_zb {v1 : Int32}  {h : gH} {x : (Int32 × gH)} (hz : ZB h) (H : fM_test_47 v1  h = some x) : ZB x.2 := by
  unfold fM_test_47 at H
  obtain ⟨h5, e6, H⟩ := gbi H
  replace hz := fM_next_zb  hz e6
  obtain ⟨p7, e8, H⟩ := gbi H
  replace hz := gMG_zb_2 40 _ _ hz e8
  by_cases q : (h 65 27) = (60 : Int32)
  · replace H := gift q H
    by_cases q : v1 < p7.1
    · replace H := gift q H
      obtain rfl := Option.some.inj H
      exact hz
    · replace H := giff q H
      obtain rfl := Option.some.inj H
      exact hz
  · replace H := giff q H
    by_cases q : (h 65 27) = (61 : Int32)
    · replace H := gift q H
      by_cases q : v1 = p7.1
      · replace H := gift q H
        obtain rfl := Option.some.inj H
        exact hz
      · replace H := giff q H
        obtain rfl := Option.some.inj H
        exact hz
    · replace H := giff q H
      by_cases q : (h 65 27) = (62 : Int32)
      · replace H := gift q H
        by_cases q : p7.1 < v1
        · replace H := gift q H
          obtain rfl := Option.some.inj H
          exact hz
        · replace H := giff q H
          obtain rfl := Option.some.inj H
          exact hz
      · replace H := giff q H
        by_cases q : v1 = p7.1
        · replace H := gift q H
          obtain rfl := Option.some.inj H
          exact hz
        · replace H := giff q H
          obtain rfl := Option.some.inj H
          exact hz
theorem fM_test_zb {h : gH} {x : (Int32 × gH)} (hz : ZB h) (H : fM_test  h = some x) : ZB x.2 := by
  unfold fM_test at H
  obtain ⟨p1, e2, H⟩ := gbi H
  replace hz := gMG_zb_2 40 _ _ hz e2
  obtain ⟨p3, e4, H⟩ := gbi H
  replace hz := fM_isSign_zb  hz e4
  by_cases q : p3.1 = (0 : Int32)
  · replace H := gift q H
    obtain ⟨p9, e10, H⟩ := gbi H
    replace hz := fM_isSign_zb  hz e10
    by_cases q : p9.1 = (0 : Int32)
    · replace H := gift q H
      obtain ⟨p11, e12, H⟩ := gbi H
      replace hz := fM_isSign_zb  hz e12
      by_cases q : p11.1 = (0 : Int32)
      · replace H := gift q H
        obtain ⟨p13, e14, H⟩ := gbi H
        replace hz := fM_isSign_zb  hz e14
        by_cases q : p13.1 = (0 : Int32)
        · replace H := gift q H
          obtain ⟨h15, e16, H⟩ := gbi H
          replace hz := fM_fail_zb  hz e16
          obtain rfl := Option.some.inj H
          exact hz
        · replace H := giff q H
          exact fM_test_47_zb  hz H
      · replace H := giff q H
        exact fM_test_47_zb  hz H
    · replace H := giff q H
      exact fM_test_47_zb  hz H
  · replace H := giff q H
    exact fM_test_47_zb  hz H
theorem fM_fresh_43_zb  {h : gH} {x : (Int32 × gH)} (hz : ZB h) (H : fM_fresh_43   h = some x) : ZB x.2 := by
  unfold fM_fresh_43 at H
  obtain ⟨p1, e2, H⟩ := gbi H
  replace hz := fM_name_zb  hz e2
  obtain rfl := Option.some.inj H
  exact hz
theorem fM_fresh_zb {h : gH} {x : (Int32 × gH)} (hz : ZB h) (H : fM_fresh  h = some x) : ZB x.2 := by
  unfold fM_fresh at H
  by_cases q : (h 65 29) = (0 : Int32)
  · replace H := gift q H
    by_cases q : (h 65 25) = (1 : Int32)
    · replace H := gift q H
      by_cases q : (h 65 27) < (8 : Int32)
      · replace H := gift q H
        by_cases q : (((h 65 31) >>> ((h 65 27) &&& 31)) &&& (1 : Int32)) = (1 : Int32)
        · replace H := gift q H
          obtain ⟨h3, e4, H⟩ := gbi H
          replace hz := fM_fail_zb  hz e4
          exact fM_fresh_43_zb  hz H
        · replace H := giff q H
          exact fM_fresh_43_zb  hz H
      · replace H := giff q H
        exact fM_fresh_43_zb  hz H
    · replace H := giff q H
      exact fM_fresh_43_zb  hz H
  · replace H := giff q H
    exact fM_fresh_43_zb  hz H
theorem fM_reads_261_zb {v1 : Int32}  {h : gH} {x : (Int32 × gH)} (hz : ZB h) (H : fM_reads_261 v1  h = some x) : ZB x.2 := by
  unfold fM_reads_261 at H
  by_cases q : (h 65 29) = (0 : Int32)
  · replace H := gift q H
    by_cases q : (h 65 25) = (0 : Int32)
    · replace H := gift q H
      obtain ⟨b22, H⟩ := ggi H
      have b22 := gbo_or b22
      obtain rfl := Option.some.inj H
      exact hz
    · replace H := giff q H
      obtain ⟨h23, e24, H⟩ := gbi H
      replace hz := fM_fail_zb  hz e24
      obtain ⟨b25, H⟩ := ggi H
      have b25 := gbo_or b25
      obtain rfl := Option.some.inj H
      exact hz
  · replace H := giff q H
    obtain ⟨b21, H⟩ := ggi H
    have b21 := gbo_or b21
    obtain rfl := Option.some.inj H
    exact hz
theorem fM_reads_260_zb {s0 : Int32}  {h : gH} {x : (Int32 × gH)} (hz : ZB h) (H : fM_reads_260  s0 h = some x) : ZB x.2 := by
  unfold fM_reads_260 at H
  exact fM_reads_261_zb  hz H
theorem fM_reads_259_zb  {h : gH} {x : (Int32 × gH)} (hz : ZB h) (H : fM_reads_259   h = some x) : ZB x.2 := by
  unfold fM_reads_259 at H
  exact fM_reads_260_zb  hz H
theorem fM_reads_255_zb  {h : gH} {x : (Int32 × gH)} (hz : ZB h) (H : fM_reads_255   h = some x) : ZB x.2 := by
  unfold fM_reads_255 at H
  exact fM_reads_260_zb  hz H
theorem fM_reads_242_zb {v1 : Int32} {v2 : Int32}  {h : gH} {x : (Int32 × gH)} (hz : ZB h) (H : fM_reads_242 v1 v2  h = some x) : ZB x.2 := by
  unfold fM_reads_242 at H
  obtain ⟨b27, H⟩ := ggi H
  have b27 := gin_in b27
  by_cases q : (h 80 v2.toNatClampNeg) = (0 : Int32)
  · replace H := gift q H
    by_cases q : v1 = (0 : Int32)
    · replace H := gift q H
      exact fM_reads_255_zb  hz H
    · replace H := giff q H
      exact fM_reads_259_zb  hz H
  · replace H := giff q H
    exact fM_reads_259_zb  hz H
theorem fM_reads_218_zb {v2 : Int32} {v5 : Int32}  {h : gH} {x : (Int32 × gH)} (hz : ZB h) (H : fM_reads_218 v2 v5  h = some x) : ZB x.2 := by
  unfold fM_reads_218 at H
  obtain ⟨p19, e20, H⟩ := gbi H
  replace hz := fM_test_zb  hz e20
  by_cases q : v5 = (0 : Int32)
  · replace H := gift q H
    exact fM_reads_261_zb  hz H
  · replace H := giff q H
    obtain ⟨b26, H⟩ := ggi H
    have b26 := gin_in b26
    by_cases q : (p19.2 80 v2.toNatClampNeg) = (1 : Int32)
    · replace H := gift q H
      by_cases q : p19.1 = (0 : Int32)
      · replace H := gift q H
        exact fM_reads_242_zb  hz H
      · replace H := giff q H
        exact fM_reads_255_zb  hz H
    · replace H := giff q H
      exact fM_reads_242_zb  hz H
theorem fM_reads_182_zb {v2 : Int32} {v4 : Int32} {s0 : Int32}  {h : gH} {x : (Int32 × gH)} (hz : ZB h) (H : fM_reads_182 v2 v4 s0 h = some x) : ZB x.2 := by
  unfold fM_reads_182 at H
  by_cases q : s0 = (0 : Int32)
  · replace H := gift q H
    obtain ⟨h15, e16, H⟩ := glei H
    replace hz := zb_e (zb_f hz (by decide)) e16
    obtain ⟨h17, e18, H⟩ := gbi H
    replace hz := fM_next_zb  hz e18
    exact fM_reads_218_zb  hz H
  · replace H := giff q H
    obtain ⟨h28, e29, H⟩ := glei H
    replace hz := zb_e (zb_f hz (by decide)) e29
    obtain ⟨h30, e31, H⟩ := glei H
    replace hz := zb_e (zb_f hz (by decide)) e31
    obtain ⟨h32, e33, H⟩ := gbi H
    replace hz := fM_next_zb  hz e33
    exact fM_reads_218_zb  hz H
theorem fM_reads_181_zb {v2 : Int32} {v4 : Int32}  {h : gH} {x : (Int32 × gH)} (hz : ZB h) (H : fM_reads_181 v2 v4  h = some x) : ZB x.2 := by
  unfold fM_reads_181 at H
  exact fM_reads_182_zb  hz H
theorem fM_reads_139_zb {s0 : Int32}  {h : gH} {x : (Int32 × gH)} (hz : ZB h) (H : fM_reads_139  s0 h = some x) : ZB x.2 := by
  unfold fM_reads_139 at H
  obtain ⟨h13, e14, H⟩ := gbi H
  replace hz := fM_next_zb  hz e14
  by_cases q : s0 = (-1 : Int32)
  · replace H := gift q H
    exact fM_reads_181_zb  hz H
  · replace H := giff q H
    by_cases q : (h13 65 25) = (3 : Int32)
    · replace H := gift q H
      by_cases q : (h13 65 27) = (58 : Int32)
      · replace H := gift q H
        exact fM_reads_182_zb  hz H
      · replace H := giff q H
        exact fM_reads_181_zb  hz H
    · replace H := giff q H
      exact fM_reads_181_zb  hz H
theorem fM_reads_123_zb  {h : gH} {x : (Int32 × gH)} (hz : ZB h) (H : fM_reads_123   h = some x) : ZB x.2 := by
  unfold fM_reads_123 at H
  by_cases q : (h 65 25) = (1 : Int32)
  · replace H := gift q H
    exact fM_reads_139_zb  hz H
  · replace H := giff q H
    exact fM_reads_139_zb  hz H
theorem fM_reads_119_zb {s0 : Int32}  {h : gH} {x : (Int32 × gH)} (hz : ZB h) (H : fM_reads_119  s0 h = some x) : ZB x.2 := by
  unfold fM_reads_119 at H
  exact fM_reads_261_zb  hz H
theorem fM_reads_118_zb  {h : gH} {x : (Int32 × gH)} (hz : ZB h) (H : fM_reads_118   h = some x) : ZB x.2 := by
  unfold fM_reads_118 at H
  exact fM_reads_119_zb  hz H
theorem fM_reads_77_zb {v2 : Int32} {v3 : Int32} {s0 : Int32}  {h : gH} {x : (Int32 × gH)} (hz : ZB h) (H : fM_reads_77 v2 v3 s0 h = some x) : ZB x.2 := by
  unfold fM_reads_77 at H
  by_cases q : (h 65 29) = (0 : Int32)
  · replace H := gift q H
    by_cases q : (h 65 25) = (0 : Int32)
    · replace H := gift q H
      exact fM_reads_261_zb  hz H
    · replace H := giff q H
      obtain ⟨p42, e43, H⟩ := gbi H
      replace hz := fM_fresh_zb  hz e43
      by_cases q : s0 = (0 : Int32)
      · replace H := gift q H
        exact fM_reads_118_zb  hz H
      · replace H := giff q H
        by_cases q : v2 = p42.1
        · replace H := gift q H
          exact fM_reads_118_zb  hz H
        · replace H := giff q H
          by_cases q : v3 = p42.1
          · replace H := gift q H
            exact fM_reads_118_zb  hz H
          · replace H := giff q H
            exact fM_reads_119_zb  hz H
  · replace H := giff q H
    exact fM_reads_261_zb  hz H
theorem fM_reads_zb {h : gH} {x : (Int32 × gH)} (hz : ZB h) (H : fM_reads  h = some x) : ZB x.2 := by
  unfold fM_reads at H
  obtain ⟨h1, e2, H⟩ := glei H
  replace hz := zb_e (zb_f hz (by decide)) e2
  obtain ⟨h3, e4, H⟩ := glei H
  replace hz := zb_e (zb_f hz (by decide)) e4
  obtain ⟨h5, e6, H⟩ := glei H
  replace hz := zb_e (zb_z hz (Or.inl rfl)) e6
  obtain ⟨h7, e8, H⟩ := glei H
  replace hz := zb_e (zb_f hz (by decide)) e8
  obtain ⟨h9, e10, H⟩ := glei H
  replace hz := zb_e (zb_f hz (by decide)) e10
  obtain ⟨h11, e12, H⟩ := gbi H
  replace hz := fM_next_zb  hz e12
  by_cases q : (h11 65 25) = (1 : Int32)
  · replace H := gift q H
    by_cases q : (h11 65 27) = (8 : Int32)
    · replace H := gift q H
      obtain ⟨h34, e35, H⟩ := glei H
      replace hz := zb_e (zb_f hz (by decide)) e35
      obtain ⟨h36, e37, H⟩ := gbi H
      replace hz := fM_next_zb  hz e37
      obtain ⟨p38, e39, H⟩ := gbi H
      replace hz := fM_fresh_zb  hz e39
      obtain ⟨p40, e41, H⟩ := gbi H
      replace hz := fM_fresh_zb  hz e41
      by_cases q : p38.1 = p40.1
      · replace H := gift q H
        exact fM_reads_77_zb  hz H
      · replace H := giff q H
        exact fM_reads_77_zb  hz H
    · replace H := giff q H
      exact fM_reads_123_zb  hz H
  · replace H := giff q H
    exact fM_reads_123_zb  hz H
theorem fM_variable_4_zb {v0 : Int32} {v1 : Int32}  : ∀ (n : Nat) (v2 : Int32) (v3 : Int32) (h : gH) (x : (Int32 × gH)), ZB h → fM_variable_4 v0 v1 n v2 v3 h = some x → ZB x.2 := by
  intro n
  induction n with
  | zero => intro v2 v3 h x  hz H; exact g0 H
  | succ n ih =>
    intro v2 v3 h x  hz H
    unfold fM_variable_4 at H
    by_cases q : v3 < (8 : Int32)
    · replace H := gift q H
      by_cases q : ((v0 >>> (v3 &&& 31)) &&& (1 : Int32)) = (1 : Int32)
      · replace H := gift q H
        by_cases q : v2 = v1
        · replace H := gift q H
          obtain rfl := Option.some.inj H
          exact hz
        · replace H := giff q H
          exact ih _ _ _ _  hz H
      · replace H := giff q H
        exact ih _ _ _ _  hz H
    · replace H := giff q H
      obtain rfl := Option.some.inj H
      exact hz
theorem fM_variable_zb {v0 : Int32} {v1 : Int32} {h : gH} {x : (Int32 × gH)} (hz : ZB h) (H : fM_variable v0 v1 h = some x) : ZB x.2 := by
  unfold fM_variable at H
  exact fM_variable_4_zb  gfu _ _ _ _  hz H
theorem fM_rule_166_zb {k80 : Int32 → gH → Option (Int32 × gH)} {v2 : Int32} {v3 : Int32} {v4 : Int32} {v5 : Int32} {v6 : Int32} (hk80z : ∀ (u6 : Int32) (h : gH) (x : (Int32 × gH)), ZB h → k80 u6 h = some x → ZB x.2) {h : gH} {x : (Int32 × gH)} (hz : ZB h) (H : fM_rule_166 k80 v2 v3 v4 v5 v6  h = some x) : ZB x.2 := by
  unfold fM_rule_166 at H
  obtain ⟨p18, e19, H⟩ := gbi H
  replace hz := fM_reads_zb  hz e19
  obtain ⟨b20, H⟩ := ggi H
  have b20 := gin_in b20
  obtain ⟨b21, H⟩ := ggi H
  have b21 := gbo_or b21
  obtain ⟨h22, e23, H⟩ := glei H
  replace hz := zb_e (zb_z hz b21) e23
  exact hk80z _ _ _  hz H
theorem fM_rule_149_zb {k80 : Int32 → gH → Option (Int32 × gH)} {v2 : Int32} {v3 : Int32} {v4 : Int32} {v5 : Int32} {v6 : Int32} (hk80z : ∀ (u6 : Int32) (h : gH) (x : (Int32 × gH)), ZB h → k80 u6 h = some x → ZB x.2) {h : gH} {x : (Int32 × gH)} (hz : ZB h) (H : fM_rule_149 k80 v2 v3 v4 v5 v6  h = some x) : ZB x.2 := by
  unfold fM_rule_149 at H
  by_cases q : (2 : Int32) < v3
  · replace H := gift q H
    obtain ⟨p24, e25, H⟩ := gbi H
    replace hz := fM_variable_zb  hz e25
    obtain ⟨b26, H⟩ := ggi H
    have b26 := gin_in b26
    exact fM_rule_166_zb hk80z  (zb_o hz (by decide)) H
  · replace H := giff q H
    exact fM_rule_166_zb hk80z  hz H
theorem fM_rule_132_zb {k80 : Int32 → gH → Option (Int32 × gH)} {v2 : Int32} {v3 : Int32} {v4 : Int32} {v5 : Int32} {v6 : Int32} (hk80z : ∀ (u6 : Int32) (h : gH) (x : (Int32 × gH)), ZB h → k80 u6 h = some x → ZB x.2) {h : gH} {x : (Int32 × gH)} (hz : ZB h) (H : fM_rule_132 k80 v2 v3 v4 v5 v6  h = some x) : ZB x.2 := by
  unfold fM_rule_132 at H
  by_cases q : (1 : Int32) < v3
  · replace H := gift q H
    obtain ⟨p27, e28, H⟩ := gbi H
    replace hz := fM_variable_zb  hz e28
    obtain ⟨b29, H⟩ := ggi H
    have b29 := gin_in b29
    exact fM_rule_149_zb hk80z  (zb_o hz (by decide)) H
  · replace H := giff q H
    exact fM_rule_149_zb hk80z  hz H
theorem fM_rule_116_zb {k80 : Int32 → gH → Option (Int32 × gH)} {v2 : Int32} {v3 : Int32} {v4 : Int32} {v5 : Int32} {v6 : Int32} (hk80z : ∀ (u6 : Int32) (h : gH) (x : (Int32 × gH)), ZB h → k80 u6 h = some x → ZB x.2) {h : gH} {x : (Int32 × gH)} (hz : ZB h) (H : fM_rule_116 k80 v2 v3 v4 v5 v6  h = some x) : ZB x.2 := by
  unfold fM_rule_116 at H
  by_cases q : (0 : Int32) < v3
  · replace H := gift q H
    obtain ⟨p30, e31, H⟩ := gbi H
    replace hz := fM_variable_zb  hz e31
    obtain ⟨b32, H⟩ := ggi H
    have b32 := gin_in b32
    exact fM_rule_132_zb hk80z  (zb_o hz (by decide)) H
  · replace H := giff q H
    exact fM_rule_132_zb hk80z  hz H
theorem fM_rule_107_zb {k80 : Int32 → gH → Option (Int32 × gH)} {v2 : Int32} {v3 : Int32} {v4 : Int32} {v5 : Int32} {v6 : Int32} (hk80z : ∀ (u6 : Int32) (h : gH) (x : (Int32 × gH)), ZB h → k80 u6 h = some x → ZB x.2) {h : gH} {x : (Int32 × gH)} (hz : ZB h) (H : fM_rule_107 k80 v2 v3 v4 v5 v6  h = some x) : ZB x.2 := by
  unfold fM_rule_107 at H
  by_cases q : (0 : Int32) < v3
  · replace H := gift q H
    exact fM_rule_116_zb hk80z  hz H
  · replace H := giff q H
    by_cases q : v4 = (0 : Int32)
    · replace H := gift q H
      exact fM_rule_116_zb hk80z  hz H
    · replace H := giff q H
      exact hk80z _ _ _  hz H
theorem fM_rule_97_zb {k80 : Int32 → gH → Option (Int32 × gH)} {v2 : Int32} {v3 : Int32} {v4 : Int32} {v5 : Int32} {v6 : Int32} (hk80z : ∀ (u6 : Int32) (h : gH) (x : (Int32 × gH)), ZB h → k80 u6 h = some x → ZB x.2) {h : gH} {x : (Int32 × gH)} (hz : ZB h) (H : fM_rule_97 k80 v2 v3 v4 v5 v6  h = some x) : ZB x.2 := by
  unfold fM_rule_97 at H
  by_cases q : (1 : Int32) < v3
  · replace H := gift q H
    exact fM_rule_107_zb hk80z  hz H
  · replace H := giff q H
    by_cases q : v5 = (0 : Int32)
    · replace H := gift q H
      exact fM_rule_107_zb hk80z  hz H
    · replace H := giff q H
      exact hk80z _ _ _  hz H
theorem fM_rule_80_zb {k70 : Int32 → gH → Option (Int32 × gH)} {v2 : Int32} {v3 : Int32} {v4 : Int32} {v5 : Int32} (hk70z : ∀ (u5 : Int32) (h : gH) (x : (Int32 × gH)), ZB h → k70 u5 h = some x → ZB x.2) : ∀ (n : Nat) (v6 : Int32) (h : gH) (x : (Int32 × gH)), ZB h → fM_rule_80 k70 v2 v3 v4 v5 n v6 h = some x → ZB x.2 := by
  intro n
  induction n with
  | zero => intro v6 h x  hz H; exact g0 H
  | succ n ih =>
    intro v6 h x  hz H
    unfold fM_rule_80 at H
    by_cases q : v6 < (10 : Int32)
    · replace H := gift q H
      by_cases q : (2 : Int32) < v3
      · replace H := gift q H
        exact fM_rule_97_zb ih  hz H
      · replace H := giff q H
        by_cases q : v6 = (0 : Int32)
        · replace H := gift q H
          exact fM_rule_97_zb ih  hz H
        · replace H := giff q H
          exact ih _ _ _  hz H
    · replace H := giff q H
      exact hk70z _ _ _  hz H
theorem fM_rule_70_zb {k60 : Int32 → gH → Option (Int32 × gH)} {v2 : Int32} {v3 : Int32} {v4 : Int32} (hk60z : ∀ (u4 : Int32) (h : gH) (x : (Int32 × gH)), ZB h → k60 u4 h = some x → ZB x.2) : ∀ (n : Nat) (v5 : Int32) (h : gH) (x : (Int32 × gH)), ZB h → fM_rule_70 k60 v2 v3 v4 n v5 h = some x → ZB x.2 := by
  intro n
  induction n with
  | zero => intro v5 h x  hz H; exact g0 H
  | succ n ih =>
    intro v5 h x  hz H
    unfold fM_rule_70 at H
    by_cases q : v5 < (10 : Int32)
    · replace H := gift q H
      exact fM_rule_80_zb ih  gfu _ _ _  hz H
    · replace H := giff q H
      exact hk60z _ _ _  hz H
theorem fM_rule_60_zb {v2 : Int32} {v3 : Int32}  : ∀ (n : Nat) (v4 : Int32) (h : gH) (x : (Int32 × gH)), ZB h → fM_rule_60 v2 v3 n v4 h = some x → ZB x.2 := by
  intro n
  induction n with
  | zero => intro v4 h x  hz H; exact g0 H
  | succ n ih =>
    intro v4 h x  hz H
    unfold fM_rule_60 at H
    by_cases q : v4 < (10 : Int32)
    · replace H := gift q H
      exact fM_rule_70_zb ih  gfu _ _ _  hz H
    · replace H := giff q H
      obtain ⟨h5, e6, H⟩ := glei H
      replace hz := zb_e (zb_f hz (by decide)) e6
      obtain ⟨b7, H⟩ := ggi H
      have b7 := gin_in b7
      obtain ⟨h8, e9, H⟩ := glei H
      replace hz := zb_e (zb_o hz (by decide)) e9
      obtain ⟨b10, H⟩ := ggi H
      have b10 := gin_in b10
      obtain ⟨h11, e12, H⟩ := glei H
      replace hz := zb_e (zb_o hz (by decide)) e12
      obtain ⟨b13, H⟩ := ggi H
      have b13 := gin_in b13
      obtain ⟨h14, e15, H⟩ := glei H
      replace hz := zb_e (zb_z hz (Or.inr rfl)) e15
      obtain ⟨h16, e17, H⟩ := glei H
      replace hz := zb_e (zb_f hz (by decide)) e17
      obtain rfl := Option.some.inj H
      exact hz
theorem fM_rule_zb {h : gH} {x : (Int32 × gH)} (hz : ZB h) (H : fM_rule  h = some x) : ZB x.2 := by
  unfold fM_rule at H
  by_cases q : (h 65 8) = (16 : Int32)
  · replace H := gift q H
    obtain rfl := Option.some.inj H
    exact hz
  · replace H := giff q H
    by_cases q : (h 65 2) = (0 : Int32)
    · replace H := gift q H
      obtain ⟨p1, e2, H⟩ := gbi H
      replace hz := fM_reads_zb  hz e2
      by_cases q : (p1.2 65 29) = (0 : Int32)
      · replace H := gift q H
        obtain ⟨p3, e4, H⟩ := gbi H
        replace hz := fM_bitsOf_zb  hz e4
        exact fM_rule_60_zb  gfu _ _ _  hz H
      · replace H := giff q H
        obtain ⟨h33, e34, H⟩ := glei H
        replace hz := zb_e (zb_f hz (by decide)) e34
        obtain rfl := Option.some.inj H
        exact hz
    · replace H := giff q H
      obtain rfl := Option.some.inj H
      exact hz
theorem fM_allRules_zb {h : gH} {x : (Int32 × gH)} (hz : ZB h) (H : fM_allRules  h = some x) : ZB x.2 := by
  unfold fM_allRules at H
  obtain rfl := Option.some.inj H
  exact hz
theorem fM_pairOf_zb {v1 : Int32} {v2 : Int32} {h : gH} {x : (Int32 × gH)} (hz : ZB h) (H : fM_pairOf v1 v2 h = some x) : ZB x.2 := by
  unfold fM_pairOf at H
  obtain ⟨b1, H⟩ := ggi H
  have b1 := gin_in b1
  obtain rfl := Option.some.inj H
  exact hz
theorem fM_ruleAt_zb {v1 : Int32} {h : gH} {x : (Int32 × gH)} (hz : ZB h) (H : fM_ruleAt v1 h = some x) : ZB x.2 := by
  unfold fM_ruleAt at H
  by_cases q : v1 < (h 65 8)
  · replace H := gift q H
    obtain rfl := Option.some.inj H
    exact hz
  · replace H := giff q H
    obtain rfl := Option.some.inj H
    exact hz
theorem fM_priority_zb {v1 : Int32} {h : gH} {x : (Int32 × gH)} (hz : ZB h) (H : fM_priority v1 h = some x) : ZB x.2 := by
  unfold fM_priority at H
  obtain ⟨b1, H⟩ := ggi H
  have b1 := gin_in b1
  by_cases q : (h 67 v1.toNatClampNeg) = (3 : Int32)
  · replace H := gift q H
    obtain rfl := Option.some.inj H
    exact hz
  · replace H := giff q H
    obtain ⟨b2, H⟩ := ggi H
    have b2 := gin_in b2
    obtain ⟨p3, e4, H⟩ := gbi H
    replace hz := fM_bitsOf_zb  hz e4
    obtain ⟨b5, H⟩ := ggi H
    have b5 := gin_in b5
    obtain rfl := Option.some.inj H
    exact hz
theorem fM_isHolding_48_zb {v4 : Int32} {v5 : Int32} {s1 : Int32} {s2 : Int32}  {h : gH} {x : (Int32 × gH)} (hz : ZB h) (H : fM_isHolding_48 v4 v5 s1 s2 h = some x) : ZB x.2 := by
  unfold fM_isHolding_48 at H
  by_cases q : (2 : Int32) < v5
  · replace H := gift q H
    obtain ⟨b6, H⟩ := ggi H
    have b6 := gin_in b6
    obtain ⟨b7, H⟩ := ggi H
    have b7 := gbo_or b7
    obtain rfl := Option.some.inj H
    exact hz
  · replace H := giff q H
    obtain ⟨b4, H⟩ := ggi H
    have b4 := gin_in b4
    obtain ⟨b5, H⟩ := ggi H
    have b5 := gbo_or b5
    obtain rfl := Option.some.inj H
    exact hz
theorem fM_isHolding_33_zb {v3 : Int32} {v4 : Int32} {v5 : Int32} {s1 : Int32} {s2 : Int32}  {h : gH} {x : (Int32 × gH)} (hz : ZB h) (H : fM_isHolding_33 v3 v4 v5 s1 s2 h = some x) : ZB x.2 := by
  unfold fM_isHolding_33 at H
  by_cases q : (1 : Int32) < v5
  · replace H := gift q H
    exact fM_isHolding_48_zb  hz H
  · replace H := giff q H
    exact fM_isHolding_48_zb  hz H
theorem fM_isHolding_zb {v1 : Int32} {v2 : Int32} {v3 : Int32} {v4 : Int32} {h : gH} {x : (Int32 × gH)} (hz : ZB h) (H : fM_isHolding v1 v2 v3 v4 h = some x) : ZB x.2 := by
  unfold fM_isHolding at H
  obtain ⟨b1, H⟩ := ggi H
  have b1 := gin_in b1
  obtain ⟨p2, e3, H⟩ := gbi H
  replace hz := fM_bitsOf_zb  hz e3
  by_cases q : (0 : Int32) < p2.1
  · replace H := gift q H
    exact fM_isHolding_33_zb  hz H
  · replace H := giff q H
    exact fM_isHolding_33_zb  hz H
theorem fM_holds_87_zb {v1 : Int32} {v2 : Int32} {v3 : Int32} {v4 : Int32}  {h : gH} {x : (Int32 × gH)} (hz : ZB h) (H : fM_holds_87 v1 v2 v3 v4  h = some x) : ZB x.2 := by
  unfold fM_holds_87 at H
  obtain ⟨p6, e7, H⟩ := gbi H
  replace hz := fM_isHolding_zb  hz e7
  by_cases q : p6.1 = (0 : Int32)
  · replace H := gift q H
    obtain rfl := Option.some.inj H
    exact hz
  · replace H := giff q H
    obtain rfl := Option.some.inj H
    exact hz
theorem fM_holds_65_zb {v1 : Int32} {v2 : Int32} {v3 : Int32} {v4 : Int32} {v5 : Int32}  {h : gH} {x : (Int32 × gH)} (hz : ZB h) (H : fM_holds_65 v1 v2 v3 v4 v5  h = some x) : ZB x.2 := by
  unfold fM_holds_65 at H
  by_cases q : (2 : Int32) < v5
  · replace H := gift q H
    obtain ⟨p8, e9, H⟩ := gbi H
    replace hz := fM_in_zb  hz e9
    by_cases q : p8.1 = (0 : Int32)
    · replace H := gift q H
      obtain rfl := Option.some.inj H
      exact hz
    · replace H := giff q H
      exact fM_holds_87_zb  hz H
  · replace H := giff q H
    exact fM_holds_87_zb  hz H
theorem fM_holds_47_zb {v1 : Int32} {v2 : Int32} {v3 : Int32} {v4 : Int32} {v5 : Int32}  {h : gH} {x : (Int32 × gH)} (hz : ZB h) (H : fM_holds_47 v1 v2 v3 v4 v5  h = some x) : ZB x.2 := by
  unfold fM_holds_47 at H
  by_cases q : (1 : Int32) < v5
  · replace H := gift q H
    obtain ⟨p10, e11, H⟩ := gbi H
    replace hz := fM_in_zb  hz e11
    by_cases q : p10.1 = (0 : Int32)
    · replace H := gift q H
      obtain rfl := Option.some.inj H
      exact hz
    · replace H := giff q H
      exact fM_holds_65_zb  hz H
  · replace H := giff q H
    exact fM_holds_65_zb  hz H
theorem fM_holds_zb {v1 : Int32} {v2 : Int32} {v3 : Int32} {v4 : Int32} {h : gH} {x : (Int32 × gH)} (hz : ZB h) (H : fM_holds v1 v2 v3 v4 h = some x) : ZB x.2 := by
  unfold fM_holds at H
  obtain ⟨p1, e2, H⟩ := gbi H
  replace hz := fM_in_zb  hz e2
  by_cases q : p1.1 = (0 : Int32)
  · replace H := gift q H
    obtain rfl := Option.some.inj H
    exact hz
  · replace H := giff q H
    obtain ⟨b3, H⟩ := ggi H
    have b3 := gin_in b3
    obtain ⟨p4, e5, H⟩ := gbi H
    replace hz := fM_bitsOf_zb  hz e5
    by_cases q : (0 : Int32) < p4.1
    · replace H := gift q H
      obtain ⟨p12, e13, H⟩ := gbi H
      replace hz := fM_in_zb  hz e13
      by_cases q : p12.1 = (0 : Int32)
      · replace H := gift q H
        obtain rfl := Option.some.inj H
        exact hz
      · replace H := giff q H
        exact fM_holds_47_zb  hz H
    · replace H := giff q H
      exact fM_holds_47_zb  hz H
theorem fM_taken_58_zb {v1 : Int32}  {h : gH} {x : (Int32 × gH)} (hz : ZB h) (H : fM_taken_58 v1  h = some x) : ZB x.2 := by
  unfold fM_taken_58 at H
  obtain ⟨b6, H⟩ := ggi H
  have b6 := gin_in b6
  obtain ⟨p7, e8, H⟩ := gbi H
  replace hz := fM_bitsOf_zb  hz e8
  obtain rfl := Option.some.inj H
  exact hz
theorem fM_taken_zb {v1 : Int32} {v2 : Int32} {h : gH} {x : (Int32 × gH)} (hz : ZB h) (H : fM_taken v1 v2 h = some x) : ZB x.2 := by
  unfold fM_taken at H
  obtain ⟨p1, e2, H⟩ := gbi H
  replace hz := fM_in_zb  hz e2
  by_cases q : p1.1 = (0 : Int32)
  · replace H := gift q H
    obtain rfl := Option.some.inj H
    exact hz
  · replace H := giff q H
    obtain ⟨p3, e4, H⟩ := gbi H
    replace hz := fM_in_zb  hz e4
    by_cases q : p3.1 = (0 : Int32)
    · replace H := gift q H
      obtain rfl := Option.some.inj H
      exact hz
    · replace H := giff q H
      obtain ⟨b5, H⟩ := ggi H
      have b5 := gin_in b5
      by_cases q : (p3.2 67 v1.toNatClampNeg) = v2
      · replace H := gift q H
        exact fM_taken_58_zb  hz H
      · replace H := giff q H
        obtain ⟨b9, H⟩ := ggi H
        have b9 := gin_in b9
        by_cases q : (p3.2 67 v1.toNatClampNeg) = (1 : Int32)
        · replace H := gift q H
          by_cases q : v2 = (0 : Int32)
          · replace H := gift q H
            exact fM_taken_58_zb  hz H
          · replace H := giff q H
            obtain rfl := Option.some.inj H
            exact hz
        · replace H := giff q H
          obtain rfl := Option.some.inj H
          exact hz
theorem fM_domainAt_zb {v1 : Int32} {v2 : Int32} {h : gH} {x : (Int32 × gH)} (hz : ZB h) (H : fM_domainAt v1 v2 h = some x) : ZB x.2 := by
  unfold fM_domainAt at H
  obtain ⟨b1, H⟩ := ggi H
  have b1 := gin_in b1
  obtain ⟨p2, e3, H⟩ := gbi H
  replace hz := fM_variable_zb  hz e3
  by_cases q : p2.1 = (-1 : Int32)
  · replace H := gift q H
    obtain rfl := Option.some.inj H
    exact hz
  · replace H := giff q H
    obtain ⟨b4, H⟩ := ggi H
    have b4 := gin_in b4
    obtain rfl := Option.some.inj H
    exact hz
theorem fM_goesThrough_80_zb {k60 : Int32 → gH → Option gH} {v1 : Int32} {v2 : Int32} {v3 : Int32} {v4 : Int32} {v5 : Int32} {v6 : Int32} (hk60z : ∀ (u6 : Int32) (h : gH) (x : gH), ZB h → k60 u6 h = some x → ZB x) : ∀ (n : Nat) (v7 : Int32) (h : gH) (x : gH), ZB h → fM_goesThrough_80 k60 v1 v2 v3 v4 v5 v6 n v7 h = some x → ZB x := by
  intro n
  induction n with
  | zero => intro v7 h x  hz H; exact g0 H
  | succ n ih =>
    intro v7 h x  hz H
    unfold fM_goesThrough_80 at H
    by_cases q : v7 < (10 : Int32)
    · replace H := gift q H
      by_cases q : ((v3 >>> (v6 &&& 31)) &&& (1 : Int32)) = (1 : Int32)
      · replace H := gift q H
        by_cases q : ((v4 >>> (v7 &&& 31)) &&& (1 : Int32)) = (1 : Int32)
        · replace H := gift q H
          obtain ⟨b9, H⟩ := ggi H
          have b9 := gin_in b9
          by_cases q : (h 69 (((((1000 : Int32) * v1) + ((100 : Int32) * v5)) + ((10 : Int32) * v6)) + v7).toNatClampNeg) = (0 : Int32)
          · replace H := gift q H
            exact ih _ _ _  hz H
          · replace H := giff q H
            obtain ⟨h10, e11, H⟩ := glei H
            replace hz := zb_e (zb_f hz (by decide)) e11
            obtain ⟨h12, e13, H⟩ := glei H
            replace hz := zb_e (zb_o hz (by decide)) e13
            obtain ⟨h14, e15, H⟩ := glei H
            replace hz := zb_e (zb_o hz (by decide)) e15
            obtain ⟨h16, e17, H⟩ := glei H
            replace hz := zb_e (zb_o hz (by decide)) e17
            exact ih _ _ _  hz H
        · replace H := giff q H
          exact ih _ _ _  hz H
      · replace H := giff q H
        exact hk60z _ _ _  hz H
    · replace H := giff q H
      exact hk60z _ _ _  hz H
theorem fM_goesThrough_60_zb {k50 : Int32 → gH → Option gH} {v1 : Int32} {v2 : Int32} {v3 : Int32} {v4 : Int32} {v5 : Int32} (hk50z : ∀ (u5 : Int32) (h : gH) (x : gH), ZB h → k50 u5 h = some x → ZB x) : ∀ (n : Nat) (v6 : Int32) (h : gH) (x : gH), ZB h → fM_goesThrough_60 k50 v1 v2 v3 v4 v5 n v6 h = some x → ZB x := by
  intro n
  induction n with
  | zero => intro v6 h x  hz H; exact g0 H
  | succ n ih =>
    intro v6 h x  hz H
    unfold fM_goesThrough_60 at H
    by_cases q : v6 < (10 : Int32)
    · replace H := gift q H
      by_cases q : ((v2 >>> (v5 &&& 31)) &&& (1 : Int32)) = (1 : Int32)
      · replace H := gift q H
        exact fM_goesThrough_80_zb ih  gfu _ _ _  hz H
      · replace H := giff q H
        exact hk50z _ _ _  hz H
    · replace H := giff q H
      exact hk50z _ _ _  hz H
theorem fM_goesThrough_50_zb {v1 : Int32} {v2 : Int32} {v3 : Int32} {v4 : Int32}  : ∀ (n : Nat) (v5 : Int32) (h : gH) (x : gH), ZB h → fM_goesThrough_50 v1 v2 v3 v4 n v5 h = some x → ZB x := by
  intro n
  induction n with
  | zero => intro v5 h x  hz H; exact g0 H
  | succ n ih =>
    intro v5 h x  hz H
    unfold fM_goesThrough_50 at H
    by_cases q : v5 < (10 : Int32)
    · replace H := gift q H
      exact fM_goesThrough_60_zb ih  gfu _ _ _  hz H
    · replace H := giff q H
      obtain rfl := Option.some.inj H
      exact hz
theorem fM_goesThrough_7_zb {v1 : Int32}  : ∀ (n : Nat) (v2 : Int32) (h : gH) (x : gH), ZB h → fM_goesThrough_7 v1 n v2 h = some x → ZB x := by
  intro n
  induction n with
  | zero => intro v2 h x  hz H; exact g0 H
  | succ n ih =>
    intro v2 h x  hz H
    unfold fM_goesThrough_7 at H
    by_cases q : v2 < (3 : Int32)
    · replace H := gift q H
      obtain ⟨b18, H⟩ := ggi H
      have b18 := gin_in b18
      obtain ⟨h19, e20, H⟩ := glei H
      replace hz := zb_e (zb_o hz (by decide)) e20
      exact ih _ _ _  hz H
    · replace H := giff q H
      obtain ⟨p3, e4, H⟩ := gbi H
      replace hz := fM_domainAt_zb  hz e4
      obtain ⟨p5, e6, H⟩ := gbi H
      replace hz := fM_domainAt_zb  hz e6
      obtain ⟨p7, e8, H⟩ := gbi H
      replace hz := fM_domainAt_zb  hz e8
      exact fM_goesThrough_50_zb  gfu _ _ _  hz H
theorem fM_goesThrough_zb {v1 : Int32} {h : gH} {x : gH} (hz : ZB h) (H : fM_goesThrough v1 h = some x) : ZB x := by
  unfold fM_goesThrough at H
  obtain ⟨h1, e2, H⟩ := glei H
  replace hz := zb_e (zb_f hz (by decide)) e2
  exact fM_goesThrough_7_zb  gfu _ _ _  hz H
theorem fM_goes_85_zb  : ∀ (n : Nat) (v4 : Int32) (h : gH) (x : gH), ZB h → fM_goes_85  n v4 h = some x → ZB x := by
  intro n
  induction n with
  | zero => intro v4 h x  hz H; exact g0 H
  | succ n ih =>
    intro v4 h x  hz H
    unfold fM_goes_85 at H
    by_cases q : v4 < (24 : Int32)
    · replace H := gift q H
      obtain ⟨b10, H⟩ := ggi H
      have b10 := gin_in b10
      obtain ⟨h11, e12, H⟩ := glei H
      replace hz := zb_e (zb_z hz (Or.inl rfl)) e12
      exact ih _ _ _  hz H
    · replace H := giff q H
      obtain rfl := Option.some.inj H
      exact hz
theorem fM_goes_68_zb {v1 : Int32}  {h : gH} {x : gH} (hz : ZB h) (H : fM_goes_68 v1  h = some x) : ZB x := by
  unfold fM_goes_68 at H
  obtain ⟨b7, H⟩ := ggi H
  have b7 := gin_in b7
  by_cases q : (h 66 v1.toNatClampNeg) = (0 : Int32)
  · replace H := gift q H
    obtain ⟨h8, e9, H⟩ := glei H
    replace hz := zb_e (zb_z hz (Or.inr rfl)) e9
    exact fM_goes_85_zb  gfu _ _ _  hz H
  · replace H := giff q H
    obtain rfl := Option.some.inj H
    exact hz
theorem fM_goes_zb {v1 : Int32} {v2 : Int32} {v3 : Int32} {h : gH} {x : gH} (hz : ZB h) (H : fM_goes v1 v2 v3 h = some x) : ZB x := by
  unfold fM_goes at H
  obtain ⟨b1, H⟩ := ggi H
  have b1 := gin_in b1
  obtain ⟨b2, H⟩ := ggi H
  have b2 := gin_in b2
  obtain ⟨h3, e4, H⟩ := glei H
  replace hz := zb_e (zb_o hz (by decide)) e4
  obtain ⟨h5, e6, H⟩ := glei H
  replace hz := zb_e (zb_f hz (by decide)) e6
  by_cases q : (h5 65 36) = (0 : Int32)
  · replace H := gift q H
    obtain ⟨b13, H⟩ := ggi H
    have b13 := gin_in b13
    obtain ⟨h14, e15, H⟩ := glei H
    replace hz := zb_e (zb_o hz (by decide)) e15
    obtain ⟨b16, H⟩ := ggi H
    have b16 := gin_in b16
    obtain ⟨h17, e18, H⟩ := glei H
    replace hz := zb_e (zb_o hz (by decide)) e18
    exact fM_goes_68_zb  (zb_f hz (by decide)) H
  · replace H := giff q H
    exact fM_goes_68_zb  hz H
theorem fM_keeps_15_zb {v1 : Int32} {v3 : Int32} {v4 : Int32}  : ∀ (n : Nat) (v5 : Int32) (h : gH) (x : gH), ZB h → fM_keeps_15 v1 v3 v4 n v5 h = some x → ZB x := by
  intro n
  induction n with
  | zero => intro v5 h x  hz H; exact g0 H
  | succ n ih =>
    intro v5 h x  hz H
    unfold fM_keeps_15 at H
    by_cases q : v5 < (10 : Int32)
    · replace H := gift q H
      by_cases q : (h 65 2) = (0 : Int32)
      · replace H := gift q H
        by_cases q : ((v4 >>> (v5 &&& 31)) &&& (1 : Int32)) = (1 : Int32)
        · replace H := gift q H
          obtain ⟨h2, e3, H⟩ := gbi H
          replace hz := fM_goes_zb  hz e3
          exact ih _ _ _  hz H
        · replace H := giff q H
          exact ih _ _ _  hz H
      · replace H := giff q H
        obtain rfl := Option.some.inj H
        exact hz
    · replace H := giff q H
      obtain rfl := Option.some.inj H
      exact hz
theorem fM_keeps_zb {v1 : Int32} {v2 : Int32} {v3 : Int32} {h : gH} {x : gH} (hz : ZB h) (H : fM_keeps v1 v2 v3 h = some x) : ZB x := by
  unfold fM_keeps at H
  obtain ⟨b1, H⟩ := ggi H
  have b1 := gin_in b1
  exact fM_keeps_15_zb  gfu _ _ _  hz H
theorem fM_isAlone_2_zb {v1 : Int32} {v2 : Int32}  : ∀ (n : Nat) (v3 : Int32) (h : gH) (x : (Int32 × gH)), ZB h → fM_isAlone_2 v1 v2 n v3 h = some x → ZB x.2 := by
  intro n
  induction n with
  | zero => intro v3 h x  hz H; exact g0 H
  | succ n ih =>
    intro v3 h x  hz H
    unfold fM_isAlone_2 at H
    by_cases q : v3 < (8 : Int32)
    · replace H := gift q H
      by_cases q : v3 = v2
      · replace H := gift q H
        exact ih _ _ _  hz H
      · replace H := giff q H
        obtain ⟨b1, H⟩ := ggi H
        have b1 := gin_in b1
        by_cases q : (((h 68 v1.toNatClampNeg) >>> (v3 &&& 31)) &&& (1 : Int32)) = (1 : Int32)
        · replace H := gift q H
          obtain ⟨b2, H⟩ := ggi H
          have b2 := gin_in b2
          obtain ⟨p3, e4, H⟩ := gbi H
          replace hz := fM_pairOf_zb  hz e4
          by_cases q : (h 66 v3.toNatClampNeg) = ((1 : Int32) <<< (p3.1 &&& 31))
          · replace H := gift q H
            exact ih _ _ _  hz H
          · replace H := giff q H
            obtain rfl := Option.some.inj H
            exact hz
        · replace H := giff q H
          exact ih _ _ _  hz H
    · replace H := giff q H
      obtain rfl := Option.some.inj H
      exact hz
theorem fM_isAlone_zb {v1 : Int32} {v2 : Int32} {h : gH} {x : (Int32 × gH)} (hz : ZB h) (H : fM_isAlone v1 v2 h = some x) : ZB x.2 := by
  unfold fM_isAlone at H
  exact fM_isAlone_2_zb  gfu _ _ _  hz H
theorem fM_queues_2_zb {v1 : Int32} {v2 : Int32}  : ∀ (n : Nat) (v3 : Int32) (h : gH) (x : gH), ZB h → fM_queues_2 v1 v2 n v3 h = some x → ZB x := by
  intro n
  induction n with
  | zero => intro v3 h x  hz H; exact g0 H
  | succ n ih =>
    intro v3 h x  hz H
    unfold fM_queues_2 at H
    obtain ⟨p1, e2, H⟩ := gbi H
    replace hz := fM_allRules_zb  hz e2
    by_cases q : v3 < p1.1
    · replace H := gift q H
      by_cases q : (p1.2 65 2) = (0 : Int32)
      · replace H := gift q H
        obtain ⟨p3, e4, H⟩ := gbi H
        replace hz := fM_ruleAt_zb  hz e4
        by_cases q : p3.1 = v2
        · replace H := gift q H
          exact ih _ _ _  hz H
        · replace H := giff q H
          obtain ⟨b5, H⟩ := ggi H
          have b5 := gin_in b5
          by_cases q : ((p3.2 68 p3.1.toNatClampNeg) &&& v1) = (0 : Int32)
          · replace H := gift q H
            exact ih _ _ _  hz H
          · replace H := giff q H
            obtain ⟨b6, H⟩ := ggi H
            have b6 := gin_in b6
            obtain ⟨h7, e8, H⟩ := glei H
            replace hz := zb_e (zb_z hz (Or.inr rfl)) e8
            exact ih _ _ _  hz H
      · replace H := giff q H
        obtain rfl := Option.some.inj H
        exact hz
    · replace H := giff q H
      obtain rfl := Option.some.inj H
      exact hz
theorem fM_queues_zb {v1 : Int32} {v2 : Int32} {h : gH} {x : gH} (hz : ZB h) (H : fM_queues v1 v2 h = some x) : ZB x := by
  unfold fM_queues at H
  exact fM_queues_2_zb  gfu _ _ _  hz H
theorem fM_prunes_231_zb {v1 : Int32}  {h : gH} {x : gH} (hz : ZB h) (H : fM_prunes_231 v1  h = some x) : ZB x := by
  unfold fM_prunes_231 at H
  obtain ⟨h9, e10, H⟩ := gbi H
  replace hz := fM_queues_zb  hz e10
  obtain rfl := Option.some.inj H
  exact hz
theorem fM_prunes_201_zb {v1 : Int32} {v4 : Int32} {v5 : Int32}  {h : gH} {x : gH} (hz : ZB h) (H : fM_prunes_201 v1 v4 v5  h = some x) : ZB x := by
  unfold fM_prunes_201 at H
  by_cases q : (2 : Int32) < v5
  · replace H := gift q H
    by_cases q : (h 65 2) = (0 : Int32)
    · replace H := gift q H
      obtain ⟨b11, H⟩ := ggi H
      have b11 := gin_in b11
      obtain ⟨p12, e13, H⟩ := gbi H
      replace hz := fM_variable_zb  hz e13
      obtain ⟨h14, e15, H⟩ := gbi H
      replace hz := fM_keeps_zb  hz e15
      exact fM_prunes_231_zb  hz H
    · replace H := giff q H
      exact fM_prunes_231_zb  hz H
  · replace H := giff q H
    exact fM_prunes_231_zb  hz H
theorem fM_prunes_172_zb {v1 : Int32} {v3 : Int32} {v4 : Int32} {v5 : Int32}  {h : gH} {x : gH} (hz : ZB h) (H : fM_prunes_172 v1 v3 v4 v5  h = some x) : ZB x := by
  unfold fM_prunes_172 at H
  by_cases q : (1 : Int32) < v5
  · replace H := gift q H
    by_cases q : (h 65 2) = (0 : Int32)
    · replace H := gift q H
      obtain ⟨b16, H⟩ := ggi H
      have b16 := gin_in b16
      obtain ⟨p17, e18, H⟩ := gbi H
      replace hz := fM_variable_zb  hz e18
      obtain ⟨h19, e20, H⟩ := gbi H
      replace hz := fM_keeps_zb  hz e20
      exact fM_prunes_201_zb  hz H
    · replace H := giff q H
      exact fM_prunes_201_zb  hz H
  · replace H := giff q H
    exact fM_prunes_201_zb  hz H
theorem fM_prunes_66_zb {v1 : Int32} {v2 : Int32}  : ∀ (n : Nat) (v3 : Int32) (h : gH) (x : gH), ZB h → fM_prunes_66 v1 v2 n v3 h = some x → ZB x := by
  intro n
  induction n with
  | zero => intro v3 h x  hz H; exact g0 H
  | succ n ih =>
    intro v3 h x  hz H
    unfold fM_prunes_66 at H
    by_cases q : v3 < (8 : Int32)
    · replace H := gift q H
      by_cases q : (h 65 2) = (0 : Int32)
      · replace H := gift q H
        by_cases q : ((v2 >>> (v3 &&& 31)) &&& (1 : Int32)) = (1 : Int32)
        · replace H := gift q H
          obtain ⟨p26, e27, H⟩ := gbi H
          replace hz := fM_pairOf_zb  hz e27
          obtain ⟨h28, e29, H⟩ := gbi H
          replace hz := fM_keeps_zb  hz e29
          exact ih _ _ _  hz H
        · replace H := giff q H
          exact ih _ _ _  hz H
      · replace H := giff q H
        exact fM_prunes_231_zb  hz H
    · replace H := giff q H
      exact fM_prunes_231_zb  hz H
theorem fM_prunes_54_zb {k19 : Int32 → Int32 → gH → Option gH} {v1 : Int32} {v3 : Int32} {s0 : Int32} {s1 : Int32} (hk19z : ∀ (u2 : Int32) (u3 : Int32) (h : gH) (x : gH), ZB h → k19 u2 u3 h = some x → ZB x) {h : gH} {x : gH} (hz : ZB h) (H : fM_prunes_54 k19 v1 v3 s0 s1 h = some x) : ZB x := by
  unfold fM_prunes_54 at H
  exact hk19z _ _ _ _  hz H
theorem fM_prunes_53_zb {k19 : Int32 → Int32 → gH → Option gH} {v1 : Int32} {v3 : Int32} {s0 : Int32} (hk19z : ∀ (u2 : Int32) (u3 : Int32) (h : gH) (x : gH), ZB h → k19 u2 u3 h = some x → ZB x) {h : gH} {x : gH} (hz : ZB h) (H : fM_prunes_53 k19 v1 v3 s0 h = some x) : ZB x := by
  unfold fM_prunes_53 at H
  exact fM_prunes_54_zb hk19z  hz H
theorem fM_prunes_19_zb {v1 : Int32}  : ∀ (n : Nat) (v2 : Int32) (v3 : Int32) (h : gH) (x : gH), ZB h → fM_prunes_19 v1 n v2 v3 h = some x → ZB x := by
  intro n
  induction n with
  | zero => intro v2 v3 h x  hz H; exact g0 H
  | succ n ih =>
    intro v2 v3 h x  hz H
    unfold fM_prunes_19 at H
    by_cases q : v3 < (8 : Int32)
    · replace H := gift q H
      obtain ⟨b30, H⟩ := ggi H
      have b30 := gin_in b30
      by_cases q : (((h 68 v1.toNatClampNeg) >>> (v3 &&& 31)) &&& (1 : Int32)) = (1 : Int32)
      · replace H := gift q H
        obtain ⟨p31, e32, H⟩ := gbi H
        replace hz := fM_isAlone_zb  hz e32
        by_cases q : p31.1 = (0 : Int32)
        · replace H := gift q H
          exact fM_prunes_53_zb ih  hz H
        · replace H := giff q H
          exact fM_prunes_54_zb ih  hz H
      · replace H := giff q H
        exact fM_prunes_53_zb ih  hz H
    · replace H := giff q H
      exact fM_prunes_66_zb  gfu _ _ _  hz H
theorem fM_prunes_zb {v1 : Int32} {h : gH} {x : gH} (hz : ZB h) (H : fM_prunes v1 h = some x) : ZB x := by
  unfold fM_prunes at H
  obtain ⟨h1, e2, H⟩ := glei H
  replace hz := zb_e (zb_f hz (by decide)) e2
  obtain ⟨b3, H⟩ := ggi H
  have b3 := gin_in b3
  by_cases q : (h1 67 v1.toNatClampNeg) = (3 : Int32)
  · replace H := gift q H
    exact fM_prunes_19_zb  gfu _ _ _ _  hz H
  · replace H := giff q H
    obtain ⟨h4, e5, H⟩ := gbi H
    replace hz := fM_goesThrough_zb  hz e5
    obtain ⟨b6, H⟩ := ggi H
    have b6 := gin_in b6
    obtain ⟨p7, e8, H⟩ := gbi H
    replace hz := fM_bitsOf_zb  hz e8
    by_cases q : (0 : Int32) < p7.1
    · replace H := gift q H
      obtain ⟨b21, H⟩ := ggi H
      have b21 := gin_in b21
      obtain ⟨p22, e23, H⟩ := gbi H
      replace hz := fM_variable_zb  hz e23
      obtain ⟨h24, e25, H⟩ := gbi H
      replace hz := fM_keeps_zb  hz e25
      exact fM_prunes_172_zb  hz H
    · replace H := giff q H
      exact fM_prunes_172_zb  hz H
theorem fM_nextRule_45_zb {k4 : Int32 → Int32 → gH → Option (Int32 × gH)} {v2 : Int32} {v3 : Int32} (hk4z : ∀ (u1 : Int32) (u2 : Int32) (h : gH) (x : (Int32 × gH)), ZB h → k4 u1 u2 h = some x → ZB x.2) {h : gH} {x : (Int32 × gH)} (hz : ZB h) (H : fM_nextRule_45 k4 v2 v3  h = some x) : ZB x.2 := by
  unfold fM_nextRule_45 at H
  exact hk4z _ _ _ _  hz H
theorem fM_nextRule_4_zb  : ∀ (n : Nat) (v1 : Int32) (v2 : Int32) (h : gH) (x : (Int32 × gH)), ZB h → fM_nextRule_4  n v1 v2 h = some x → ZB x.2 := by
  intro n
  induction n with
  | zero => intro v1 v2 h x  hz H; exact g0 H
  | succ n ih =>
    intro v1 v2 h x  hz H
    unfold fM_nextRule_4 at H
    obtain ⟨p1, e2, H⟩ := gbi H
    replace hz := fM_allRules_zb  hz e2
    by_cases q : v2 < p1.1
    · replace H := gift q H
      obtain ⟨p3, e4, H⟩ := gbi H
      replace hz := fM_ruleAt_zb  hz e4
      obtain ⟨b5, H⟩ := ggi H
      have b5 := gin_in b5
      by_cases q : (p3.2 71 p3.1.toNatClampNeg) = (0 : Int32)
      · replace H := gift q H
        exact ih _ _ _ _  hz H
      · replace H := giff q H
        by_cases q : v1 = (-1 : Int32)
        · replace H := gift q H
          exact fM_nextRule_45_zb ih  hz H
        · replace H := giff q H
          obtain ⟨p6, e7, H⟩ := gbi H
          replace hz := fM_priority_zb  hz e7
          obtain ⟨p8, e9, H⟩ := gbi H
          replace hz := fM_priority_zb  hz e9
          by_cases q : p6.1 < p8.1
          · replace H := gift q H
            exact fM_nextRule_45_zb ih  hz H
          · replace H := giff q H
            exact ih _ _ _ _  hz H
    · replace H := giff q H
      obtain rfl := Option.some.inj H
      exact hz
theorem fM_nextRule_zb {h : gH} {x : (Int32 × gH)} (hz : ZB h) (H : fM_nextRule  h = some x) : ZB x.2 := by
  unfold fM_nextRule at H
  exact fM_nextRule_4_zb  gfu _ _ _ _  hz H
theorem fM_step_zb {h : gH} {x : (Int32 × gH)} (hz : ZB h) (H : fM_step  h = some x) : ZB x.2 := by
  unfold fM_step at H
  obtain ⟨p1, e2, H⟩ := gbi H
  replace hz := fM_nextRule_zb  hz e2
  by_cases q : p1.1 = (-1 : Int32)
  · replace H := gift q H
    obtain rfl := Option.some.inj H
    exact hz
  · replace H := giff q H
    obtain ⟨b3, H⟩ := ggi H
    have b3 := gin_in b3
    obtain ⟨h4, e5, H⟩ := glei H
    replace hz := zb_e (zb_z hz (Or.inl rfl)) e5
    obtain ⟨h6, e7, H⟩ := glei H
    replace hz := zb_e (zb_f hz (by decide)) e7
    obtain ⟨h8, e9, H⟩ := gbi H
    replace hz := fM_prunes_zb  hz e9
    obtain rfl := Option.some.inj H
    exact hz
theorem fM_run_2_zb  : ∀ (n : Nat) (v1 : Int32) (h : gH) (x : (Int32 × gH)), ZB h → fM_run_2  n v1 h = some x → ZB x.2 := by
  intro n
  induction n with
  | zero => intro v1 h x  hz H; exact g0 H
  | succ n ih =>
    intro v1 h x  hz H
    unfold fM_run_2 at H
    obtain ⟨p1, e2, H⟩ := gbi H
    replace hz := fM_step_zb  hz e2
    by_cases q : p1.1 = (-1 : Int32)
    · replace H := gift q H
      obtain rfl := Option.some.inj H
      exact hz
    · replace H := giff q H
      exact ih _ _ _  hz H
theorem fM_run_zb {h : gH} {x : (Int32 × gH)} (hz : ZB h) (H : fM_run  h = some x) : ZB x.2 := by
  unfold fM_run at H
  exact fM_run_2_zb  gfu _ _ _  hz H
theorem fM_decides_zb {v1 : Int32} {v2 : Int32} {v3 : Int32} {h : gH} {x : gH} (hz : ZB h) (H : fM_decides v1 v2 v3 h = some x) : ZB x := by
  unfold fM_decides at H
  obtain ⟨h1, e2, H⟩ := glei H
  replace hz := zb_e (zb_f hz (by decide)) e2
  obtain ⟨h3, e4, H⟩ := gbi H
  replace hz := fM_keeps_zb  hz e4
  obtain ⟨h5, e6, H⟩ := gbi H
  replace hz := fM_queues_zb  hz e6
  obtain rfl := Option.some.inj H
  exact hz
theorem fM_tell_zb {v1 : Int32} {v2 : Int32} {h : gH} {x : (Int32 × gH)} (hz : ZB h) (H : fM_tell v1 v2 h = some x) : ZB x.2 := by
  unfold fM_tell at H
  obtain ⟨p1, e2, H⟩ := gbi H
  replace hz := fM_in_zb  hz e2
  by_cases q : p1.1 = (0 : Int32)
  · replace H := gift q H
    obtain rfl := Option.some.inj H
    exact hz
  · replace H := giff q H
    obtain ⟨p3, e4, H⟩ := gbi H
    replace hz := fM_in_zb  hz e4
    by_cases q : p3.1 = (0 : Int32)
    · replace H := gift q H
      obtain rfl := Option.some.inj H
      exact hz
    · replace H := giff q H
      by_cases q : (p3.2 65 2) = (0 : Int32)
      · replace H := gift q H
        by_cases q : (p3.2 65 12) = (12 : Int32)
        · replace H := gift q H
          obtain rfl := Option.some.inj H
          exact hz
        · replace H := giff q H
          obtain ⟨b5, H⟩ := ggi H
          have b5 := gin_in b5
          obtain ⟨h6, e7, H⟩ := glei H
          replace hz := zb_e (zb_o hz (by decide)) e7
          obtain ⟨b8, H⟩ := ggi H
          have b8 := gin_in b8
          obtain ⟨h9, e10, H⟩ := glei H
          replace hz := zb_e (zb_o hz (by decide)) e10
          obtain ⟨h11, e12, H⟩ := glei H
          replace hz := zb_e (zb_f hz (by decide)) e12
          obtain ⟨h13, e14, H⟩ := gbi H
          replace hz := fM_decides_zb  hz e14
          obtain rfl := Option.some.inj H
          exact hz
      · replace H := giff q H
        obtain rfl := Option.some.inj H
        exact hz
theorem fM_queued_27_zb {k4 : Int32 → Int32 → gH → Option (Int32 × gH)} {v2 : Int32} {s0 : Int32} {s1 : Int32} (hk4z : ∀ (u1 : Int32) (u2 : Int32) (h : gH) (x : (Int32 × gH)), ZB h → k4 u1 u2 h = some x → ZB x.2) {h : gH} {x : (Int32 × gH)} (hz : ZB h) (H : fM_queued_27 k4 v2 s0 s1 h = some x) : ZB x.2 := by
  unfold fM_queued_27 at H
  exact hk4z _ _ _ _  hz H
theorem fM_queued_4_zb  : ∀ (n : Nat) (v1 : Int32) (v2 : Int32) (h : gH) (x : (Int32 × gH)), ZB h → fM_queued_4  n v1 v2 h = some x → ZB x.2 := by
  intro n
  induction n with
  | zero => intro v1 v2 h x  hz H; exact g0 H
  | succ n ih =>
    intro v1 v2 h x  hz H
    unfold fM_queued_4 at H
    by_cases q : v2 < (h 65 8)
    · replace H := gift q H
      obtain ⟨b1, H⟩ := ggi H
      have b1 := gin_in b1
      by_cases q : (h 71 v2.toNatClampNeg) = (0 : Int32)
      · replace H := gift q H
        exact fM_queued_27_zb ih  hz H
      · replace H := giff q H
        exact fM_queued_27_zb ih  hz H
    · replace H := giff q H
      obtain rfl := Option.some.inj H
      exact hz
theorem fM_queued_zb {h : gH} {x : (Int32 × gH)} (hz : ZB h) (H : fM_queued  h = some x) : ZB x.2 := by
  unfold fM_queued at H
  exact fM_queued_4_zb  gfu _ _ _ _  hz H
theorem fM_level_zb {h : gH} {x : (Int32 × gH)} (hz : ZB h) (H : fM_level  h = some x) : ZB x.2 := by
  unfold fM_level at H
  by_cases q : (h 65 2) = (0 : Int32)
  · replace H := gift q H
    obtain ⟨p1, e2, H⟩ := gbi H
    replace hz := fM_queued_zb  hz e2
    by_cases q : (0 : Int32) < p1.1
    · replace H := gift q H
      obtain rfl := Option.some.inj H
      exact hz
    · replace H := giff q H
      by_cases q : (p1.2 65 19) = (8 : Int32)
      · replace H := gift q H
        obtain rfl := Option.some.inj H
        exact hz
      · replace H := giff q H
        obtain ⟨b3, H⟩ := ggi H
        have b3 := gin_in b3
        obtain ⟨h4, e5, H⟩ := glei H
        replace hz := zb_e (zb_o hz (by decide)) e5
        obtain ⟨b6, H⟩ := ggi H
        have b6 := gin_in b6
        obtain ⟨h7, e8, H⟩ := glei H
        replace hz := zb_e (zb_o hz (by decide)) e8
        obtain ⟨b9, H⟩ := ggi H
        have b9 := gin_in b9
        obtain ⟨h10, e11, H⟩ := glei H
        replace hz := zb_e (zb_o hz (by decide)) e11
        obtain ⟨h12, e13, H⟩ := glei H
        replace hz := zb_e (zb_f hz (by decide)) e13
        obtain rfl := Option.some.inj H
        exact hz
  · replace H := giff q H
    obtain rfl := Option.some.inj H
    exact hz
theorem fM_undo_149_zb {k118 : Int32 → gH → Option (Int32 × gH)} {v1 : Int32} {v2 : Int32} {s1 : Int32} {s2 : Int32} (hk118z : ∀ (u2 : Int32) (h : gH) (x : (Int32 × gH)), ZB h → k118 u2 h = some x → ZB x.2) {h : gH} {x : (Int32 × gH)} (hz : ZB h) (H : fM_undo_149 k118 v1 v2 s1 s2 h = some x) : ZB x.2 := by
  unfold fM_undo_149 at H
  obtain ⟨b11, H⟩ := ggi H
  have b11 := gin_in b11
  obtain ⟨b12, H⟩ := ggi H
  have b12 := gbo_or b12
  obtain ⟨h13, e14, H⟩ := glei H
  replace hz := zb_e (zb_z hz b12) e14
  exact hk118z _ _ _  hz H
theorem fM_undo_118_zb {v1 : Int32}  : ∀ (n : Nat) (v2 : Int32) (h : gH) (x : (Int32 × gH)), ZB h → fM_undo_118 v1 n v2 h = some x → ZB x.2 := by
  intro n
  induction n with
  | zero => intro v2 h x  hz H; exact g0 H
  | succ n ih =>
    intro v2 h x  hz H
    unfold fM_undo_118 at H
    by_cases q : v2 < (h 65 8)
    · replace H := gift q H
      obtain ⟨b10, H⟩ := ggi H
      have b10 := gin_in b10
      by_cases q : v2 < (h 78 (h 65 19).toNatClampNeg)
      · replace H := gift q H
        exact fM_undo_149_zb ih  hz H
      · replace H := giff q H
        exact fM_undo_149_zb ih  hz H
    · replace H := giff q H
      obtain rfl := Option.some.inj H
      exact hz
theorem fM_undo_35_zb {v1 : Int32}  : ∀ (n : Nat) (h : gH) (x : (Int32 × gH)), ZB h → fM_undo_35 v1 n  h = some x → ZB x.2 := by
  intro n
  induction n with
  | zero => intro  h x  hz H; exact g0 H
  | succ n ih =>
    intro  h x  hz H
    unfold fM_undo_35 at H
    obtain ⟨b4, H⟩ := ggi H
    have b4 := gin_in b4
    by_cases q : (h 76 (h 65 19).toNatClampNeg) < (h 65 15)
    · replace H := gift q H
      obtain ⟨h15, e16, H⟩ := glei H
      replace hz := zb_e (zb_f hz (by decide)) e16
      obtain ⟨b17, H⟩ := ggi H
      have b17 := gin_in b17
      obtain ⟨b18, H⟩ := ggi H
      have b18 := gin_in b18
      obtain ⟨b19, H⟩ := ggi H
      have b19 := gin_in b19
      obtain ⟨b20, H⟩ := ggi H
      have b20 := gin_in b20
      exact ih  _ _  (zb_o hz (by decide)) H
    · replace H := giff q H
      obtain ⟨b5, H⟩ := ggi H
      have b5 := gin_in b5
      obtain ⟨h6, e7, H⟩ := glei H
      replace hz := zb_e (zb_f hz (by decide)) e7
      obtain ⟨h8, e9, H⟩ := glei H
      replace hz := zb_e (zb_z hz (Or.inl rfl)) e9
      exact fM_undo_118_zb  gfu _ _ _  hz H
theorem fM_undo_zb {h : gH} {x : (Int32 × gH)} (hz : ZB h) (H : fM_undo  h = some x) : ZB x.2 := by
  unfold fM_undo at H
  by_cases q : (h 65 19) = (0 : Int32)
  · replace H := gift q H
    obtain rfl := Option.some.inj H
    exact hz
  · replace H := giff q H
    obtain ⟨h1, e2, H⟩ := glei H
    replace hz := zb_e (zb_f hz (by decide)) e2
    obtain ⟨b3, H⟩ := ggi H
    have b3 := gin_in b3
    exact fM_undo_35_zb  gfu  _ _  hz H
theorem fM_domain_zb {v1 : Int32} {h : gH} {x : (Int32 × gH)} (hz : ZB h) (H : fM_domain v1 h = some x) : ZB x.2 := by
  unfold fM_domain at H
  obtain ⟨p1, e2, H⟩ := gbi H
  replace hz := fM_in_zb  hz e2
  by_cases q : p1.1 = (0 : Int32)
  · replace H := gift q H
    obtain rfl := Option.some.inj H
    exact hz
  · replace H := giff q H
    obtain ⟨b3, H⟩ := ggi H
    have b3 := gin_in b3
    obtain rfl := Option.some.inj H
    exact hz
theorem fM_trail_16_zb {v2 : Int32}  : ∀ (n : Nat) (v3 : Int32) (h : gH) (x : (Int32 × gH)), ZB h → fM_trail_16 v2 n v3 h = some x → ZB x.2 := by
  intro n
  induction n with
  | zero => intro v3 h x  hz H; exact g0 H
  | succ n ih =>
    intro v3 h x  hz H
    unfold fM_trail_16 at H
    by_cases q : v3 < (h 65 15)
    · replace H := gift q H
      obtain ⟨b9, H⟩ := ggi H
      have b9 := gin_in b9
      by_cases q : (h 74 v3.toNatClampNeg) = (v2 - (1000 : Int32))
      · replace H := gift q H
        obtain rfl := Option.some.inj H
        exact hz
      · replace H := giff q H
        exact ih _ _ _  hz H
    · replace H := giff q H
      obtain rfl := Option.some.inj H
      exact hz
theorem fM_trail_zb {v1 : Int32} {v2 : Int32} {h : gH} {x : (Int32 × gH)} (hz : ZB h) (H : fM_trail v1 v2 h = some x) : ZB x.2 := by
  unfold fM_trail at H
  obtain ⟨p1, e2, H⟩ := gbi H
  replace hz := fM_in_zb  hz e2
  by_cases q : p1.1 = (0 : Int32)
  · replace H := gift q H
    obtain ⟨p3, e4, H⟩ := gbi H
    replace hz := fM_in_zb  hz e4
    by_cases q : p3.1 = (0 : Int32)
    · replace H := gift q H
      obtain rfl := Option.some.inj H
      exact hz
    · replace H := giff q H
      obtain ⟨p5, e6, H⟩ := gbi H
      replace hz := fM_in_zb  hz e6
      by_cases q : p5.1 = (0 : Int32)
      · replace H := gift q H
        obtain rfl := Option.some.inj H
        exact hz
      · replace H := giff q H
        by_cases q : v2 = (0 : Int32)
        · replace H := gift q H
          obtain ⟨b8, H⟩ := ggi H
          have b8 := gin_in b8
          obtain rfl := Option.some.inj H
          exact hz
        · replace H := giff q H
          obtain ⟨b7, H⟩ := ggi H
          have b7 := gin_in b7
          obtain rfl := Option.some.inj H
          exact hz
  · replace H := giff q H
    exact fM_trail_16_zb  gfu _ _ _  hz H
theorem fM_decision_zb {v1 : Int32} {v2 : Int32} {h : gH} {x : (Int32 × gH)} (hz : ZB h) (H : fM_decision v1 v2 h = some x) : ZB x.2 := by
  unfold fM_decision at H
  obtain ⟨p1, e2, H⟩ := gbi H
  replace hz := fM_in_zb  hz e2
  by_cases q : p1.1 = (0 : Int32)
  · replace H := gift q H
    obtain rfl := Option.some.inj H
    exact hz
  · replace H := giff q H
    obtain ⟨p3, e4, H⟩ := gbi H
    replace hz := fM_in_zb  hz e4
    by_cases q : p3.1 = (0 : Int32)
    · replace H := gift q H
      obtain rfl := Option.some.inj H
      exact hz
    · replace H := giff q H
      by_cases q : v2 = (0 : Int32)
      · replace H := gift q H
        obtain ⟨b6, H⟩ := ggi H
        have b6 := gin_in b6
        obtain rfl := Option.some.inj H
        exact hz
      · replace H := giff q H
        obtain ⟨b5, H⟩ := ggi H
        have b5 := gin_in b5
        obtain rfl := Option.some.inj H
        exact hz
theorem fM_laysAside_28_zb  : ∀ (n : Nat) (v1 : Int32) (h : gH) (x : gH), ZB h → fM_laysAside_28  n v1 h = some x → ZB x := by
  intro n
  induction n with
  | zero => intro v1 h x  hz H; exact g0 H
  | succ n ih =>
    intro v1 h x  hz H
    unfold fM_laysAside_28 at H
    by_cases q : v1 < (24 : Int32)
    · replace H := gift q H
      obtain ⟨b6, H⟩ := ggi H
      have b6 := gin_in b6
      obtain ⟨b7, H⟩ := ggi H
      have b7 := gin_in b7
      obtain ⟨b8, H⟩ := ggi H
      have b8 := gbo_or b8
      obtain ⟨h9, e10, H⟩ := glei H
      replace hz := zb_e (zb_z hz b8) e10
      exact ih _ _ _  hz H
    · replace H := giff q H
      obtain ⟨b1, H⟩ := ggi H
      have b1 := gbo_or b1
      obtain ⟨h2, e3, H⟩ := glei H
      replace hz := zb_e (zb_z hz b1) e3
      obtain ⟨h4, e5, H⟩ := glei H
      replace hz := zb_e (zb_f hz (by decide)) e5
      obtain rfl := Option.some.inj H
      exact (zb_z hz (Or.inr rfl))
theorem fM_laysAside_2_zb  : ∀ (n : Nat) (v1 : Int32) (h : gH) (x : gH), ZB h → fM_laysAside_2  n v1 h = some x → ZB x := by
  intro n
  induction n with
  | zero => intro v1 h x  hz H; exact g0 H
  | succ n ih =>
    intro v1 h x  hz H
    unfold fM_laysAside_2 at H
    by_cases q : v1 < (8 : Int32)
    · replace H := gift q H
      obtain ⟨b11, H⟩ := ggi H
      have b11 := gin_in b11
      obtain ⟨b12, H⟩ := ggi H
      have b12 := gin_in b12
      obtain ⟨h13, e14, H⟩ := glei H
      replace hz := zb_e (zb_o hz (by decide)) e14
      exact ih _ _ _  hz H
    · replace H := giff q H
      exact fM_laysAside_28_zb  gfu _ _ _  hz H
theorem fM_laysAside_zb {h : gH} {x : gH} (hz : ZB h) (H : fM_laysAside  h = some x) : ZB x := by
  unfold fM_laysAside at H
  exact fM_laysAside_2_zb  gfu _ _ _  hz H
theorem fM_laysBack_28_zb  : ∀ (n : Nat) (v1 : Int32) (h : gH) (x : gH), ZB h → fM_laysBack_28  n v1 h = some x → ZB x := by
  intro n
  induction n with
  | zero => intro v1 h x  hz H; exact g0 H
  | succ n ih =>
    intro v1 h x  hz H
    unfold fM_laysBack_28 at H
    by_cases q : v1 < (24 : Int32)
    · replace H := gift q H
      obtain ⟨b6, H⟩ := ggi H
      have b6 := gin_in b6
      obtain ⟨b7, H⟩ := ggi H
      have b7 := gin_in b7
      obtain ⟨b8, H⟩ := ggi H
      have b8 := gbo_or b8
      obtain ⟨h9, e10, H⟩ := glei H
      replace hz := zb_e (zb_z hz b8) e10
      exact ih _ _ _  hz H
    · replace H := giff q H
      obtain ⟨b1, H⟩ := ggi H
      have b1 := gbo_or b1
      obtain ⟨h2, e3, H⟩ := glei H
      replace hz := zb_e (zb_z hz b1) e3
      obtain ⟨h4, e5, H⟩ := glei H
      replace hz := zb_e (zb_f hz (by decide)) e5
      obtain rfl := Option.some.inj H
      exact (zb_z hz (Or.inl rfl))
theorem fM_laysBack_2_zb  : ∀ (n : Nat) (v1 : Int32) (h : gH) (x : gH), ZB h → fM_laysBack_2  n v1 h = some x → ZB x := by
  intro n
  induction n with
  | zero => intro v1 h x  hz H; exact g0 H
  | succ n ih =>
    intro v1 h x  hz H
    unfold fM_laysBack_2 at H
    by_cases q : v1 < (8 : Int32)
    · replace H := gift q H
      obtain ⟨b11, H⟩ := ggi H
      have b11 := gin_in b11
      obtain ⟨b12, H⟩ := ggi H
      have b12 := gin_in b12
      obtain ⟨h13, e14, H⟩ := glei H
      replace hz := zb_e (zb_o hz (by decide)) e14
      exact ih _ _ _  hz H
    · replace H := giff q H
      exact fM_laysBack_28_zb  gfu _ _ _  hz H
theorem fM_laysBack_zb {h : gH} {x : gH} (hz : ZB h) (H : fM_laysBack  h = some x) : ZB x := by
  unfold fM_laysBack at H
  exact fM_laysBack_2_zb  gfu _ _ _  hz H
theorem fM_starts_255_zb {k223 : Int32 → gH → Option gH} {v3 : Int32} {v4 : Int32} (hk223z : ∀ (u5 : Int32) (h : gH) (x : gH), ZB h → k223 u5 h = some x → ZB x) {h : gH} {x : gH} (hz : ZB h) (H : fM_starts_255 k223 v3 v4  h = some x) : ZB x := by
  unfold fM_starts_255 at H
  obtain ⟨p12, e13, H⟩ := gbi H
  replace hz := fM_nextRule_zb  hz e13
  exact hk223z _ _ _  hz H
theorem fM_starts_223_zb {v3 : Int32} {v4 : Int32}  : ∀ (n : Nat) (v5 : Int32) (h : gH) (x : gH), ZB h → fM_starts_223 v3 v4 n v5 h = some x → ZB x := by
  intro n
  induction n with
  | zero => intro v5 h x  hz H; exact g0 H
  | succ n ih =>
    intro v5 h x  hz H
    unfold fM_starts_223 at H
    by_cases q : v5 = (-1 : Int32)
    · replace H := gift q H
      obtain rfl := Option.some.inj H
      exact (zb_f hz (by decide))
    · replace H := giff q H
      obtain ⟨b7, H⟩ := ggi H
      have b7 := gin_in b7
      obtain ⟨h8, e9, H⟩ := glei H
      replace hz := zb_e (zb_z hz (Or.inl rfl)) e9
      obtain ⟨h10, e11, H⟩ := gbi H
      replace hz := fM_prunes_zb  hz e11
      by_cases q : v3 = (-1 : Int32)
      · replace H := gift q H
        exact fM_starts_255_zb ih  hz H
      · replace H := giff q H
        obtain ⟨b14, H⟩ := ggi H
        have b14 := gin_in b14
        exact fM_starts_255_zb ih  (zb_z hz (Or.inl rfl)) H
theorem fM_starts_199_zb {k166 : Int32 → gH → Option gH} {v3 : Int32} {v4 : Int32} {s1 : Int32} {s2 : Int32} (hk166z : ∀ (u4 : Int32) (h : gH) (x : gH), ZB h → k166 u4 h = some x → ZB x) {h : gH} {x : gH} (hz : ZB h) (H : fM_starts_199 k166 v3 v4 s1 s2 h = some x) : ZB x := by
  unfold fM_starts_199 at H
  obtain ⟨b15, H⟩ := ggi H
  have b15 := gin_in b15
  obtain ⟨b16, H⟩ := ggi H
  have b16 := gbo_or b16
  obtain ⟨h17, e18, H⟩ := glei H
  replace hz := zb_e (zb_z hz b16) e18
  exact hk166z _ _ _  hz H
theorem fM_starts_198_zb {k166 : Int32 → gH → Option gH} {v3 : Int32} {v4 : Int32} {s1 : Int32} (hk166z : ∀ (u4 : Int32) (h : gH) (x : gH), ZB h → k166 u4 h = some x → ZB x) {h : gH} {x : gH} (hz : ZB h) (H : fM_starts_198 k166 v3 v4 s1 h = some x) : ZB x := by
  unfold fM_starts_198 at H
  exact fM_starts_199_zb hk166z  hz H
theorem fM_starts_166_zb {v3 : Int32}  : ∀ (n : Nat) (v4 : Int32) (h : gH) (x : gH), ZB h → fM_starts_166 v3 n v4 h = some x → ZB x := by
  intro n
  induction n with
  | zero => intro v4 h x  hz H; exact g0 H
  | succ n ih =>
    intro v4 h x  hz H
    unfold fM_starts_166 at H
    by_cases q : v4 < (h 65 8)
    · replace H := gift q H
      by_cases q : v4 = v3
      · replace H := gift q H
        exact fM_starts_198_zb ih  hz H
      · replace H := giff q H
        by_cases q : (h 65 2) = (0 : Int32)
        · replace H := gift q H
          exact fM_starts_199_zb ih  hz H
        · replace H := giff q H
          exact fM_starts_198_zb ih  hz H
    · replace H := giff q H
      obtain ⟨h3, e4, H⟩ := glei H
      replace hz := zb_e (zb_f hz (by decide)) e4
      obtain ⟨p5, e6, H⟩ := gbi H
      replace hz := fM_nextRule_zb  hz e6
      exact fM_starts_223_zb  gfu _ _ _  hz H
theorem fM_starts_163_zb {v3 : Int32}  {h : gH} {x : gH} (hz : ZB h) (H : fM_starts_163 v3  h = some x) : ZB x := by
  unfold fM_starts_163 at H
  exact fM_starts_166_zb  gfu _ _ _  hz H
theorem fM_starts_112_zb {v2 : Int32} {v3 : Int32}  : ∀ (n : Nat) (v4 : Int32) (h : gH) (x : gH), ZB h → fM_starts_112 v2 v3 n v4 h = some x → ZB x := by
  intro n
  induction n with
  | zero => intro v4 h x  hz H; exact g0 H
  | succ n ih =>
    intro v4 h x  hz H
    unfold fM_starts_112 at H
    by_cases q : v4 < (16 : Int32)
    · replace H := gift q H
      by_cases q : (h 65 2) = (0 : Int32)
      · replace H := gift q H
        by_cases q : ((v2 >>> (v4 &&& 31)) &&& (1 : Int32)) = (1 : Int32)
        · replace H := gift q H
          obtain ⟨b19, H⟩ := ggi H
          have b19 := gin_in b19
          obtain ⟨b20, H⟩ := ggi H
          have b20 := gin_in b20
          obtain ⟨h21, e22, H⟩ := gbi H
          replace hz := fM_decides_zb  hz e22
          exact ih _ _ _  hz H
        · replace H := giff q H
          exact ih _ _ _  hz H
      · replace H := giff q H
        exact fM_starts_163_zb  hz H
    · replace H := giff q H
      exact fM_starts_163_zb  hz H
theorem fM_starts_109_zb {v2 : Int32} {v3 : Int32}  {h : gH} {x : gH} (hz : ZB h) (H : fM_starts_109 v2 v3  h = some x) : ZB x := by
  unfold fM_starts_109 at H
  exact fM_starts_112_zb  gfu _ _ _  hz H
theorem fM_starts_58_zb {v1 : Int32} {v2 : Int32} {v3 : Int32}  : ∀ (n : Nat) (v4 : Int32) (h : gH) (x : gH), ZB h → fM_starts_58 v1 v2 v3 n v4 h = some x → ZB x := by
  intro n
  induction n with
  | zero => intro v4 h x  hz H; exact g0 H
  | succ n ih =>
    intro v4 h x  hz H
    unfold fM_starts_58 at H
    by_cases q : v4 < (h 65 12)
    · replace H := gift q H
      by_cases q : (h 65 2) = (0 : Int32)
      · replace H := gift q H
        by_cases q : ((v1 >>> (v4 &&& 31)) &&& (1 : Int32)) = (1 : Int32)
        · replace H := gift q H
          obtain ⟨b23, H⟩ := ggi H
          have b23 := gin_in b23
          obtain ⟨b24, H⟩ := ggi H
          have b24 := gin_in b24
          obtain ⟨h25, e26, H⟩ := gbi H
          replace hz := fM_decides_zb  hz e26
          exact ih _ _ _  hz H
        · replace H := giff q H
          exact ih _ _ _  hz H
      · replace H := giff q H
        exact fM_starts_109_zb  hz H
    · replace H := giff q H
      exact fM_starts_109_zb  hz H
theorem fM_starts_29_zb {v1 : Int32} {v2 : Int32} {v3 : Int32}  : ∀ (n : Nat) (v4 : Int32) (h : gH) (x : gH), ZB h → fM_starts_29 v1 v2 v3 n v4 h = some x → ZB x := by
  intro n
  induction n with
  | zero => intro v4 h x  hz H; exact g0 H
  | succ n ih =>
    intro v4 h x  hz H
    unfold fM_starts_29 at H
    by_cases q : v4 < (24 : Int32)
    · replace H := gift q H
      obtain ⟨b27, H⟩ := ggi H
      have b27 := gin_in b27
      obtain ⟨h28, e29, H⟩ := glei H
      replace hz := zb_e (zb_z hz (Or.inl rfl)) e29
      exact ih _ _ _  hz H
    · replace H := giff q H
      obtain ⟨h1, e2, H⟩ := glei H
      replace hz := zb_e (zb_z hz (Or.inl rfl)) e2
      exact fM_starts_58_zb  gfu _ _ _  hz H
theorem fM_starts_3_zb {v1 : Int32} {v2 : Int32} {v3 : Int32}  : ∀ (n : Nat) (v4 : Int32) (h : gH) (x : gH), ZB h → fM_starts_3 v1 v2 v3 n v4 h = some x → ZB x := by
  intro n
  induction n with
  | zero => intro v4 h x  hz H; exact g0 H
  | succ n ih =>
    intro v4 h x  hz H
    unfold fM_starts_3 at H
    by_cases q : v4 < (8 : Int32)
    · replace H := gift q H
      obtain ⟨b30, H⟩ := ggi H
      have b30 := gin_in b30
      obtain ⟨h31, e32, H⟩ := glei H
      replace hz := zb_e (zb_o hz (by decide)) e32
      exact ih _ _ _  hz H
    · replace H := giff q H
      exact fM_starts_29_zb  gfu _ _ _  hz H
theorem fM_starts_zb {v1 : Int32} {v2 : Int32} {v3 : Int32} {h : gH} {x : gH} (hz : ZB h) (H : fM_starts v1 v2 v3 h = some x) : ZB x := by
  unfold fM_starts at H
  exact fM_starts_3_zb  gfu _ _ _  hz H
theorem fM_isGone_zb {v1 : Int32} {v2 : Int32} {h : gH} {x : (Int32 × gH)} (hz : ZB h) (H : fM_isGone v1 v2 h = some x) : ZB x.2 := by
  unfold fM_isGone at H
  by_cases q : (h 65 2) = (0 : Int32)
  · replace H := gift q H
    by_cases q : v1 = (-1 : Int32)
    · replace H := gift q H
      obtain rfl := Option.some.inj H
      exact hz
    · replace H := giff q H
      obtain ⟨b1, H⟩ := ggi H
      have b1 := gin_in b1
      by_cases q : (((h 66 v1.toNatClampNeg) >>> (v2 &&& 31)) &&& (1 : Int32)) = (0 : Int32)
      · replace H := gift q H
        obtain rfl := Option.some.inj H
        exact hz
      · replace H := giff q H
        obtain rfl := Option.some.inj H
        exact hz
  · replace H := giff q H
    obtain rfl := Option.some.inj H
    exact hz
theorem fM_why_121_zb {v3 : Int32} {v4 : Int32}  {h : gH} {x : (Int32 × gH)} (hz : ZB h) (H : fM_why_121 v3 v4  h = some x) : ZB x.2 := by
  unfold fM_why_121 at H
  obtain ⟨h9, e10, H⟩ := gbi H
  replace hz := fM_laysBack_zb  hz e10
  by_cases q : v4 = (0 : Int32)
  · replace H := gift q H
    obtain rfl := Option.some.inj H
    exact hz
  · replace H := giff q H
    obtain rfl := Option.some.inj H
    exact hz
theorem fM_why_114_zb {k65 : Int32 → Int32 → gH → Option (Int32 × gH)} {v1 : Int32} {v2 : Int32} {v4 : Int32} {v5 : Int32} {s0 : Int32} (hk65z : ∀ (u3 : Int32) (u5 : Int32) (h : gH) (x : (Int32 × gH)), ZB h → k65 u3 u5 h = some x → ZB x.2) {h : gH} {x : (Int32 × gH)} (hz : ZB h) (H : fM_why_114 k65 v1 v2 v4 v5 s0 h = some x) : ZB x.2 := by
  unfold fM_why_114 at H
  exact hk65z _ _ _ _  hz H
theorem fM_why_65_zb {v1 : Int32} {v2 : Int32} {v4 : Int32}  : ∀ (n : Nat) (v3 : Int32) (v5 : Int32) (h : gH) (x : (Int32 × gH)), ZB h → fM_why_65 v1 v2 v4 n v3 v5 h = some x → ZB x.2 := by
  intro n
  induction n with
  | zero => intro v3 v5 h x  hz H; exact g0 H
  | succ n ih =>
    intro v3 v5 h x  hz H
    unfold fM_why_65 at H
    by_cases q : v5 < (h 65 12)
    · replace H := gift q H
      by_cases q : v4 = (0 : Int32)
      · replace H := gift q H
        exact fM_why_121_zb  hz H
      · replace H := giff q H
        obtain ⟨h11, e12, H⟩ := gbi H
        replace hz := fM_starts_zb  hz e12
        obtain ⟨p13, e14, H⟩ := gbi H
        replace hz := fM_isGone_zb  hz e14
        by_cases q : p13.1 = (0 : Int32)
        · replace H := gift q H
          exact fM_why_114_zb ih  hz H
        · replace H := giff q H
          exact fM_why_114_zb ih  hz H
    · replace H := giff q H
      exact fM_why_121_zb  hz H
theorem fM_why_34_zb {v1 : Int32} {v2 : Int32}  {h : gH} {x : (Int32 × gH)} (hz : ZB h) (H : fM_why_34 v1 v2  h = some x) : ZB x.2 := by
  unfold fM_why_34 at H
  obtain ⟨h3, e4, H⟩ := gbi H
  replace hz := fM_laysAside_zb  hz e4
  obtain ⟨h5, e6, H⟩ := gbi H
  replace hz := fM_starts_zb  hz e6
  obtain ⟨p7, e8, H⟩ := gbi H
  replace hz := fM_isGone_zb  hz e8
  exact fM_why_65_zb  gfu _ _ _ _  hz H
theorem fM_why_zb {v1 : Int32} {v2 : Int32} {h : gH} {x : (Int32 × gH)} (hz : ZB h) (H : fM_why v1 v2 h = some x) : ZB x.2 := by
  unfold fM_why at H
  obtain ⟨p1, e2, H⟩ := gbi H
  replace hz := fM_in_zb  hz e2
  by_cases q : p1.1 = (0 : Int32)
  · replace H := gift q H
    obtain rfl := Option.some.inj H
    exact hz
  · replace H := giff q H
    by_cases q : v1 = (-1 : Int32)
    · replace H := gift q H
      exact fM_why_34_zb  hz H
    · replace H := giff q H
      obtain ⟨p15, e16, H⟩ := gbi H
      replace hz := fM_in_zb  hz e16
      by_cases q : p15.1 = (0 : Int32)
      · replace H := gift q H
        obtain rfl := Option.some.inj H
        exact hz
      · replace H := giff q H
        exact fM_why_34_zb  hz H
theorem fM_isIdle_124_zb {v3 : Int32}  {h : gH} {x : (Int32 × gH)} (hz : ZB h) (H : fM_isIdle_124 v3  h = some x) : ZB x.2 := by
  unfold fM_isIdle_124 at H
  obtain ⟨h7, e8, H⟩ := gbi H
  replace hz := fM_laysBack_zb  hz e8
  obtain ⟨b9, H⟩ := ggi H
  have b9 := gbo_or b9
  obtain rfl := Option.some.inj H
  exact hz
theorem fM_isIdle_117_zb {k80 : Int32 → Int32 → gH → Option (Int32 × gH)} {v2 : Int32} {v4 : Int32} {s0 : Int32} (hk80z : ∀ (u3 : Int32) (u4 : Int32) (h : gH) (x : (Int32 × gH)), ZB h → k80 u3 u4 h = some x → ZB x.2) {h : gH} {x : (Int32 × gH)} (hz : ZB h) (H : fM_isIdle_117 k80 v2 v4 s0 h = some x) : ZB x.2 := by
  unfold fM_isIdle_117 at H
  exact hk80z _ _ _ _  hz H
theorem fM_isIdle_116_zb {k80 : Int32 → Int32 → gH → Option (Int32 × gH)} {v2 : Int32} {v4 : Int32} (hk80z : ∀ (u3 : Int32) (u4 : Int32) (h : gH) (x : (Int32 × gH)), ZB h → k80 u3 u4 h = some x → ZB x.2) {h : gH} {x : (Int32 × gH)} (hz : ZB h) (H : fM_isIdle_116 k80 v2 v4  h = some x) : ZB x.2 := by
  unfold fM_isIdle_116 at H
  exact fM_isIdle_117_zb hk80z  hz H
theorem fM_isIdle_80_zb {v2 : Int32}  : ∀ (n : Nat) (v3 : Int32) (v4 : Int32) (h : gH) (x : (Int32 × gH)), ZB h → fM_isIdle_80 v2 n v3 v4 h = some x → ZB x.2 := by
  intro n
  induction n with
  | zero => intro v3 v4 h x  hz H; exact g0 H
  | succ n ih =>
    intro v3 v4 h x  hz H
    unfold fM_isIdle_80 at H
    by_cases q : v4 < (8 : Int32)
    · replace H := gift q H
      by_cases q : v2 = (0 : Int32)
      · replace H := gift q H
        by_cases q : v3 = (0 : Int32)
        · replace H := gift q H
          exact fM_isIdle_116_zb ih  hz H
        · replace H := giff q H
          obtain ⟨b10, H⟩ := ggi H
          have b10 := gin_in b10
          obtain ⟨b11, H⟩ := ggi H
          have b11 := gin_in b11
          by_cases q : (h 66 v4.toNatClampNeg) = (h 86 v4.toNatClampNeg)
          · replace H := gift q H
            exact fM_isIdle_117_zb ih  hz H
          · replace H := giff q H
            exact fM_isIdle_116_zb ih  hz H
      · replace H := giff q H
        exact fM_isIdle_124_zb  hz H
    · replace H := giff q H
      exact fM_isIdle_124_zb  hz H
theorem fM_isIdle_76_zb {v2 : Int32} {s0 : Int32}  {h : gH} {x : (Int32 × gH)} (hz : ZB h) (H : fM_isIdle_76 v2 s0 h = some x) : ZB x.2 := by
  unfold fM_isIdle_76 at H
  exact fM_isIdle_80_zb  gfu _ _ _ _  hz H
theorem fM_isIdle_25_zb {v1 : Int32} {v2 : Int32}  : ∀ (n : Nat) (v3 : Int32) (h : gH) (x : (Int32 × gH)), ZB h → fM_isIdle_25 v1 v2 n v3 h = some x → ZB x.2 := by
  intro n
  induction n with
  | zero => intro v3 h x  hz H; exact g0 H
  | succ n ih =>
    intro v3 h x  hz H
    unfold fM_isIdle_25 at H
    by_cases q : v3 < (8 : Int32)
    · replace H := gift q H
      obtain ⟨b12, H⟩ := ggi H
      have b12 := gin_in b12
      obtain ⟨b13, H⟩ := ggi H
      have b13 := gin_in b13
      obtain ⟨h14, e15, H⟩ := glei H
      replace hz := zb_e (zb_o hz (by decide)) e15
      exact ih _ _ _  hz H
    · replace H := giff q H
      obtain ⟨h5, e6, H⟩ := gbi H
      replace hz := fM_starts_zb  hz e6
      by_cases q : (h5 65 2) = v2
      · replace H := gift q H
        exact fM_isIdle_76_zb  hz H
      · replace H := giff q H
        exact fM_isIdle_76_zb  hz H
theorem fM_isIdle_zb {v1 : Int32} {h : gH} {x : (Int32 × gH)} (hz : ZB h) (H : fM_isIdle v1 h = some x) : ZB x.2 := by
  unfold fM_isIdle at H
  obtain ⟨h1, e2, H⟩ := gbi H
  replace hz := fM_laysAside_zb  hz e2
  obtain ⟨h3, e4, H⟩ := gbi H
  replace hz := fM_starts_zb  hz e4
  exact fM_isIdle_25_zb  gfu _ _ _  hz H
theorem fM_mixed_50_zb {s0 : Int32}  {h : gH} {x : (Int32 × gH)} (hz : ZB h) (H : fM_mixed_50  s0 h = some x) : ZB x.2 := by
  unfold fM_mixed_50 at H
  obtain ⟨h8, e9, H⟩ := gbi H
  replace hz := fM_laysBack_zb  hz e9
  obtain rfl := Option.some.inj H
  exact hz
theorem fM_mixed_zb {v1 : Int32} {v2 : Int32} {h : gH} {x : (Int32 × gH)} (hz : ZB h) (H : fM_mixed v1 v2 h = some x) : ZB x.2 := by
  unfold fM_mixed at H
  obtain ⟨p1, e2, H⟩ := gbi H
  replace hz := fM_in_zb  hz e2
  by_cases q : p1.1 = (0 : Int32)
  · replace H := gift q H
    obtain rfl := Option.some.inj H
    exact hz
  · replace H := giff q H
    obtain ⟨h3, e4, H⟩ := gbi H
    replace hz := fM_laysAside_zb  hz e4
    obtain ⟨h5, e6, H⟩ := gbi H
    replace hz := fM_starts_zb  hz e6
    by_cases q : (h5 65 2) = (0 : Int32)
    · replace H := gift q H
      obtain ⟨b7, H⟩ := ggi H
      have b7 := gin_in b7
      exact fM_mixed_50_zb  hz H
    · replace H := giff q H
      exact fM_mixed_50_zb  hz H
theorem fM_wentBy_28_zb {k4 : Int32 → Int32 → gH → Option (Int32 × gH)} {v1 : Int32} {v3 : Int32} {s0 : Int32} {s1 : Int32} (hk4z : ∀ (u2 : Int32) (u3 : Int32) (h : gH) (x : (Int32 × gH)), ZB h → k4 u2 u3 h = some x → ZB x.2) {h : gH} {x : (Int32 × gH)} (hz : ZB h) (H : fM_wentBy_28 k4 v1 v3 s0 s1 h = some x) : ZB x.2 := by
  unfold fM_wentBy_28 at H
  exact hk4z _ _ _ _  hz H
theorem fM_wentBy_4_zb {v1 : Int32}  : ∀ (n : Nat) (v2 : Int32) (v3 : Int32) (h : gH) (x : (Int32 × gH)), ZB h → fM_wentBy_4 v1 n v2 v3 h = some x → ZB x.2 := by
  intro n
  induction n with
  | zero => intro v2 v3 h x  hz H; exact g0 H
  | succ n ih =>
    intro v2 v3 h x  hz H
    unfold fM_wentBy_4 at H
    by_cases q : v3 < (h 65 15)
    · replace H := gift q H
      obtain ⟨b1, H⟩ := ggi H
      have b1 := gin_in b1
      by_cases q : (h 75 v3.toNatClampNeg) = v1
      · replace H := gift q H
        exact fM_wentBy_28_zb ih  hz H
      · replace H := giff q H
        exact fM_wentBy_28_zb ih  hz H
    · replace H := giff q H
      obtain rfl := Option.some.inj H
      exact hz
theorem fM_wentBy_zb {v1 : Int32} {h : gH} {x : (Int32 × gH)} (hz : ZB h) (H : fM_wentBy v1 h = some x) : ZB x.2 := by
  unfold fM_wentBy at H
  exact fM_wentBy_4_zb  gfu _ _ _ _  hz H
theorem fM_told_zb {v1 : Int32} {v2 : Int32} {h : gH} {x : (Int32 × gH)} (hz : ZB h) (H : fM_told v1 v2 h = some x) : ZB x.2 := by
  unfold fM_told at H
  obtain ⟨p1, e2, H⟩ := gbi H
  replace hz := fM_in_zb  hz e2
  by_cases q : p1.1 = (0 : Int32)
  · replace H := gift q H
    obtain rfl := Option.some.inj H
    exact hz
  · replace H := giff q H
    obtain ⟨p3, e4, H⟩ := gbi H
    replace hz := fM_in_zb  hz e4
    by_cases q : p3.1 = (0 : Int32)
    · replace H := gift q H
      obtain rfl := Option.some.inj H
      exact hz
    · replace H := giff q H
      by_cases q : v2 = (5 : Int32)
      · replace H := gift q H
        obtain ⟨h14, e15, H⟩ := gbi H
        replace hz := fM_goesThrough_zb  hz e15
        obtain rfl := Option.some.inj H
        exact hz
      · replace H := giff q H
        by_cases q : v2 = (0 : Int32)
        · replace H := gift q H
          obtain ⟨b13, H⟩ := ggi H
          have b13 := gin_in b13
          obtain rfl := Option.some.inj H
          exact hz
        · replace H := giff q H
          by_cases q : v2 = (1 : Int32)
          · replace H := gift q H
            obtain ⟨b12, H⟩ := ggi H
            have b12 := gin_in b12
            obtain rfl := Option.some.inj H
            exact hz
          · replace H := giff q H
            by_cases q : v2 = (2 : Int32)
            · replace H := gift q H
              obtain ⟨p10, e11, H⟩ := gbi H
              replace hz := fM_priority_zb  hz e11
              obtain rfl := Option.some.inj H
              exact hz
            · replace H := giff q H
              by_cases q : v2 = (3 : Int32)
              · replace H := gift q H
                obtain ⟨b9, H⟩ := ggi H
                have b9 := gin_in b9
                by_cases q : (p3.2 71 v1.toNatClampNeg) = (0 : Int32)
                · replace H := gift q H
                  obtain rfl := Option.some.inj H
                  exact hz
                · replace H := giff q H
                  obtain rfl := Option.some.inj H
                  exact hz
              · replace H := giff q H
                by_cases q : v2 = (4 : Int32)
                · replace H := gift q H
                  obtain ⟨p7, e8, H⟩ := gbi H
                  replace hz := fM_isIdle_zb  hz e8
                  by_cases q : p7.1 = (0 : Int32)
                  · replace H := gift q H
                    obtain rfl := Option.some.inj H
                    exact hz
                  · replace H := giff q H
                    obtain rfl := Option.some.inj H
                    exact hz
                · replace H := giff q H
                  obtain ⟨p5, e6, H⟩ := gbi H
                  replace hz := fM_wentBy_zb  hz e6
                  obtain rfl := Option.some.inj H
                  exact hz
theorem fM_ruleCount_4_zb {v1 : Int32}  : ∀ (n : Nat) (v2 : Int32) (v3 : Int32) (h : gH) (x : (Int32 × gH)), ZB h → fM_ruleCount_4 v1 n v2 v3 h = some x → ZB x.2 := by
  intro n
  induction n with
  | zero => intro v2 v3 h x  hz H; exact g0 H
  | succ n ih =>
    intro v2 v3 h x  hz H
    unfold fM_ruleCount_4 at H
    by_cases q : v3 < (h 65 8)
    · replace H := gift q H
      obtain ⟨b1, H⟩ := ggi H
      have b1 := gin_in b1
      exact ih _ _ _ _  hz H
    · replace H := giff q H
      obtain rfl := Option.some.inj H
      exact hz
theorem fM_ruleCount_zb {v1 : Int32} {h : gH} {x : (Int32 × gH)} (hz : ZB h) (H : fM_ruleCount v1 h = some x) : ZB x.2 := by
  unfold fM_ruleCount at H
  exact fM_ruleCount_4_zb  gfu _ _ _ _  hz H
theorem fM_chosen_85_zb {k6 : Int32 → Int32 → Int32 → gH → Option (Int32 × gH)} {v3 : Int32} {v5 : Int32} (hk6z : ∀ (u1 : Int32) (u2 : Int32) (u3 : Int32) (h : gH) (x : (Int32 × gH)), ZB h → k6 u1 u2 u3 h = some x → ZB x.2) {h : gH} {x : (Int32 × gH)} (hz : ZB h) (H : fM_chosen_85 k6 v3 v5  h = some x) : ZB x.2 := by
  unfold fM_chosen_85 at H
  exact hk6z _ _ _ _ _  hz H
theorem fM_chosen_66_zb {k6 : Int32 → Int32 → Int32 → gH → Option (Int32 × gH)} {v1 : Int32} {v2 : Int32} {v3 : Int32} {v4 : Int32} {s0 : Int32} (hk6z : ∀ (u1 : Int32) (u2 : Int32) (u3 : Int32) (h : gH) (x : (Int32 × gH)), ZB h → k6 u1 u2 u3 h = some x → ZB x.2) {h : gH} {x : (Int32 × gH)} (hz : ZB h) (H : fM_chosen_66 k6 v1 v2 v3 v4 s0 h = some x) : ZB x.2 := by
  unfold fM_chosen_66 at H
  by_cases q : v4 = (1 : Int32)
  · replace H := gift q H
    exact hk6z _ _ _ _ _  hz H
  · replace H := giff q H
    by_cases q : v1 = (-1 : Int32)
    · replace H := gift q H
      exact fM_chosen_85_zb hk6z  hz H
    · replace H := giff q H
      by_cases q : v2 < s0
      · replace H := gift q H
        exact fM_chosen_85_zb hk6z  hz H
      · replace H := giff q H
        exact hk6z _ _ _ _ _  hz H
theorem fM_chosen_6_zb  : ∀ (n : Nat) (v1 : Int32) (v2 : Int32) (v3 : Int32) (h : gH) (x : (Int32 × gH)), ZB h → fM_chosen_6  n v1 v2 v3 h = some x → ZB x.2 := by
  intro n
  induction n with
  | zero => intro v1 v2 v3 h x  hz H; exact g0 H
  | succ n ih =>
    intro v1 v2 v3 h x  hz H
    unfold fM_chosen_6 at H
    by_cases q : v3 < (8 : Int32)
    · replace H := gift q H
      obtain ⟨b1, H⟩ := ggi H
      have b1 := gin_in b1
      obtain ⟨p2, e3, H⟩ := gbi H
      replace hz := fM_bitsOf_zb  hz e3
      by_cases q : (p2.2 65 44) = (0 : Int32)
      · replace H := gift q H
        exact fM_chosen_66_zb ih  hz H
      · replace H := giff q H
        by_cases q : (p2.2 65 44) = (1 : Int32)
        · replace H := gift q H
          exact fM_chosen_66_zb ih  hz H
        · replace H := giff q H
          by_cases q : (p2.2 65 44) = (2 : Int32)
          · replace H := gift q H
            exact fM_chosen_66_zb ih  hz H
          · replace H := giff q H
            obtain ⟨p4, e5, H⟩ := gbi H
            replace hz := fM_ruleCount_zb  hz e5
            exact fM_chosen_66_zb ih  hz H
    · replace H := giff q H
      obtain rfl := Option.some.inj H
      exact hz
theorem fM_chosen_zb {h : gH} {x : (Int32 × gH)} (hz : ZB h) (H : fM_chosen  h = some x) : ZB x.2 := by
  unfold fM_chosen at H
  exact fM_chosen_6_zb  gfu _ _ _ _ _  hz H
theorem fM_picked_42_zb {v1 : Int32}  : ∀ (n : Nat) (v3 : Int32) (v4 : Int32) (h : gH) (x : (Int32 × gH)), ZB h → fM_picked_42 v1 n v3 v4 h = some x → ZB x.2 := by
  intro n
  induction n with
  | zero => intro v3 v4 h x  hz H; exact g0 H
  | succ n ih =>
    intro v3 v4 h x  hz H
    unfold fM_picked_42 at H
    by_cases q : v4 < (10 : Int32)
    · replace H := gift q H
      obtain ⟨b4, H⟩ := ggi H
      have b4 := gin_in b4
      by_cases q : (((h 66 v1.toNatClampNeg) >>> (v4 &&& 31)) &&& (1 : Int32)) = (1 : Int32)
      · replace H := gift q H
        by_cases q : v3 = (0 : Int32)
        · replace H := gift q H
          obtain rfl := Option.some.inj H
          exact hz
        · replace H := giff q H
          exact ih _ _ _ _  hz H
      · replace H := giff q H
        exact ih _ _ _ _  hz H
    · replace H := giff q H
      obtain rfl := Option.some.inj H
      exact hz
theorem fM_picked_38_zb {v1 : Int32} {s0 : Int32}  {h : gH} {x : (Int32 × gH)} (hz : ZB h) (H : fM_picked_38 v1 s0 h = some x) : ZB x.2 := by
  unfold fM_picked_38 at H
  exact fM_picked_42_zb  gfu _ _ _ _  hz H
theorem fM_picked_zb {v1 : Int32} {h : gH} {x : (Int32 × gH)} (hz : ZB h) (H : fM_picked v1 h = some x) : ZB x.2 := by
  unfold fM_picked at H
  obtain ⟨b1, H⟩ := ggi H
  have b1 := gin_in b1
  obtain ⟨p2, e3, H⟩ := gbi H
  replace hz := fM_bitsOf_zb  hz e3
  by_cases q : (p2.2 65 45) = (0 : Int32)
  · replace H := gift q H
    exact fM_picked_38_zb  hz H
  · replace H := giff q H
    by_cases q : (p2.2 65 45) = (1 : Int32)
    · replace H := gift q H
      exact fM_picked_38_zb  hz H
    · replace H := giff q H
      exact fM_picked_38_zb  hz H
theorem fM_runsAll_5_zb  : ∀ (n : Nat) (v1 : Int32) (h : gH) (x : gH), ZB h → fM_runsAll_5  n v1 h = some x → ZB x := by
  intro n
  induction n with
  | zero => intro v1 h x  hz H; exact g0 H
  | succ n ih =>
    intro v1 h x  hz H
    unfold fM_runsAll_5 at H
    by_cases q : v1 = (-1 : Int32)
    · replace H := gift q H
      obtain rfl := Option.some.inj H
      exact hz
    · replace H := giff q H
      obtain ⟨b3, H⟩ := ggi H
      have b3 := gin_in b3
      obtain ⟨h4, e5, H⟩ := glei H
      replace hz := zb_e (zb_z hz (Or.inl rfl)) e5
      obtain ⟨h6, e7, H⟩ := gbi H
      replace hz := fM_prunes_zb  hz e7
      obtain ⟨p8, e9, H⟩ := gbi H
      replace hz := fM_nextRule_zb  hz e9
      exact ih _ _ _  hz H
theorem fM_runsAll_zb {h : gH} {x : gH} (hz : ZB h) (H : fM_runsAll  h = some x) : ZB x := by
  unfold fM_runsAll at H
  obtain ⟨p1, e2, H⟩ := gbi H
  replace hz := fM_nextRule_zb  hz e2
  exact fM_runsAll_5_zb  gfu _ _ _  hz H
theorem fM_lowest_2_zb {v0 : Int32}  : ∀ (n : Nat) (v1 : Int32) (h : gH) (x : (Int32 × gH)), ZB h → fM_lowest_2 v0 n v1 h = some x → ZB x.2 := by
  intro n
  induction n with
  | zero => intro v1 h x  hz H; exact g0 H
  | succ n ih =>
    intro v1 h x  hz H
    unfold fM_lowest_2 at H
    by_cases q : ((v0 >>> (v1 &&& 31)) &&& (1 : Int32)) = (0 : Int32)
    · replace H := gift q H
      exact ih _ _ _  hz H
    · replace H := giff q H
      obtain rfl := Option.some.inj H
      exact hz
theorem fM_lowest_zb {v0 : Int32} {h : gH} {x : (Int32 × gH)} (hz : ZB h) (H : fM_lowest v0 h = some x) : ZB x.2 := by
  unfold fM_lowest at H
  exact fM_lowest_2_zb  gfu _ _ _  hz H
theorem fM_clears_2_zb  : ∀ (n : Nat) (v1 : Int32) (h : gH) (x : gH), ZB h → fM_clears_2  n v1 h = some x → ZB x := by
  intro n
  induction n with
  | zero => intro v1 h x  hz H; exact g0 H
  | succ n ih =>
    intro v1 h x  hz H
    unfold fM_clears_2 at H
    by_cases q : v1 < (24 : Int32)
    · replace H := gift q H
      obtain ⟨b1, H⟩ := ggi H
      have b1 := gin_in b1
      obtain ⟨h2, e3, H⟩ := glei H
      replace hz := zb_e (zb_z hz (Or.inl rfl)) e3
      exact ih _ _ _  hz H
    · replace H := giff q H
      obtain rfl := Option.some.inj H
      exact (zb_z hz (Or.inl rfl))
theorem fM_clears_zb {h : gH} {x : gH} (hz : ZB h) (H : fM_clears  h = some x) : ZB x := by
  unfold fM_clears at H
  exact fM_clears_2_zb  gfu _ _ _  hz H
theorem fM_learns_108_zb {v1 : Int32} {v2 : Int32} {v4 : Int32}  : ∀ (n : Nat) (v5 : Int32) (h : gH) (x : (Int32 × gH)), ZB h → fM_learns_108 v1 v2 v4 n v5 h = some x → ZB x.2 := by
  intro n
  induction n with
  | zero => intro v5 h x  hz H; exact g0 H
  | succ n ih =>
    intro v5 h x  hz H
    unfold fM_learns_108 at H
    by_cases q : v5 < v1
    · replace H := gift q H
      by_cases q : ((v2 >>> (v5 &&& 31)) &&& (1 : Int32)) = (1 : Int32)
      · replace H := gift q H
        obtain ⟨b11, H⟩ := ggi H
        have b11 := gin_in b11
        obtain ⟨b12, H⟩ := ggi H
        have b12 := gin_in b12
        obtain ⟨b13, H⟩ := ggi H
        have b13 := gin_in b13
        obtain ⟨h14, e15, H⟩ := glei H
        replace hz := zb_e (zb_o hz (by decide)) e15
        obtain ⟨b16, H⟩ := ggi H
        have b16 := gin_in b16
        obtain ⟨b17, H⟩ := ggi H
        have b17 := gin_in b17
        obtain ⟨b18, H⟩ := ggi H
        have b18 := gin_in b18
        obtain ⟨h19, e20, H⟩ := glei H
        replace hz := zb_e (zb_o hz (by decide)) e20
        exact ih _ _ _  hz H
      · replace H := giff q H
        exact ih _ _ _  hz H
    · replace H := giff q H
      obtain ⟨h9, e10, H⟩ := glei H
      replace hz := zb_e (zb_f hz (by decide)) e10
      obtain rfl := Option.some.inj H
      exact hz
theorem fM_learns_73_zb {k34 : Int32 → Int32 → gH → Option (Int32 × gH)} {v1 : Int32} {v3 : Int32} {v4 : Int32} {s0 : Int32} (hk34z : ∀ (u2 : Int32) (u4 : Int32) (h : gH) (x : (Int32 × gH)), ZB h → k34 u2 u4 h = some x → ZB x.2) {h : gH} {x : (Int32 × gH)} (hz : ZB h) (H : fM_learns_73 k34 v1 v3 v4 s0 h = some x) : ZB x.2 := by
  unfold fM_learns_73 at H
  exact hk34z _ _ _ _  hz H
theorem fM_learns_34_zb {v1 : Int32} {v3 : Int32}  : ∀ (n : Nat) (v2 : Int32) (v4 : Int32) (h : gH) (x : (Int32 × gH)), ZB h → fM_learns_34 v1 v3 n v2 v4 h = some x → ZB x.2 := by
  intro n
  induction n with
  | zero => intro v2 v4 h x  hz H; exact g0 H
  | succ n ih =>
    intro v2 v4 h x  hz H
    unfold fM_learns_34 at H
    by_cases q : v4 < v1
    · replace H := gift q H
      obtain ⟨h21, e22, H⟩ := gbi H
      replace hz := fM_starts_zb  hz e22
      by_cases q : (h21 65 2) = (0 : Int32)
      · replace H := gift q H
        exact fM_learns_73_zb ih  hz H
      · replace H := giff q H
        exact fM_learns_73_zb ih  hz H
    · replace H := giff q H
      obtain ⟨b3, H⟩ := ggi H
      have b3 := gin_in b3
      obtain ⟨h4, e5, H⟩ := glei H
      replace hz := zb_e (zb_o hz (by decide)) e5
      obtain ⟨b6, H⟩ := ggi H
      have b6 := gin_in b6
      obtain ⟨h7, e8, H⟩ := glei H
      replace hz := zb_e (zb_o hz (by decide)) e8
      exact fM_learns_108_zb  gfu _ _ _  hz H
theorem fM_learns_zb {v1 : Int32} {h : gH} {x : (Int32 × gH)} (hz : ZB h) (H : fM_learns v1 h = some x) : ZB x.2 := by
  unfold fM_learns at H
  obtain ⟨h1, e2, H⟩ := gbi H
  replace hz := fM_starts_zb  hz e2
  by_cases q : (h1 65 2) = (0 : Int32)
  · replace H := gift q H
    obtain rfl := Option.some.inj H
    exact hz
  · replace H := giff q H
    exact fM_learns_34_zb  gfu _ _ _ _  hz H
theorem fM_searches_272_zb {R : Int32 → Int32 → gH → Option (Int32 × gH)} {k10 : Int32 → gH → Option (Int32 × gH)} {v1 : Int32} {v2 : Int32} {v3 : Int32} {v4 : Int32} {v5 : Int32} {v7 : Int32} (hR0z : ∀ a b h x, ZB h → R a b h = some x → ZB x.2) (hk10z : ∀ (u3 : Int32) (h : gH) (x : (Int32 × gH)), ZB h → k10 u3 h = some x → ZB x.2) : ∀ (n : Nat) (v8 : Int32) (h : gH) (x : (Int32 × gH)), ZB h → fM_searches_272 R k10 v1 v2 v3 v4 v5 v7 n v8 h = some x → ZB x.2 := by
  intro n
  induction n with
  | zero => intro v8 h x  hz H; exact g0 H
  | succ n ih =>
    intro v8 h x  hz H
    unfold fM_searches_272 at H
    by_cases q : v8 < (8 : Int32)
    · replace H := gift q H
      obtain ⟨b26, H⟩ := ggi H
      have b26 := gin_in b26
      obtain ⟨b27, H⟩ := ggi H
      have b27 := gin_in b27
      obtain ⟨h28, e29, H⟩ := glei H
      replace hz := zb_e (zb_o hz (by decide)) e29
      exact ih _ _ _  hz H
    · replace H := giff q H
      obtain ⟨h23, e24, H⟩ := gbi H
      replace hz := fM_decides_zb  hz e24
      by_cases q : v7 = (0 : Int32)
      · replace H := gift q H
        exact hk10z _ _ _  hz H
      · replace H := giff q H
        obtain ⟨b25, H⟩ := ggi H
        have b25 := gin_in b25
        exact hk10z _ _ _  (zb_z hz (Or.inr rfl)) H
theorem fM_searches_258_zb {R : Int32 → Int32 → gH → Option (Int32 × gH)} {k10 : Int32 → gH → Option (Int32 × gH)} {v1 : Int32} {v2 : Int32} {v3 : Int32} {v4 : Int32} {v5 : Int32} {s0 : Int32} (hR0z : ∀ a b h x, ZB h → R a b h = some x → ZB x.2) (hk10z : ∀ (u3 : Int32) (h : gH) (x : (Int32 × gH)), ZB h → k10 u3 h = some x → ZB x.2) {h : gH} {x : (Int32 × gH)} (hz : ZB h) (H : fM_searches_258 R k10 v1 v2 v3 v4 v5 s0 h = some x) : ZB x.2 := by
  unfold fM_searches_258 at H
  obtain ⟨h19, e20, H⟩ := glei H
  replace hz := zb_e (zb_z hz (Or.inl rfl)) e20
  obtain ⟨h21, e22, H⟩ := gbi H
  replace hz := fM_clears_zb  hz e22
  exact fM_searches_272_zb hR0z hk10z  gfu _ _ _  hz H
theorem fM_searches_257_zb {R : Int32 → Int32 → gH → Option (Int32 × gH)} {k10 : Int32 → gH → Option (Int32 × gH)} {v1 : Int32} {v2 : Int32} {v3 : Int32} {v4 : Int32} {v5 : Int32} (hR0z : ∀ a b h x, ZB h → R a b h = some x → ZB x.2) (hk10z : ∀ (u3 : Int32) (h : gH) (x : (Int32 × gH)), ZB h → k10 u3 h = some x → ZB x.2) {h : gH} {x : (Int32 × gH)} (hz : ZB h) (H : fM_searches_257 R k10 v1 v2 v3 v4 v5  h = some x) : ZB x.2 := by
  unfold fM_searches_257 at H
  exact fM_searches_258_zb hR0z hk10z  hz H
theorem fM_searches_159_zb {R : Int32 → Int32 → gH → Option (Int32 × gH)} {k10 : Int32 → gH → Option (Int32 × gH)} {v1 : Int32} {v2 : Int32} {v3 : Int32} {v4 : Int32} {v5 : Int32} (hR0z : ∀ a b h x, ZB h → R a b h = some x → ZB x.2) (hk10z : ∀ (u3 : Int32) (h : gH) (x : (Int32 × gH)), ZB h → k10 u3 h = some x → ZB x.2) : ∀ (n : Nat) (v6 : Int32) (h : gH) (x : (Int32 × gH)), ZB h → fM_searches_159 R k10 v1 v2 v3 v4 v5 n v6 h = some x → ZB x.2 := by
  intro n
  induction n with
  | zero => intro v6 h x  hz H; exact g0 H
  | succ n ih =>
    intro v6 h x  hz H
    unfold fM_searches_159 at H
    by_cases q : v6 < (8 : Int32)
    · replace H := gift q H
      obtain ⟨b32, H⟩ := ggi H
      have b32 := gin_in b32
      obtain ⟨b33, H⟩ := ggi H
      have b33 := gin_in b33
      obtain ⟨h34, e35, H⟩ := glei H
      replace hz := zb_e (zb_o hz (by decide)) e35
      exact ih _ _ _  hz H
    · replace H := giff q H
      obtain ⟨h15, e16, H⟩ := gbi H
      replace hz := fM_decides_zb  hz e16
      obtain ⟨p17, e18, H⟩ := gbi H
      replace hz := hR0z _ _ _ _ hz e18
      by_cases q : p17.1 = (0 : Int32)
      · replace H := gift q H
        by_cases q : (p17.2 65 53) = (0 : Int32)
        · replace H := gift q H
          exact fM_searches_257_zb hR0z hk10z  hz H
        · replace H := giff q H
          by_cases q : (p17.2 65 46) = (0 : Int32)
          · replace H := gift q H
            exact fM_searches_257_zb hR0z hk10z  hz H
          · replace H := giff q H
            by_cases q : (p17.2 65 9) < (8 : Int32)
            · replace H := gift q H
              obtain ⟨p30, e31, H⟩ := gbi H
              replace hz := fM_learns_zb  hz e31
              by_cases q : p30.1 = (0 : Int32)
              · replace H := gift q H
                exact fM_searches_257_zb hR0z hk10z  hz H
              · replace H := giff q H
                exact fM_searches_258_zb hR0z hk10z  hz H
            · replace H := giff q H
              exact fM_searches_257_zb hR0z hk10z  hz H
      · replace H := giff q H
        obtain rfl := Option.some.inj H
        exact hz
theorem fM_searches_65_zb {R : Int32 → Int32 → gH → Option (Int32 × gH)} (hR0z : ∀ a b h x, ZB h → R a b h = some x → ZB x.2)  : ∀ (n : Nat) (v5 : Int32) (h : gH) (x : (Int32 × gH)), ZB h → fM_searches_65 R  n v5 h = some x → ZB x.2 := by
  intro n
  induction n with
  | zero => intro v5 h x  hz H; exact g0 H
  | succ n ih =>
    intro v5 h x  hz H
    unfold fM_searches_65 at H
    by_cases q : v5 < (8 : Int32)
    · replace H := gift q H
      obtain ⟨b40, H⟩ := ggi H
      have b40 := gin_in b40
      obtain ⟨p41, e42, H⟩ := gbi H
      replace hz := fM_lowest_zb  hz e42
      obtain ⟨b43, H⟩ := ggi H
      have b43 := gin_in b43
      obtain ⟨h44, e45, H⟩ := glei H
      replace hz := zb_e (zb_o hz (by decide)) e45
      exact ih _ _ _  hz H
    · replace H := giff q H
      obtain ⟨h38, e39, H⟩ := glei H
      replace hz := zb_e (zb_z hz (Or.inl rfl)) e39
      by_cases q : (h38 65 47) = (0 : Int32)
      · replace H := gift q H
        obtain rfl := Option.some.inj H
        exact hz
      · replace H := giff q H
        obtain rfl := Option.some.inj H
        exact hz
theorem fM_searches_10_zb {R : Int32 → Int32 → gH → Option (Int32 × gH)} {v1 : Int32} {v2 : Int32} (hR0z : ∀ a b h x, ZB h → R a b h = some x → ZB x.2)  : ∀ (n : Nat) (v3 : Int32) (h : gH) (x : (Int32 × gH)), ZB h → fM_searches_10 R v1 v2 n v3 h = some x → ZB x.2 := by
  intro n
  induction n with
  | zero => intro v3 h x  hz H; exact g0 H
  | succ n ih =>
    intro v3 h x  hz H
    unfold fM_searches_10 at H
    obtain ⟨h1, e2, H⟩ := gbi H
    replace hz := fM_runsAll_zb  hz e2
    by_cases q : (h1 65 2) = (0 : Int32)
    · replace H := gift q H
      obtain ⟨p3, e4, H⟩ := gbi H
      replace hz := fM_chosen_zb  hz e4
      by_cases q : p3.1 = (-1 : Int32)
      · replace H := gift q H
        obtain ⟨h36, e37, H⟩ := glei H
        replace hz := zb_e (zb_f hz (by decide)) e37
        exact fM_searches_65_zb hR0z  gfu _ _ _  hz H
      · replace H := giff q H
        by_cases q : (p3.2 65 48) = v2
        · replace H := gift q H
          obtain rfl := Option.some.inj H
          exact hz
        · replace H := giff q H
          obtain ⟨h5, e6, H⟩ := glei H
          replace hz := zb_e (zb_f hz (by decide)) e6
          obtain ⟨p7, e8, H⟩ := gbi H
          replace hz := fM_picked_zb  hz e8
          obtain ⟨b9, H⟩ := ggi H
          have b9 := gin_in b9
          obtain ⟨h10, e11, H⟩ := glei H
          replace hz := zb_e (zb_o hz (by decide)) e11
          obtain ⟨b12, H⟩ := ggi H
          have b12 := gin_in b12
          obtain ⟨h13, e14, H⟩ := glei H
          replace hz := zb_e (zb_o hz (by decide)) e14
          exact fM_searches_159_zb hR0z ih  gfu _ _ _  hz H
    · replace H := giff q H
      obtain ⟨h46, e47, H⟩ := glei H
      replace hz := zb_e (zb_f hz (by decide)) e47
      obtain ⟨b48, H⟩ := ggi H
      have b48 := gbo_or b48
      obtain ⟨h49, e50, H⟩ := glei H
      replace hz := zb_e (zb_z hz b48) e50
      obtain rfl := Option.some.inj H
      exact hz
theorem fM_searches_9_zb {R : Int32 → Int32 → gH → Option (Int32 × gH)} {v1 : Int32} {v2 : Int32} {s0 : Int32} (hR0z : ∀ a b h x, ZB h → R a b h = some x → ZB x.2)  {h : gH} {x : (Int32 × gH)} (hz : ZB h) (H : fM_searches_9 R v1 v2 s0 h = some x) : ZB x.2 := by
  unfold fM_searches_9 at H
  exact fM_searches_10_zb hR0z  gfu _ _ _  hz H
theorem fM_searches_zb {R : Int32 → Int32 → gH → Option (Int32 × gH)} {v1 : Int32} {v2 : Int32} (hR0z : ∀ a b h x, ZB h → R a b h = some x → ZB x.2) {h : gH} {x : (Int32 × gH)} (hz : ZB h) (H : fM_searches R v1 v2 h = some x) : ZB x.2 := by
  unfold fM_searches at H
  by_cases q : (0 : Int32) < v1
  · replace H := gift q H
    exact fM_searches_9_zb hR0z  hz H
  · replace H := giff q H
    exact fM_searches_9_zb hR0z  hz H
theorem gMS_zba : ∀ n : Nat, ∀ (a b : Int32) (h : gH) (x : Int32 × gH), ZB h → gMS n a b h = some x → ZB x.2 := by
  intro n
  induction n with
  | zero => exact fun a b h x hz H => g0 H
  | succ n ih =>
    exact fun a b h x hz H => fM_searches_zb ih hz H
theorem gMS_zb_0 (n : Nat) : ∀ (a b : Int32) (h : gH) (x : Int32 × gH), ZB h → gMS n a b h = some x → ZB x.2 := gMS_zba n
theorem fM_searched_zb {v1 : Int32} {v2 : Int32} {v3 : Int32} {v4 : Int32} {v5 : Int32} {h : gH} {x : (Int32 × gH)} (hz : ZB h) (H : fM_searched v1 v2 v3 v4 v5 h = some x) : ZB x.2 := by
  unfold fM_searched at H
  obtain ⟨h1, e2, H⟩ := glei H
  replace hz := zb_e (zb_f hz (by decide)) e2
  obtain ⟨h3, e4, H⟩ := glei H
  replace hz := zb_e (zb_f hz (by decide)) e4
  obtain ⟨b5, H⟩ := ggi H
  have b5 := gbo_or b5
  obtain ⟨h6, e7, H⟩ := glei H
  replace hz := zb_e (zb_z hz b5) e7
  obtain ⟨b8, H⟩ := ggi H
  have b8 := gbo_or b8
  obtain ⟨h9, e10, H⟩ := glei H
  replace hz := zb_e (zb_z hz b8) e10
  obtain ⟨h11, e12, H⟩ := glei H
  replace hz := zb_e (zb_f hz (by decide)) e12
  obtain ⟨h13, e14, H⟩ := glei H
  replace hz := zb_e (zb_f hz (by decide)) e14
  obtain ⟨h15, e16, H⟩ := glei H
  replace hz := zb_e (zb_f hz (by decide)) e16
  obtain ⟨h17, e18, H⟩ := glei H
  replace hz := zb_e (zb_f hz (by decide)) e18
  obtain ⟨h19, e20, H⟩ := glei H
  replace hz := zb_e (zb_z hz (Or.inl rfl)) e20
  obtain ⟨p21, e22, H⟩ := gbi H
  replace hz := gMS_zb_0 40 _ _ _ _ hz e22
  obtain ⟨h23, e24, H⟩ := glei H
  replace hz := zb_e (zb_f hz (by decide)) e24
  obtain ⟨h25, e26, H⟩ := glei H
  replace hz := zb_e (zb_f hz (by decide)) e26
  obtain rfl := Option.some.inj H
  exact hz
theorem fM_laysAside2_28_zb  : ∀ (n : Nat) (v1 : Int32) (h : gH) (x : gH), ZB h → fM_laysAside2_28  n v1 h = some x → ZB x := by
  intro n
  induction n with
  | zero => intro v1 h x  hz H; exact g0 H
  | succ n ih =>
    intro v1 h x  hz H
    unfold fM_laysAside2_28 at H
    by_cases q : v1 < (24 : Int32)
    · replace H := gift q H
      obtain ⟨b4, H⟩ := ggi H
      have b4 := gin_in b4
      obtain ⟨b5, H⟩ := ggi H
      have b5 := gin_in b5
      obtain ⟨b6, H⟩ := ggi H
      have b6 := gbo_or b6
      obtain ⟨h7, e8, H⟩ := glei H
      replace hz := zb_e (zb_z hz b6) e8
      exact ih _ _ _  hz H
    · replace H := giff q H
      obtain ⟨b1, H⟩ := ggi H
      have b1 := gbo_or b1
      obtain ⟨h2, e3, H⟩ := glei H
      replace hz := zb_e (zb_z hz b1) e3
      obtain rfl := Option.some.inj H
      exact (zb_z hz (Or.inr rfl))
theorem fM_laysAside2_2_zb  : ∀ (n : Nat) (v1 : Int32) (h : gH) (x : gH), ZB h → fM_laysAside2_2  n v1 h = some x → ZB x := by
  intro n
  induction n with
  | zero => intro v1 h x  hz H; exact g0 H
  | succ n ih =>
    intro v1 h x  hz H
    unfold fM_laysAside2_2 at H
    by_cases q : v1 < (8 : Int32)
    · replace H := gift q H
      obtain ⟨b9, H⟩ := ggi H
      have b9 := gin_in b9
      obtain ⟨b10, H⟩ := ggi H
      have b10 := gin_in b10
      obtain ⟨h11, e12, H⟩ := glei H
      replace hz := zb_e (zb_o hz (by decide)) e12
      exact ih _ _ _  hz H
    · replace H := giff q H
      exact fM_laysAside2_28_zb  gfu _ _ _  hz H
theorem fM_laysAside2_zb {h : gH} {x : gH} (hz : ZB h) (H : fM_laysAside2  h = some x) : ZB x := by
  unfold fM_laysAside2 at H
  exact fM_laysAside2_2_zb  gfu _ _ _  hz H
theorem fM_laysBack2_28_zb  : ∀ (n : Nat) (v1 : Int32) (h : gH) (x : gH), ZB h → fM_laysBack2_28  n v1 h = some x → ZB x := by
  intro n
  induction n with
  | zero => intro v1 h x  hz H; exact g0 H
  | succ n ih =>
    intro v1 h x  hz H
    unfold fM_laysBack2_28 at H
    by_cases q : v1 < (24 : Int32)
    · replace H := gift q H
      obtain ⟨b4, H⟩ := ggi H
      have b4 := gin_in b4
      obtain ⟨b5, H⟩ := ggi H
      have b5 := gin_in b5
      obtain ⟨b6, H⟩ := ggi H
      have b6 := gbo_or b6
      obtain ⟨h7, e8, H⟩ := glei H
      replace hz := zb_e (zb_z hz b6) e8
      exact ih _ _ _  hz H
    · replace H := giff q H
      obtain ⟨b1, H⟩ := ggi H
      have b1 := gbo_or b1
      obtain ⟨h2, e3, H⟩ := glei H
      replace hz := zb_e (zb_z hz b1) e3
      obtain rfl := Option.some.inj H
      exact (zb_z hz (Or.inl rfl))
theorem fM_laysBack2_2_zb  : ∀ (n : Nat) (v1 : Int32) (h : gH) (x : gH), ZB h → fM_laysBack2_2  n v1 h = some x → ZB x := by
  intro n
  induction n with
  | zero => intro v1 h x  hz H; exact g0 H
  | succ n ih =>
    intro v1 h x  hz H
    unfold fM_laysBack2_2 at H
    by_cases q : v1 < (8 : Int32)
    · replace H := gift q H
      obtain ⟨b9, H⟩ := ggi H
      have b9 := gin_in b9
      obtain ⟨b10, H⟩ := ggi H
      have b10 := gin_in b10
      obtain ⟨h11, e12, H⟩ := glei H
      replace hz := zb_e (zb_o hz (by decide)) e12
      exact ih _ _ _  hz H
    · replace H := giff q H
      exact fM_laysBack2_28_zb  gfu _ _ _  hz H
theorem fM_laysBack2_zb {h : gH} {x : gH} (hz : ZB h) (H : fM_laysBack2  h = some x) : ZB x := by
  unfold fM_laysBack2 at H
  exact fM_laysBack2_2_zb  gfu _ _ _  hz H
theorem fM_search_131_zb {v5 : Int32}  : ∀ (n : Nat) (v6 : Int32) (v7 : Int32) (h : gH) (x : (Int32 × gH)), ZB h → fM_search_131 v5 n v6 v7 h = some x → ZB x.2 := by
  intro n
  induction n with
  | zero => intro v6 v7 h x  hz H; exact g0 H
  | succ n ih =>
    intro v6 v7 h x  hz H
    unfold fM_search_131 at H
    by_cases q : v7 < (8 : Int32)
    · replace H := gift q H
      obtain ⟨b15, H⟩ := ggi H
      have b15 := gin_in b15
      exact ih _ _ _ _  hz H
    · replace H := giff q H
      by_cases q : v5 = (1 : Int32)
      · replace H := gift q H
        obtain rfl := Option.some.inj H
        exact hz
      · replace H := giff q H
        obtain rfl := Option.some.inj H
        exact hz
theorem fM_search_67_zb {v4 : Int32} {s1 : Int32} {s2 : Int32} {s3 : Int32}  {h : gH} {x : (Int32 × gH)} (hz : ZB h) (H : fM_search_67 v4 s1 s2 s3 h = some x) : ZB x.2 := by
  unfold fM_search_67 at H
  obtain ⟨p11, e12, H⟩ := gbi H
  replace hz := fM_searched_zb  hz e12
  obtain ⟨h13, e14, H⟩ := gbi H
  replace hz := fM_laysBack2_zb  hz e14
  by_cases q : p11.1 = (-6 : Int32)
  · replace H := gift q H
    obtain rfl := Option.some.inj H
    exact hz
  · replace H := giff q H
    by_cases q : (0 : Int32) < v4
    · replace H := gift q H
      by_cases q : v4 = (1 : Int32)
      · replace H := gift q H
        obtain rfl := Option.some.inj H
        exact hz
      · replace H := giff q H
        by_cases q : v4 = (2 : Int32)
        · replace H := gift q H
          obtain rfl := Option.some.inj H
          exact hz
        · replace H := giff q H
          obtain rfl := Option.some.inj H
          exact hz
    · replace H := giff q H
      exact fM_search_131_zb  gfu _ _ _ _  hz H
theorem fM_search_zb {v1 : Int32} {v2 : Int32} {v3 : Int32} {v4 : Int32} {h : gH} {x : (Int32 × gH)} (hz : ZB h) (H : fM_search v1 v2 v3 v4 h = some x) : ZB x.2 := by
  unfold fM_search at H
  obtain ⟨p1, e2, H⟩ := gbi H
  replace hz := fM_in_zb  hz e2
  by_cases q : p1.1 = (0 : Int32)
  · replace H := gift q H
    obtain rfl := Option.some.inj H
    exact hz
  · replace H := giff q H
    obtain ⟨p3, e4, H⟩ := gbi H
    replace hz := fM_in_zb  hz e4
    by_cases q : p3.1 = (0 : Int32)
    · replace H := gift q H
      obtain rfl := Option.some.inj H
      exact hz
    · replace H := giff q H
      obtain ⟨p5, e6, H⟩ := gbi H
      replace hz := fM_in_zb  hz e6
      by_cases q : p5.1 = (0 : Int32)
      · replace H := gift q H
        obtain rfl := Option.some.inj H
        exact hz
      · replace H := giff q H
        obtain ⟨p7, e8, H⟩ := gbi H
        replace hz := fM_in_zb  hz e8
        by_cases q : p7.1 = (0 : Int32)
        · replace H := gift q H
          obtain rfl := Option.some.inj H
          exact hz
        · replace H := giff q H
          obtain ⟨h9, e10, H⟩ := gbi H
          replace hz := fM_laysAside2_zb  hz e10
          by_cases q : v3 = (1 : Int32)
          · replace H := gift q H
            exact fM_search_67_zb  hz H
          · replace H := giff q H
            exact fM_search_67_zb  hz H
theorem fM_solutions_zb {h : gH} {x : (Int64 × gH)} (hz : ZB h) (H : fM_solutions  h = some x) : ZB x.2 := by
  unfold fM_solutions at H
  obtain ⟨h1, e2, H⟩ := gbi H
  replace hz := fM_laysAside2_zb  hz e2
  obtain ⟨p3, e4, H⟩ := gbi H
  replace hz := fM_searched_zb  hz e4
  obtain ⟨h5, e6, H⟩ := gbi H
  replace hz := fM_laysBack2_zb  hz e6
  by_cases q : p3.1 = (-6 : Int32)
  · replace H := gift q H
    obtain rfl := Option.some.inj H
    exact hz
  · replace H := giff q H
    obtain rfl := Option.some.inj H
    exact hz
theorem fM_reach_144_zb {k30 : Int32 → Int32 → gH → Option (Int32 × gH)} {v1 : Int32} {v2 : Int32} {v4 : Int32} {v7 : Int32} {s0 : Int32} (hk30z : ∀ (u3 : Int32) (u4 : Int32) (h : gH) (x : (Int32 × gH)), ZB h → k30 u3 u4 h = some x → ZB x.2) {h : gH} {x : (Int32 × gH)} (hz : ZB h) (H : fM_reach_144 k30 v1 v2 v4 v7 s0 h = some x) : ZB x.2 := by
  unfold fM_reach_144 at H
  by_cases q : v7 = (0 : Int32)
  · replace H := gift q H
    exact hk30z _ _ _ _  hz H
  · replace H := giff q H
    exact hk30z _ _ _ _  hz H
theorem fM_reach_125_zb {k30 : Int32 → Int32 → gH → Option (Int32 × gH)} {v1 : Int32} {v2 : Int32} {v4 : Int32} {v5 : Int32} {s0 : Int32} (hk30z : ∀ (u3 : Int32) (u4 : Int32) (h : gH) (x : (Int32 × gH)), ZB h → k30 u3 u4 h = some x → ZB x.2) {h : gH} {x : (Int32 × gH)} (hz : ZB h) (H : fM_reach_125 k30 v1 v2 v4 v5 s0 h = some x) : ZB x.2 := by
  unfold fM_reach_125 at H
  obtain ⟨h7, e8, H⟩ := gbi H
  replace hz := fM_laysBack2_zb  hz e8
  by_cases q : s0 = (1 : Int32)
  · replace H := gift q H
    exact fM_reach_144_zb hk30z  hz H
  · replace H := giff q H
    exact fM_reach_144_zb hk30z  hz H
theorem fM_reach_106_zb {k30 : Int32 → Int32 → gH → Option (Int32 × gH)} {v1 : Int32} {v2 : Int32} {v4 : Int32} {v5 : Int32} {v6 : Int32} (hk30z : ∀ (u3 : Int32) (u4 : Int32) (h : gH) (x : (Int32 × gH)), ZB h → k30 u3 u4 h = some x → ZB x.2) {h : gH} {x : (Int32 × gH)} (hz : ZB h) (H : fM_reach_106 k30 v1 v2 v4 v5 v6  h = some x) : ZB x.2 := by
  unfold fM_reach_106 at H
  by_cases q : v6 = (0 : Int32)
  · replace H := gift q H
    exact fM_reach_125_zb hk30z  hz H
  · replace H := giff q H
    obtain ⟨p9, e10, H⟩ := gbi H
    replace hz := fM_searched_zb  hz e10
    exact fM_reach_125_zb hk30z  hz H
theorem fM_reach_89_zb {k30 : Int32 → Int32 → gH → Option (Int32 × gH)} {v1 : Int32} {v2 : Int32} {v4 : Int32} {v5 : Int32} {s0 : Int32} (hk30z : ∀ (u3 : Int32) (u4 : Int32) (h : gH) (x : (Int32 × gH)), ZB h → k30 u3 u4 h = some x → ZB x.2) {h : gH} {x : (Int32 × gH)} (hz : ZB h) (H : fM_reach_89 k30 v1 v2 v4 v5 s0 h = some x) : ZB x.2 := by
  unfold fM_reach_89 at H
  by_cases q : s0 = (0 : Int32)
  · replace H := gift q H
    exact fM_reach_106_zb hk30z  hz H
  · replace H := giff q H
    obtain ⟨h11, e12, H⟩ := gbi H
    replace hz := fM_decides_zb  hz e12
    exact fM_reach_106_zb hk30z  hz H
theorem fM_reach_88_zb {k30 : Int32 → Int32 → gH → Option (Int32 × gH)} {v1 : Int32} {v2 : Int32} {v4 : Int32} {v5 : Int32} (hk30z : ∀ (u3 : Int32) (u4 : Int32) (h : gH) (x : (Int32 × gH)), ZB h → k30 u3 u4 h = some x → ZB x.2) {h : gH} {x : (Int32 × gH)} (hz : ZB h) (H : fM_reach_88 k30 v1 v2 v4 v5  h = some x) : ZB x.2 := by
  unfold fM_reach_88 at H
  exact fM_reach_89_zb hk30z  hz H
theorem fM_reach_56_zb {k30 : Int32 → Int32 → gH → Option (Int32 × gH)} {v1 : Int32} {v2 : Int32} {v4 : Int32} {s0 : Int32} (hk30z : ∀ (u3 : Int32) (u4 : Int32) (h : gH) (x : (Int32 × gH)), ZB h → k30 u3 u4 h = some x → ZB x.2) {h : gH} {x : (Int32 × gH)} (hz : ZB h) (H : fM_reach_56 k30 v1 v2 v4 s0 h = some x) : ZB x.2 := by
  unfold fM_reach_56 at H
  obtain ⟨h5, e6, H⟩ := gbi H
  replace hz := fM_laysAside2_zb  hz e6
  by_cases q : (h5 65 2) = (0 : Int32)
  · replace H := gift q H
    obtain ⟨b13, H⟩ := ggi H
    have b13 := gin_in b13
    by_cases q : (((h5 66 v1.toNatClampNeg) >>> (s0 &&& 31)) &&& (1 : Int32)) = (1 : Int32)
    · replace H := gift q H
      exact fM_reach_89_zb hk30z  hz H
    · replace H := giff q H
      exact fM_reach_88_zb hk30z  hz H
  · replace H := giff q H
    exact fM_reach_88_zb hk30z  hz H
theorem fM_reach_30_zb {v1 : Int32} {v2 : Int32}  : ∀ (n : Nat) (v3 : Int32) (v4 : Int32) (h : gH) (x : (Int32 × gH)), ZB h → fM_reach_30 v1 v2 n v3 v4 h = some x → ZB x.2 := by
  intro n
  induction n with
  | zero => intro v3 v4 h x  hz H; exact g0 H
  | succ n ih =>
    intro v3 v4 h x  hz H
    unfold fM_reach_30 at H
    by_cases q : v4 < (10 : Int32)
    · replace H := gift q H
      by_cases q : v3 = (-1 : Int32)
      · replace H := gift q H
        by_cases q : v2 = (0 : Int32)
        · replace H := gift q H
          exact fM_reach_56_zb ih  hz H
        · replace H := giff q H
          exact fM_reach_56_zb ih  hz H
      · replace H := giff q H
        obtain rfl := Option.some.inj H
        exact hz
    · replace H := giff q H
      obtain rfl := Option.some.inj H
      exact hz
theorem fM_reach_zb {v1 : Int32} {v2 : Int32} {h : gH} {x : (Int32 × gH)} (hz : ZB h) (H : fM_reach v1 v2 h = some x) : ZB x.2 := by
  unfold fM_reach at H
  obtain ⟨p1, e2, H⟩ := gbi H
  replace hz := fM_in_zb  hz e2
  by_cases q : p1.1 = (0 : Int32)
  · replace H := gift q H
    obtain rfl := Option.some.inj H
    exact hz
  · replace H := giff q H
    obtain ⟨p3, e4, H⟩ := gbi H
    replace hz := fM_in_zb  hz e4
    by_cases q : p3.1 = (0 : Int32)
    · replace H := gift q H
      obtain rfl := Option.some.inj H
      exact hz
    · replace H := giff q H
      exact fM_reach_30_zb  gfu _ _ _ _  hz H
theorem fM_isFound_71_zb {k32 : Int32 → Int32 → gH → Option (Int32 × gH)} {v1 : Int32} {v5 : Int32} {s0 : Int32} (hk32z : ∀ (u4 : Int32) (u5 : Int32) (h : gH) (x : (Int32 × gH)), ZB h → k32 u4 u5 h = some x → ZB x.2) {h : gH} {x : (Int32 × gH)} (hz : ZB h) (H : fM_isFound_71 k32 v1 v5 s0 h = some x) : ZB x.2 := by
  unfold fM_isFound_71 at H
  exact hk32z _ _ _ _  hz H
theorem fM_isFound_70_zb {k32 : Int32 → Int32 → gH → Option (Int32 × gH)} {v1 : Int32} {v5 : Int32} (hk32z : ∀ (u4 : Int32) (u5 : Int32) (h : gH) (x : (Int32 × gH)), ZB h → k32 u4 u5 h = some x → ZB x.2) {h : gH} {x : (Int32 × gH)} (hz : ZB h) (H : fM_isFound_70 k32 v1 v5  h = some x) : ZB x.2 := by
  unfold fM_isFound_70 at H
  exact fM_isFound_71_zb hk32z  hz H
theorem fM_isFound_32_zb {v1 : Int32}  : ∀ (n : Nat) (v4 : Int32) (v5 : Int32) (h : gH) (x : (Int32 × gH)), ZB h → fM_isFound_32 v1 n v4 v5 h = some x → ZB x.2 := by
  intro n
  induction n with
  | zero => intro v4 v5 h x  hz H; exact g0 H
  | succ n ih =>
    intro v4 v5 h x  hz H
    unfold fM_isFound_32 at H
    by_cases q : v5 < (8 : Int32)
    · replace H := gift q H
      by_cases q : v4 = (0 : Int32)
      · replace H := gift q H
        exact fM_isFound_70_zb ih  hz H
      · replace H := giff q H
        obtain ⟨b8, H⟩ := ggi H
        have b8 := gin_in b8
        obtain ⟨b9, H⟩ := ggi H
        have b9 := gin_in b9
        by_cases q : (h 87 v5.toNatClampNeg) = (h 106 (((40 : Int32) * v1) + v5).toNatClampNeg)
        · replace H := gift q H
          exact fM_isFound_71_zb ih  hz H
        · replace H := giff q H
          exact fM_isFound_70_zb ih  hz H
    · replace H := giff q H
      obtain ⟨b7, H⟩ := ggi H
      have b7 := gbo_or b7
      obtain rfl := Option.some.inj H
      exact hz
theorem fM_isFound_23_zb {v1 : Int32} {s0 : Int32}  {h : gH} {x : (Int32 × gH)} (hz : ZB h) (H : fM_isFound_23 v1 s0 h = some x) : ZB x.2 := by
  unfold fM_isFound_23 at H
  obtain ⟨h5, e6, H⟩ := gbi H
  replace hz := fM_laysBack2_zb  hz e6
  exact fM_isFound_32_zb  gfu _ _ _ _  hz H
theorem fM_isFound_zb {v1 : Int32} {v2 : Int32} {v3 : Int32} {h : gH} {x : (Int32 × gH)} (hz : ZB h) (H : fM_isFound v1 v2 v3 h = some x) : ZB x.2 := by
  unfold fM_isFound at H
  obtain ⟨h1, e2, H⟩ := gbi H
  replace hz := fM_laysAside2_zb  hz e2
  obtain ⟨p3, e4, H⟩ := gbi H
  replace hz := fM_searched_zb  hz e4
  by_cases q : p3.1 = (1 : Int32)
  · replace H := gift q H
    exact fM_isFound_23_zb  hz H
  · replace H := giff q H
    exact fM_isFound_23_zb  hz H
theorem fM_isSo_100_zb {v2 : Int32} {v4 : Int32} {v5 : Int32} {s0 : Int32}  {h : gH} {x : (Int32 × gH)} (hz : ZB h) (H : fM_isSo_100 v2 v4 v5 s0 h = some x) : ZB x.2 := by
  unfold fM_isSo_100 at H
  obtain ⟨p4, e5, H⟩ := gbi H
  replace hz := fM_isHolding_zb  hz e5
  obtain ⟨b6, H⟩ := ggi H
  have b6 := gbo_or b6
  obtain rfl := Option.some.inj H
  exact hz
theorem fM_isSo_69_zb {v1 : Int32} {v2 : Int32} {v3 : Int32} {v4 : Int32} {s0 : Int32}  {h : gH} {x : (Int32 × gH)} (hz : ZB h) (H : fM_isSo_69 v1 v2 v3 v4 s0 h = some x) : ZB x.2 := by
  unfold fM_isSo_69 at H
  by_cases q : (2 : Int32) < v3
  · replace H := gift q H
    obtain ⟨b7, H⟩ := ggi H
    have b7 := gin_in b7
    obtain ⟨p8, e9, H⟩ := gbi H
    replace hz := fM_variable_zb  hz e9
    obtain ⟨b10, H⟩ := ggi H
    have b10 := gin_in b10
    exact fM_isSo_100_zb  hz H
  · replace H := giff q H
    exact fM_isSo_100_zb  hz H
theorem fM_isSo_38_zb {v1 : Int32} {v2 : Int32} {v3 : Int32} {s0 : Int32}  {h : gH} {x : (Int32 × gH)} (hz : ZB h) (H : fM_isSo_38 v1 v2 v3 s0 h = some x) : ZB x.2 := by
  unfold fM_isSo_38 at H
  by_cases q : (1 : Int32) < v3
  · replace H := gift q H
    obtain ⟨b11, H⟩ := ggi H
    have b11 := gin_in b11
    obtain ⟨p12, e13, H⟩ := gbi H
    replace hz := fM_variable_zb  hz e13
    obtain ⟨b14, H⟩ := ggi H
    have b14 := gin_in b14
    exact fM_isSo_69_zb  hz H
  · replace H := giff q H
    exact fM_isSo_69_zb  hz H
theorem fM_isSo_zb {v1 : Int32} {v2 : Int32} {h : gH} {x : (Int32 × gH)} (hz : ZB h) (H : fM_isSo v1 v2 h = some x) : ZB x.2 := by
  unfold fM_isSo at H
  obtain ⟨b1, H⟩ := ggi H
  have b1 := gin_in b1
  obtain ⟨p2, e3, H⟩ := gbi H
  replace hz := fM_bitsOf_zb  hz e3
  by_cases q : (0 : Int32) < p2.1
  · replace H := gift q H
    obtain ⟨b15, H⟩ := ggi H
    have b15 := gin_in b15
    obtain ⟨p16, e17, H⟩ := gbi H
    replace hz := fM_variable_zb  hz e17
    obtain ⟨b18, H⟩ := ggi H
    have b18 := gin_in b18
    exact fM_isSo_38_zb  hz H
  · replace H := giff q H
    exact fM_isSo_38_zb  hz H
theorem fM_isSheet_zb {v0 : Int32} {h : gH} {x : (Int32 × gH)} (hz : ZB h) (H : fM_isSheet v0 h = some x) : ZB x.2 := by
  unfold fM_isSheet at H
  obtain ⟨p1, e2, H⟩ := gbi H
  replace hz := fM_in_zb  hz e2
  obtain ⟨b3, H⟩ := ggi H
  have b3 := gbo_or b3
  obtain rfl := Option.some.inj H
  exact hz
theorem fM_tells_183_zb {v1 : Int32} {v2 : Int32}  : ∀ (n : Nat) (v3 : Int32) (v4 : Int32) (h : gH) (x : (Int32 × gH)), ZB h → fM_tells_183 v1 v2 n v3 v4 h = some x → ZB x.2 := by
  intro n
  induction n with
  | zero => intro v3 v4 h x  hz H; exact g0 H
  | succ n ih =>
    intro v3 v4 h x  hz H
    unfold fM_tells_183 at H
    by_cases q : v4 < (8 : Int32)
    · replace H := gift q H
      by_cases q : v2 = (2 : Int32)
      · replace H := gift q H
        obtain ⟨b7, H⟩ := ggi H
        have b7 := gin_in b7
        obtain ⟨b8, H⟩ := ggi H
        have b8 := gin_in b8
        exact ih _ _ _ _  hz H
      · replace H := giff q H
        obtain rfl := Option.some.inj H
        exact hz
    · replace H := giff q H
      obtain rfl := Option.some.inj H
      exact hz
theorem fM_tells_180_zb {v1 : Int32} {v2 : Int32} {v3 : Int32}  {h : gH} {x : (Int32 × gH)} (hz : ZB h) (H : fM_tells_180 v1 v2 v3  h = some x) : ZB x.2 := by
  unfold fM_tells_180 at H
  exact fM_tells_183_zb  gfu _ _ _ _  hz H
theorem fM_tells_169_zb {k139 : Int32 → Int32 → gH → Option (Int32 × gH)} {v1 : Int32} {v2 : Int32} {v4 : Int32} {s0 : Int32} {s1 : Int32} (hk139z : ∀ (u3 : Int32) (u4 : Int32) (h : gH) (x : (Int32 × gH)), ZB h → k139 u3 u4 h = some x → ZB x.2) {h : gH} {x : (Int32 × gH)} (hz : ZB h) (H : fM_tells_169 k139 v1 v2 v4 s0 s1 h = some x) : ZB x.2 := by
  unfold fM_tells_169 at H
  exact hk139z _ _ _ _  hz H
theorem fM_tells_139_zb {v1 : Int32} {v2 : Int32}  : ∀ (n : Nat) (v3 : Int32) (v4 : Int32) (h : gH) (x : (Int32 × gH)), ZB h → fM_tells_139 v1 v2 n v3 v4 h = some x → ZB x.2 := by
  intro n
  induction n with
  | zero => intro v3 v4 h x  hz H; exact g0 H
  | succ n ih =>
    intro v3 v4 h x  hz H
    unfold fM_tells_139 at H
    by_cases q : v4 < (h 65 8)
    · replace H := gift q H
      by_cases q : v2 = (1 : Int32)
      · replace H := gift q H
        obtain ⟨p9, e10, H⟩ := gbi H
        replace hz := fM_isSo_zb  hz e10
        by_cases q : p9.1 = (0 : Int32)
        · replace H := gift q H
          exact fM_tells_169_zb ih  hz H
        · replace H := giff q H
          exact fM_tells_169_zb ih  hz H
      · replace H := giff q H
        exact fM_tells_180_zb  hz H
    · replace H := giff q H
      exact fM_tells_180_zb  hz H
theorem fM_tells_136_zb {v1 : Int32} {v2 : Int32} {v3 : Int32}  {h : gH} {x : (Int32 × gH)} (hz : ZB h) (H : fM_tells_136 v1 v2 v3  h = some x) : ZB x.2 := by
  unfold fM_tells_136 at H
  exact fM_tells_139_zb  gfu _ _ _ _  hz H
theorem fM_tells_125_zb {k92 : Int32 → Int32 → gH → Option (Int32 × gH)} {v1 : Int32} {v2 : Int32} {v4 : Int32} {s0 : Int32} {s1 : Int32} (hk92z : ∀ (u3 : Int32) (u4 : Int32) (h : gH) (x : (Int32 × gH)), ZB h → k92 u3 u4 h = some x → ZB x.2) {h : gH} {x : (Int32 × gH)} (hz : ZB h) (H : fM_tells_125 k92 v1 v2 v4 s0 s1 h = some x) : ZB x.2 := by
  unfold fM_tells_125 at H
  exact hk92z _ _ _ _  hz H
theorem fM_tells_92_zb {v1 : Int32} {v2 : Int32}  : ∀ (n : Nat) (v3 : Int32) (v4 : Int32) (h : gH) (x : (Int32 × gH)), ZB h → fM_tells_92 v1 v2 n v3 v4 h = some x → ZB x.2 := by
  intro n
  induction n with
  | zero => intro v3 v4 h x  hz H; exact g0 H
  | succ n ih =>
    intro v3 v4 h x  hz H
    unfold fM_tells_92 at H
    by_cases q : v4 < (12 : Int32)
    · replace H := gift q H
      by_cases q : v2 = (0 : Int32)
      · replace H := gift q H
        obtain ⟨p11, e12, H⟩ := gbi H
        replace hz := fM_isFound_zb  hz e12
        by_cases q : p11.1 = (0 : Int32)
        · replace H := gift q H
          exact fM_tells_125_zb ih  hz H
        · replace H := giff q H
          exact fM_tells_125_zb ih  hz H
      · replace H := giff q H
        exact fM_tells_136_zb  hz H
    · replace H := giff q H
      exact fM_tells_136_zb  hz H
theorem fM_tells_50_zb {v1 : Int32} {v2 : Int32}  : ∀ (n : Nat) (v3 : Int32) (h : gH) (x : (Int32 × gH)), ZB h → fM_tells_50 v1 v2 n v3 h = some x → ZB x.2 := by
  intro n
  induction n with
  | zero => intro v3 h x  hz H; exact g0 H
  | succ n ih =>
    intro v3 h x  hz H
    unfold fM_tells_50 at H
    by_cases q : v3 < (8 : Int32)
    · replace H := gift q H
      obtain ⟨b13, H⟩ := ggi H
      have b13 := gin_in b13
      obtain ⟨p14, e15, H⟩ := gbi H
      replace hz := fM_in_zb  hz e15
      by_cases q : p14.1 = (0 : Int32)
      · replace H := gift q H
        obtain rfl := Option.some.inj H
        exact hz
      · replace H := giff q H
        exact ih _ _ _  hz H
    · replace H := giff q H
      exact fM_tells_92_zb  gfu _ _ _ _  hz H
theorem fM_tells_zb {v1 : Int32} {v2 : Int32} {h : gH} {x : (Int32 × gH)} (hz : ZB h) (H : fM_tells v1 v2 h = some x) : ZB x.2 := by
  unfold fM_tells at H
  obtain ⟨p1, e2, H⟩ := gbi H
  replace hz := fM_isSheet_zb  hz e2
  by_cases q : p1.1 = (0 : Int32)
  · replace H := gift q H
    obtain rfl := Option.some.inj H
    exact hz
  · replace H := giff q H
    obtain ⟨p3, e4, H⟩ := gbi H
    replace hz := fM_in_zb  hz e4
    by_cases q : p3.1 = (0 : Int32)
    · replace H := gift q H
      obtain rfl := Option.some.inj H
      exact hz
    · replace H := giff q H
      obtain ⟨b5, H⟩ := ggi H
      have b5 := gin_in b5
      by_cases q : (p3.2 103 v1.toNatClampNeg) = (0 : Int32)
      · replace H := gift q H
        obtain rfl := Option.some.inj H
        exact hz
      · replace H := giff q H
        obtain ⟨b6, H⟩ := ggi H
        have b6 := gin_in b6
        by_cases q : (p3.2 105 v1.toNatClampNeg) = (8 : Int32)
        · replace H := gift q H
          exact fM_tells_50_zb  gfu _ _ _  hz H
        · replace H := giff q H
          obtain rfl := Option.some.inj H
          exact hz
theorem fM_sheet_77_zb {v1 : Int32} {v2 : Int32} {v3 : Int32}  : ∀ (n : Nat) (v4 : Int32) (h : gH) (x : (Int32 × gH)), ZB h → fM_sheet_77 v1 v2 v3 n v4 h = some x → ZB x.2 := by
  intro n
  induction n with
  | zero => intro v4 h x  hz H; exact g0 H
  | succ n ih =>
    intro v4 h x  hz H
    unfold fM_sheet_77 at H
    by_cases q : v4 < v3
    · replace H := gift q H
      by_cases q : v2 < (0 : Int32)
      · replace H := gift q H
        obtain rfl := Option.some.inj H
        exact hz
      · replace H := giff q H
        obtain ⟨b15, H⟩ := ggi H
        have b15 := gin_in b15
        obtain ⟨h16, e17, H⟩ := glei H
        replace hz := zb_e (zb_o hz (by decide)) e17
        exact ih _ _ _  hz H
    · replace H := giff q H
      obtain rfl := Option.some.inj H
      exact hz
theorem fM_sheet_59_zb {v1 : Int32} {v2 : Int32} {v3 : Int32} {s1 : Int32} {s2 : Int32}  {h : gH} {x : (Int32 × gH)} (hz : ZB h) (H : fM_sheet_59 v1 v2 v3 s1 s2 h = some x) : ZB x.2 := by
  unfold fM_sheet_59 at H
  obtain ⟨b5, H⟩ := ggi H
  have b5 := gin_in b5
  obtain ⟨b6, H⟩ := ggi H
  have b6 := gbo_or b6
  obtain ⟨h7, e8, H⟩ := glei H
  replace hz := zb_e (zb_z hz b6) e8
  obtain ⟨b9, H⟩ := ggi H
  have b9 := gin_in b9
  obtain ⟨h10, e11, H⟩ := glei H
  replace hz := zb_e (zb_o hz (by decide)) e11
  obtain ⟨b12, H⟩ := ggi H
  have b12 := gin_in b12
  obtain ⟨h13, e14, H⟩ := glei H
  replace hz := zb_e (zb_o hz (by decide)) e14
  exact fM_sheet_77_zb  gfu _ _ _  hz H
theorem fM_sheet_45_zb {v1 : Int32} {v2 : Int32} {v3 : Int32}  {h : gH} {x : (Int32 × gH)} (hz : ZB h) (H : fM_sheet_45 v1 v2 v3  h = some x) : ZB x.2 := by
  unfold fM_sheet_45 at H
  by_cases q : v2 < (0 : Int32)
  · replace H := gift q H
    exact fM_sheet_59_zb  hz H
  · replace H := giff q H
    exact fM_sheet_59_zb  hz H
theorem fM_sheet_34_zb {v1 : Int32} {v2 : Int32} {v3 : Int32}  {h : gH} {x : (Int32 × gH)} (hz : ZB h) (H : fM_sheet_34 v1 v2 v3  h = some x) : ZB x.2 := by
  unfold fM_sheet_34 at H
  by_cases q : v2 < (0 : Int32)
  · replace H := gift q H
    exact fM_sheet_45_zb  hz H
  · replace H := giff q H
    by_cases q : v3 < (0 : Int32)
    · replace H := gift q H
      obtain rfl := Option.some.inj H
      exact hz
    · replace H := giff q H
      exact fM_sheet_45_zb  hz H
theorem fM_sheet_zb {v1 : Int32} {v2 : Int32} {v3 : Int32} {h : gH} {x : (Int32 × gH)} (hz : ZB h) (H : fM_sheet v1 v2 v3 h = some x) : ZB x.2 := by
  unfold fM_sheet at H
  obtain ⟨p1, e2, H⟩ := gbi H
  replace hz := fM_isSheet_zb  hz e2
  by_cases q : p1.1 = (0 : Int32)
  · replace H := gift q H
    obtain rfl := Option.some.inj H
    exact hz
  · replace H := giff q H
    obtain ⟨p3, e4, H⟩ := gbi H
    replace hz := fM_in_zb  hz e4
    by_cases q : p3.1 = (0 : Int32)
    · replace H := gift q H
      obtain rfl := Option.some.inj H
      exact hz
    · replace H := giff q H
      by_cases q : v2 < (0 : Int32)
      · replace H := gift q H
        exact fM_sheet_34_zb  hz H
      · replace H := giff q H
        by_cases q : (40 : Int32) < v3
        · replace H := gift q H
          obtain rfl := Option.some.inj H
          exact hz
        · replace H := giff q H
          exact fM_sheet_34_zb  hz H
theorem fM_film_86_zb {v1 : Int32}  : ∀ (n : Nat) (v5 : Int32) (h : gH) (x : (Int32 × gH)), ZB h → fM_film_86 v1 n v5 h = some x → ZB x.2 := by
  intro n
  induction n with
  | zero => intro v5 h x  hz H; exact g0 H
  | succ n ih =>
    intro v5 h x  hz H
    unfold fM_film_86 at H
    by_cases q : v5 < (8 : Int32)
    · replace H := gift q H
      obtain ⟨b15, H⟩ := ggi H
      have b15 := gin_in b15
      obtain ⟨b16, H⟩ := ggi H
      have b16 := gin_in b16
      obtain ⟨h17, e18, H⟩ := glei H
      replace hz := zb_e (zb_o hz (by decide)) e18
      exact ih _ _ _  hz H
    · replace H := giff q H
      obtain rfl := Option.some.inj H
      exact hz
theorem fM_film_zb {v1 : Int32} {v2 : Int32} {v3 : Int32} {h : gH} {x : (Int32 × gH)} (hz : ZB h) (H : fM_film v1 v2 v3 h = some x) : ZB x.2 := by
  unfold fM_film at H
  obtain ⟨p1, e2, H⟩ := gbi H
  replace hz := fM_isSheet_zb  hz e2
  by_cases q : p1.1 = (0 : Int32)
  · replace H := gift q H
    obtain rfl := Option.some.inj H
    exact hz
  · replace H := giff q H
    obtain ⟨p3, e4, H⟩ := gbi H
    replace hz := fM_in_zb  hz e4
    by_cases q : p3.1 = (0 : Int32)
    · replace H := gift q H
      obtain rfl := Option.some.inj H
      exact hz
    · replace H := giff q H
      obtain ⟨p5, e6, H⟩ := gbi H
      replace hz := fM_in_zb  hz e6
      by_cases q : p5.1 = (0 : Int32)
      · replace H := gift q H
        obtain rfl := Option.some.inj H
        exact hz
      · replace H := giff q H
        obtain ⟨h7, e8, H⟩ := gbi H
        replace hz := fM_laysAside2_zb  hz e8
        obtain ⟨p9, e10, H⟩ := gbi H
        replace hz := fM_searched_zb  hz e10
        obtain ⟨h11, e12, H⟩ := gbi H
        replace hz := fM_laysBack2_zb  hz e12
        by_cases q : p9.1 = (1 : Int32)
        · replace H := gift q H
          obtain ⟨p13, e14, H⟩ := gbi H
          replace hz := fM_sheet_zb  hz e14
          exact fM_film_86_zb  gfu _ _ _  hz H
        · replace H := giff q H
          by_cases q : p9.1 = (-6 : Int32)
          · replace H := gift q H
            obtain rfl := Option.some.inj H
            exact hz
          · replace H := giff q H
            obtain rfl := Option.some.inj H
            exact hz
theorem fM_image_155_zb  : ∀ (n : Nat) (v1 : Int32) (h : gH) (x : (Int32 × gH)), ZB h → fM_image_155  n v1 h = some x → ZB x.2 := by
  intro n
  induction n with
  | zero => intro v1 h x  hz H; exact g0 H
  | succ n ih =>
    intro v1 h x  hz H
    unfold fM_image_155 at H
    by_cases q : v1 < (8 : Int32)
    · replace H := gift q H
      obtain ⟨b16, H⟩ := ggi H
      have b16 := gin_in b16
      obtain ⟨b17, H⟩ := ggi H
      have b17 := gin_in b17
      obtain ⟨h18, e19, H⟩ := glei H
      replace hz := zb_e (zb_o hz (by decide)) e19
      obtain ⟨b20, H⟩ := ggi H
      have b20 := gin_in b20
      obtain ⟨b21, H⟩ := ggi H
      have b21 := gin_in b21
      obtain ⟨h22, e23, H⟩ := glei H
      replace hz := zb_e (zb_o hz (by decide)) e23
      obtain ⟨b24, H⟩ := ggi H
      have b24 := gin_in b24
      obtain ⟨b25, H⟩ := ggi H
      have b25 := gin_in b25
      obtain ⟨h26, e27, H⟩ := glei H
      replace hz := zb_e (zb_o hz (by decide)) e27
      obtain ⟨b28, H⟩ := ggi H
      have b28 := gin_in b28
      obtain ⟨b29, H⟩ := ggi H
      have b29 := gin_in b29
      obtain ⟨h30, e31, H⟩ := glei H
      replace hz := zb_e (zb_o hz (by decide)) e31
      exact ih _ _ _  hz H
    · replace H := giff q H
      obtain ⟨b1, H⟩ := ggi H
      have b1 := gbo_or b1
      obtain ⟨h2, e3, H⟩ := glei H
      replace hz := zb_e (zb_z hz b1) e3
      obtain ⟨h4, e5, H⟩ := glei H
      replace hz := zb_e (zb_f hz (by decide)) e5
      obtain ⟨h6, e7, H⟩ := glei H
      replace hz := zb_e (zb_f hz (by decide)) e7
      obtain ⟨h8, e9, H⟩ := glei H
      replace hz := zb_e (zb_f hz (by decide)) e9
      obtain ⟨h10, e11, H⟩ := glei H
      replace hz := zb_e (zb_f hz (by decide)) e11
      obtain ⟨h12, e13, H⟩ := glei H
      replace hz := zb_e (zb_f hz (by decide)) e13
      obtain ⟨h14, e15, H⟩ := glei H
      replace hz := zb_e (zb_z hz (Or.inr rfl)) e15
      obtain rfl := Option.some.inj H
      exact hz
theorem fM_image_117_zb  : ∀ (n : Nat) (v1 : Int32) (h : gH) (x : (Int32 × gH)), ZB h → fM_image_117  n v1 h = some x → ZB x.2 := by
  intro n
  induction n with
  | zero => intro v1 h x  hz H; exact g0 H
  | succ n ih =>
    intro v1 h x  hz H
    unfold fM_image_117 at H
    by_cases q : v1 < (12 : Int32)
    · replace H := gift q H
      obtain ⟨b32, H⟩ := ggi H
      have b32 := gin_in b32
      obtain ⟨b33, H⟩ := ggi H
      have b33 := gin_in b33
      obtain ⟨h34, e35, H⟩ := glei H
      replace hz := zb_e (zb_o hz (by decide)) e35
      obtain ⟨b36, H⟩ := ggi H
      have b36 := gin_in b36
      obtain ⟨b37, H⟩ := ggi H
      have b37 := gin_in b37
      obtain ⟨h38, e39, H⟩ := glei H
      replace hz := zb_e (zb_o hz (by decide)) e39
      exact ih _ _ _  hz H
    · replace H := giff q H
      exact fM_image_155_zb  gfu _ _ _  hz H
theorem fM_image_79_zb  : ∀ (n : Nat) (v1 : Int32) (h : gH) (x : (Int32 × gH)), ZB h → fM_image_79  n v1 h = some x → ZB x.2 := by
  intro n
  induction n with
  | zero => intro v1 h x  hz H; exact g0 H
  | succ n ih =>
    intro v1 h x  hz H
    unfold fM_image_79 at H
    by_cases q : v1 < (80 : Int32)
    · replace H := gift q H
      obtain ⟨b40, H⟩ := ggi H
      have b40 := gin_in b40
      obtain ⟨b41, H⟩ := ggi H
      have b41 := gin_in b41
      obtain ⟨h42, e43, H⟩ := glei H
      replace hz := zb_e (zb_o hz (by decide)) e43
      obtain ⟨b44, H⟩ := ggi H
      have b44 := gin_in b44
      obtain ⟨b45, H⟩ := ggi H
      have b45 := gin_in b45
      obtain ⟨h46, e47, H⟩ := glei H
      replace hz := zb_e (zb_o hz (by decide)) e47
      exact ih _ _ _  hz H
    · replace H := giff q H
      exact fM_image_117_zb  gfu _ _ _  hz H
theorem fM_image_29_zb  : ∀ (n : Nat) (v1 : Int32) (h : gH) (x : (Int32 × gH)), ZB h → fM_image_29  n v1 h = some x → ZB x.2 := by
  intro n
  induction n with
  | zero => intro v1 h x  hz H; exact g0 H
  | succ n ih =>
    intro v1 h x  hz H
    unfold fM_image_29 at H
    by_cases q : v1 < (16 : Int32)
    · replace H := gift q H
      obtain ⟨b48, H⟩ := ggi H
      have b48 := gin_in b48
      obtain ⟨b49, H⟩ := ggi H
      have b49 := gin_in b49
      obtain ⟨h50, e51, H⟩ := glei H
      replace hz := zb_e (zb_o hz (by decide)) e51
      obtain ⟨b52, H⟩ := ggi H
      have b52 := gin_in b52
      obtain ⟨b53, H⟩ := ggi H
      have b53 := gin_in b53
      obtain ⟨h54, e55, H⟩ := glei H
      replace hz := zb_e (zb_o hz (by decide)) e55
      obtain ⟨b56, H⟩ := ggi H
      have b56 := gin_in b56
      obtain ⟨b57, H⟩ := ggi H
      have b57 := gin_in b57
      obtain ⟨b58, H⟩ := ggi H
      have b58 := gbo_or b58
      obtain ⟨h59, e60, H⟩ := glei H
      replace hz := zb_e (zb_z hz b58) e60
      exact ih _ _ _  hz H
    · replace H := giff q H
      exact fM_image_79_zb  gfu _ _ _  hz H
theorem fM_image_2_zb  : ∀ (n : Nat) (v1 : Int32) (h : gH) (x : (Int32 × gH)), ZB h → fM_image_2  n v1 h = some x → ZB x.2 := by
  intro n
  induction n with
  | zero => intro v1 h x  hz H; exact g0 H
  | succ n ih =>
    intro v1 h x  hz H
    unfold fM_image_2 at H
    by_cases q : v1 < (16000 : Int32)
    · replace H := gift q H
      obtain ⟨b61, H⟩ := ggi H
      have b61 := gin_in b61
      obtain ⟨b62, H⟩ := ggi H
      have b62 := gin_in b62
      obtain ⟨b63, H⟩ := ggi H
      have b63 := gbo_or b63
      obtain ⟨h64, e65, H⟩ := glei H
      replace hz := zb_e (zb_z hz b63) e65
      exact ih _ _ _  hz H
    · replace H := giff q H
      exact fM_image_29_zb  gfu _ _ _  hz H
theorem fM_image_zb {h : gH} {x : (Int32 × gH)} (hz : ZB h) (H : fM_image  h = some x) : ZB x.2 := by
  unfold fM_image at H
  exact fM_image_2_zb  gfu _ _ _  hz H
theorem fM_back_165_zb  : ∀ (n : Nat) (v1 : Int32) (h : gH) (x : (Int32 × gH)), ZB h → fM_back_165  n v1 h = some x → ZB x.2 := by
  intro n
  induction n with
  | zero => intro v1 h x  hz H; exact g0 H
  | succ n ih =>
    intro v1 h x  hz H
    unfold fM_back_165 at H
    by_cases q : v1 < (8 : Int32)
    · replace H := gift q H
      obtain ⟨b14, H⟩ := ggi H
      have b14 := gin_in b14
      obtain ⟨b15, H⟩ := ggi H
      have b15 := gin_in b15
      obtain ⟨h16, e17, H⟩ := glei H
      replace hz := zb_e (zb_o hz (by decide)) e17
      obtain ⟨b18, H⟩ := ggi H
      have b18 := gin_in b18
      obtain ⟨b19, H⟩ := ggi H
      have b19 := gin_in b19
      obtain ⟨h20, e21, H⟩ := glei H
      replace hz := zb_e (zb_o hz (by decide)) e21
      obtain ⟨b22, H⟩ := ggi H
      have b22 := gin_in b22
      obtain ⟨b23, H⟩ := ggi H
      have b23 := gin_in b23
      obtain ⟨h24, e25, H⟩ := glei H
      replace hz := zb_e (zb_o hz (by decide)) e25
      obtain ⟨b26, H⟩ := ggi H
      have b26 := gin_in b26
      obtain ⟨b27, H⟩ := ggi H
      have b27 := gin_in b27
      obtain ⟨h28, e29, H⟩ := glei H
      replace hz := zb_e (zb_o hz (by decide)) e29
      exact ih _ _ _  hz H
    · replace H := giff q H
      obtain ⟨b1, H⟩ := ggi H
      have b1 := gbo_or b1
      obtain ⟨h2, e3, H⟩ := glei H
      replace hz := zb_e (zb_z hz b1) e3
      obtain ⟨h4, e5, H⟩ := glei H
      replace hz := zb_e (zb_f hz (by decide)) e5
      obtain ⟨h6, e7, H⟩ := glei H
      replace hz := zb_e (zb_f hz (by decide)) e7
      obtain ⟨h8, e9, H⟩ := glei H
      replace hz := zb_e (zb_f hz (by decide)) e9
      obtain ⟨h10, e11, H⟩ := glei H
      replace hz := zb_e (zb_f hz (by decide)) e11
      obtain ⟨h12, e13, H⟩ := glei H
      replace hz := zb_e (zb_f hz (by decide)) e13
      obtain rfl := Option.some.inj H
      exact hz
theorem fM_back_127_zb  : ∀ (n : Nat) (v1 : Int32) (h : gH) (x : (Int32 × gH)), ZB h → fM_back_127  n v1 h = some x → ZB x.2 := by
  intro n
  induction n with
  | zero => intro v1 h x  hz H; exact g0 H
  | succ n ih =>
    intro v1 h x  hz H
    unfold fM_back_127 at H
    by_cases q : v1 < (12 : Int32)
    · replace H := gift q H
      obtain ⟨b30, H⟩ := ggi H
      have b30 := gin_in b30
      obtain ⟨b31, H⟩ := ggi H
      have b31 := gin_in b31
      obtain ⟨h32, e33, H⟩ := glei H
      replace hz := zb_e (zb_o hz (by decide)) e33
      obtain ⟨b34, H⟩ := ggi H
      have b34 := gin_in b34
      obtain ⟨b35, H⟩ := ggi H
      have b35 := gin_in b35
      obtain ⟨h36, e37, H⟩ := glei H
      replace hz := zb_e (zb_o hz (by decide)) e37
      exact ih _ _ _  hz H
    · replace H := giff q H
      exact fM_back_165_zb  gfu _ _ _  hz H
theorem fM_back_89_zb  : ∀ (n : Nat) (v1 : Int32) (h : gH) (x : (Int32 × gH)), ZB h → fM_back_89  n v1 h = some x → ZB x.2 := by
  intro n
  induction n with
  | zero => intro v1 h x  hz H; exact g0 H
  | succ n ih =>
    intro v1 h x  hz H
    unfold fM_back_89 at H
    by_cases q : v1 < (80 : Int32)
    · replace H := gift q H
      obtain ⟨b38, H⟩ := ggi H
      have b38 := gin_in b38
      obtain ⟨b39, H⟩ := ggi H
      have b39 := gin_in b39
      obtain ⟨h40, e41, H⟩ := glei H
      replace hz := zb_e (zb_o hz (by decide)) e41
      obtain ⟨b42, H⟩ := ggi H
      have b42 := gin_in b42
      obtain ⟨b43, H⟩ := ggi H
      have b43 := gin_in b43
      obtain ⟨h44, e45, H⟩ := glei H
      replace hz := zb_e (zb_o hz (by decide)) e45
      exact ih _ _ _  hz H
    · replace H := giff q H
      exact fM_back_127_zb  gfu _ _ _  hz H
theorem fM_back_39_zb  : ∀ (n : Nat) (v1 : Int32) (h : gH) (x : (Int32 × gH)), ZB h → fM_back_39  n v1 h = some x → ZB x.2 := by
  intro n
  induction n with
  | zero => intro v1 h x  hz H; exact g0 H
  | succ n ih =>
    intro v1 h x  hz H
    unfold fM_back_39 at H
    by_cases q : v1 < (16 : Int32)
    · replace H := gift q H
      obtain ⟨b46, H⟩ := ggi H
      have b46 := gin_in b46
      obtain ⟨b47, H⟩ := ggi H
      have b47 := gin_in b47
      obtain ⟨h48, e49, H⟩ := glei H
      replace hz := zb_e (zb_o hz (by decide)) e49
      obtain ⟨b50, H⟩ := ggi H
      have b50 := gin_in b50
      obtain ⟨b51, H⟩ := ggi H
      have b51 := gin_in b51
      obtain ⟨h52, e53, H⟩ := glei H
      replace hz := zb_e (zb_o hz (by decide)) e53
      obtain ⟨b54, H⟩ := ggi H
      have b54 := gin_in b54
      obtain ⟨b55, H⟩ := ggi H
      have b55 := gin_in b55
      obtain ⟨b56, H⟩ := ggi H
      have b56 := gbo_or b56
      obtain ⟨h57, e58, H⟩ := glei H
      replace hz := zb_e (zb_z hz b56) e58
      exact ih _ _ _  hz H
    · replace H := giff q H
      exact fM_back_89_zb  gfu _ _ _  hz H
theorem fM_back_12_zb  : ∀ (n : Nat) (v1 : Int32) (h : gH) (x : (Int32 × gH)), ZB h → fM_back_12  n v1 h = some x → ZB x.2 := by
  intro n
  induction n with
  | zero => intro v1 h x  hz H; exact g0 H
  | succ n ih =>
    intro v1 h x  hz H
    unfold fM_back_12 at H
    by_cases q : v1 < (16000 : Int32)
    · replace H := gift q H
      obtain ⟨b59, H⟩ := ggi H
      have b59 := gin_in b59
      obtain ⟨b60, H⟩ := ggi H
      have b60 := gin_in b60
      obtain ⟨b61, H⟩ := ggi H
      have b61 := gbo_or b61
      obtain ⟨h62, e63, H⟩ := glei H
      replace hz := zb_e (zb_z hz b61) e63
      exact ih _ _ _  hz H
    · replace H := giff q H
      exact fM_back_39_zb  gfu _ _ _  hz H
theorem fM_back_zb {h : gH} {x : (Int32 × gH)} (hz : ZB h) (H : fM_back  h = some x) : ZB x.2 := by
  unfold fM_back at H
  by_cases q : (h 65 76) = (0 : Int32)
  · replace H := gift q H
    obtain rfl := Option.some.inj H
    exact hz
  · replace H := giff q H
    exact fM_back_12_zb  gfu _ _ _  hz H
theorem fM_count_63_zb {v1 : Int32} {v2 : Int32}  {h : gH} {x : (Int32 × gH)} (hz : ZB h) (H : fM_count_63 v1 v2  h = some x) : ZB x.2 := by
  unfold fM_count_63 at H
  by_cases q : v1 = (6 : Int32)
  · replace H := gift q H
    obtain rfl := Option.some.inj H
    exact hz
  · replace H := giff q H
    obtain ⟨p3, e4, H⟩ := gbi H
    replace hz := fM_queued_zb  hz e4
    obtain rfl := Option.some.inj H
    exact hz
theorem fM_count_44_zb {k19 : Int32 → Int32 → gH → Option (Int32 × gH)} {v1 : Int32} {v3 : Int32} {s0 : Int32} {s1 : Int32} (hk19z : ∀ (u2 : Int32) (u3 : Int32) (h : gH) (x : (Int32 × gH)), ZB h → k19 u2 u3 h = some x → ZB x.2) {h : gH} {x : (Int32 × gH)} (hz : ZB h) (H : fM_count_44 k19 v1 v3 s0 s1 h = some x) : ZB x.2 := by
  unfold fM_count_44 at H
  exact hk19z _ _ _ _  hz H
theorem fM_count_19_zb {v1 : Int32}  : ∀ (n : Nat) (v2 : Int32) (v3 : Int32) (h : gH) (x : (Int32 × gH)), ZB h → fM_count_19 v1 n v2 v3 h = some x → ZB x.2 := by
  intro n
  induction n with
  | zero => intro v2 v3 h x  hz H; exact g0 H
  | succ n ih =>
    intro v2 v3 h x  hz H
    unfold fM_count_19 at H
    by_cases q : v3 < (8 : Int32)
    · replace H := gift q H
      obtain ⟨b5, H⟩ := ggi H
      have b5 := gin_in b5
      obtain ⟨p6, e7, H⟩ := gbi H
      replace hz := fM_bitsOf_zb  hz e7
      by_cases q : p6.1 = (1 : Int32)
      · replace H := gift q H
        exact fM_count_44_zb ih  hz H
      · replace H := giff q H
        exact fM_count_44_zb ih  hz H
    · replace H := giff q H
      by_cases q : v1 = (6 : Int32)
      · replace H := gift q H
        exact fM_count_63_zb  hz H
      · replace H := giff q H
        by_cases q : v1 = (4 : Int32)
        · replace H := gift q H
          exact fM_count_63_zb  hz H
        · replace H := giff q H
          by_cases q : v1 = (0 : Int32)
          · replace H := gift q H
            obtain rfl := Option.some.inj H
            exact hz
          · replace H := giff q H
            by_cases q : v1 = (1 : Int32)
            · replace H := gift q H
              obtain rfl := Option.some.inj H
              exact hz
            · replace H := giff q H
              by_cases q : v1 = (2 : Int32)
              · replace H := gift q H
                obtain rfl := Option.some.inj H
                exact hz
              · replace H := giff q H
                by_cases q : v1 = (3 : Int32)
                · replace H := gift q H
                  obtain rfl := Option.some.inj H
                  exact hz
                · replace H := giff q H
                  by_cases q : v1 = (5 : Int32)
                  · replace H := gift q H
                    obtain rfl := Option.some.inj H
                    exact hz
                  · replace H := giff q H
                    by_cases q : v1 = (7 : Int32)
                    · replace H := gift q H
                      obtain rfl := Option.some.inj H
                      exact hz
                    · replace H := giff q H
                      by_cases q : (h 65 2) = (0 : Int32)
                      · replace H := gift q H
                        obtain rfl := Option.some.inj H
                        exact hz
                      · replace H := giff q H
                        obtain rfl := Option.some.inj H
                        exact hz
theorem fM_count_zb {v1 : Int32} {h : gH} {x : (Int32 × gH)} (hz : ZB h) (H : fM_count v1 h = some x) : ZB x.2 := by
  unfold fM_count at H
  obtain ⟨p1, e2, H⟩ := gbi H
  replace hz := fM_in_zb  hz e2
  by_cases q : p1.1 = (0 : Int32)
  · replace H := gift q H
    obtain rfl := Option.some.inj H
    exact hz
  · replace H := giff q H
    exact fM_count_19_zb  gfu _ _ _ _  hz H
theorem fM_put_zb {v1 : Int32} {v2 : Int32} {v3 : Int32} {h : gH} {x : (Int32 × gH)} (hz : ZB h) (H : fM_put v1 v2 v3 h = some x) : ZB x.2 := by
  unfold fM_put at H
  obtain ⟨p1, e2, H⟩ := gbi H
  replace hz := fM_isSheet_zb  hz e2
  by_cases q : p1.1 = (0 : Int32)
  · replace H := gift q H
    obtain rfl := Option.some.inj H
    exact hz
  · replace H := giff q H
    obtain ⟨b3, H⟩ := ggi H
    have b3 := gin_in b3
    by_cases q : (p1.2 103 v1.toNatClampNeg) = (0 : Int32)
    · replace H := gift q H
      obtain rfl := Option.some.inj H
      exact hz
    · replace H := giff q H
      obtain ⟨b4, H⟩ := ggi H
      have b4 := gin_in b4
      obtain ⟨p5, e6, H⟩ := gbi H
      replace hz := fM_in_zb  hz e6
      by_cases q : p5.1 = (0 : Int32)
      · replace H := gift q H
        obtain rfl := Option.some.inj H
        exact hz
      · replace H := giff q H
        obtain ⟨b7, H⟩ := ggi H
        have b7 := gin_in b7
        by_cases q : (p5.2 104 v1.toNatClampNeg) = (0 : Int32)
        · replace H := gift q H
          obtain ⟨b15, H⟩ := ggi H
          have b15 := gin_in b15
          obtain ⟨h16, e17, H⟩ := glei H
          replace hz := zb_e (zb_o hz (by decide)) e17
          obtain rfl := Option.some.inj H
          exact hz
        · replace H := giff q H
          obtain ⟨b8, H⟩ := ggi H
          have b8 := gin_in b8
          by_cases q : (p5.2 104 v1.toNatClampNeg) = (1 : Int32)
          · replace H := gift q H
            obtain ⟨b12, H⟩ := ggi H
            have b12 := gin_in b12
            obtain ⟨h13, e14, H⟩ := glei H
            replace hz := zb_e (zb_o hz (by decide)) e14
            obtain rfl := Option.some.inj H
            exact hz
          · replace H := giff q H
            obtain ⟨b9, H⟩ := ggi H
            have b9 := gin_in b9
            obtain ⟨h10, e11, H⟩ := glei H
            replace hz := zb_e (zb_o hz (by decide)) e11
            obtain rfl := Option.some.inj H
            exact hz
theorem fM_item_zb {v1 : Int32} {v2 : Int32} {h : gH} {x : (Int32 × gH)} (hz : ZB h) (H : fM_item v1 v2 h = some x) : ZB x.2 := by
  unfold fM_item at H
  obtain ⟨p1, e2, H⟩ := gbi H
  replace hz := fM_isSheet_zb  hz e2
  by_cases q : p1.1 = (0 : Int32)
  · replace H := gift q H
    obtain rfl := Option.some.inj H
    exact hz
  · replace H := giff q H
    obtain ⟨b3, H⟩ := ggi H
    have b3 := gin_in b3
    by_cases q : (p1.2 103 v1.toNatClampNeg) = (0 : Int32)
    · replace H := gift q H
      obtain rfl := Option.some.inj H
      exact hz
    · replace H := giff q H
      obtain ⟨b4, H⟩ := ggi H
      have b4 := gin_in b4
      obtain ⟨p5, e6, H⟩ := gbi H
      replace hz := fM_in_zb  hz e6
      by_cases q : p5.1 = (0 : Int32)
      · replace H := gift q H
        obtain rfl := Option.some.inj H
        exact hz
      · replace H := giff q H
        obtain ⟨b7, H⟩ := ggi H
        have b7 := gin_in b7
        obtain rfl := Option.some.inj H
        exact hz
theorem fM_copy_145_zb {k121 : Int32 → gH → Option (Int32 × gH)} {v1 : Int32} {v2 : Int32} {v3 : Int32} {v4 : Int32} {v5 : Int32} {v6 : Int32} {v7 : Int32} {s0 : Int32} (hk121z : ∀ (u7 : Int32) (h : gH) (x : (Int32 × gH)), ZB h → k121 u7 h = some x → ZB x.2) {h : gH} {x : (Int32 × gH)} (hz : ZB h) (H : fM_copy_145 k121 v1 v2 v3 v4 v5 v6 v7 s0 h = some x) : ZB x.2 := by
  unfold fM_copy_145 at H
  obtain ⟨b11, H⟩ := ggi H
  have b11 := gin_in b11
  obtain ⟨b12, H⟩ := ggi H
  have b12 := gin_in b12
  obtain ⟨h13, e14, H⟩ := glei H
  replace hz := zb_e (zb_o hz (by decide)) e14
  exact hk121z _ _ _  hz H
theorem fM_copy_121_zb {v1 : Int32} {v2 : Int32} {v3 : Int32} {v4 : Int32} {v5 : Int32} {v6 : Int32}  : ∀ (n : Nat) (v7 : Int32) (h : gH) (x : (Int32 × gH)), ZB h → fM_copy_121 v1 v2 v3 v4 v5 v6 n v7 h = some x → ZB x.2 := by
  intro n
  induction n with
  | zero => intro v7 h x  hz H; exact g0 H
  | succ n ih =>
    intro v7 h x  hz H
    unfold fM_copy_121 at H
    by_cases q : v7 < v5
    · replace H := gift q H
      by_cases q : v6 = (0 : Int32)
      · replace H := gift q H
        exact fM_copy_145_zb ih  hz H
      · replace H := giff q H
        exact fM_copy_145_zb ih  hz H
    · replace H := giff q H
      obtain rfl := Option.some.inj H
      exact hz
theorem fM_copy_116_zb {v1 : Int32} {v2 : Int32} {v3 : Int32} {v4 : Int32} {v5 : Int32} {s0 : Int32}  {h : gH} {x : (Int32 × gH)} (hz : ZB h) (H : fM_copy_116 v1 v2 v3 v4 v5 s0 h = some x) : ZB x.2 := by
  unfold fM_copy_116 at H
  exact fM_copy_121_zb  gfu _ _ _  hz H
theorem fM_copy_115_zb {v1 : Int32} {v2 : Int32} {v3 : Int32} {v4 : Int32} {v5 : Int32}  {h : gH} {x : (Int32 × gH)} (hz : ZB h) (H : fM_copy_115 v1 v2 v3 v4 v5  h = some x) : ZB x.2 := by
  unfold fM_copy_115 at H
  exact fM_copy_116_zb  hz H
theorem fM_copy_zb {v1 : Int32} {v2 : Int32} {v3 : Int32} {v4 : Int32} {v5 : Int32} {h : gH} {x : (Int32 × gH)} (hz : ZB h) (H : fM_copy v1 v2 v3 v4 v5 h = some x) : ZB x.2 := by
  unfold fM_copy at H
  obtain ⟨p1, e2, H⟩ := gbi H
  replace hz := fM_isSheet_zb  hz e2
  by_cases q : p1.1 = (0 : Int32)
  · replace H := gift q H
    obtain rfl := Option.some.inj H
    exact hz
  · replace H := giff q H
    obtain ⟨p3, e4, H⟩ := gbi H
    replace hz := fM_isSheet_zb  hz e4
    by_cases q : p3.1 = (0 : Int32)
    · replace H := gift q H
      obtain rfl := Option.some.inj H
      exact hz
    · replace H := giff q H
      obtain ⟨b5, H⟩ := ggi H
      have b5 := gin_in b5
      by_cases q : (p3.2 103 v1.toNatClampNeg) = (0 : Int32)
      · replace H := gift q H
        obtain rfl := Option.some.inj H
        exact hz
      · replace H := giff q H
        obtain ⟨b6, H⟩ := ggi H
        have b6 := gin_in b6
        by_cases q : (p3.2 103 v3.toNatClampNeg) = (0 : Int32)
        · replace H := gift q H
          obtain rfl := Option.some.inj H
          exact hz
        · replace H := giff q H
          obtain ⟨b7, H⟩ := ggi H
          have b7 := gin_in b7
          obtain ⟨b8, H⟩ := ggi H
          have b8 := gin_in b8
          by_cases q : (p3.2 104 v1.toNatClampNeg) = (p3.2 104 v3.toNatClampNeg)
          · replace H := gift q H
            by_cases q : v5 < (0 : Int32)
            · replace H := gift q H
              obtain rfl := Option.some.inj H
              exact hz
            · replace H := giff q H
              by_cases q : v2 < (0 : Int32)
              · replace H := gift q H
                obtain rfl := Option.some.inj H
                exact hz
              · replace H := giff q H
                by_cases q : v4 < (0 : Int32)
                · replace H := gift q H
                  obtain rfl := Option.some.inj H
                  exact hz
                · replace H := giff q H
                  obtain ⟨b9, H⟩ := ggi H
                  have b9 := gin_in b9
                  by_cases q : ((p3.2 105 v1.toNatClampNeg) - v5) < v2
                  · replace H := gift q H
                    obtain rfl := Option.some.inj H
                    exact hz
                  · replace H := giff q H
                    obtain ⟨b10, H⟩ := ggi H
                    have b10 := gin_in b10
                    by_cases q : ((p3.2 105 v3.toNatClampNeg) - v5) < v4
                    · replace H := gift q H
                      obtain rfl := Option.some.inj H
                      exact hz
                    · replace H := giff q H
                      by_cases q : v1 = v3
                      · replace H := gift q H
                        by_cases q : v2 < v4
                        · replace H := gift q H
                          exact fM_copy_116_zb  hz H
                        · replace H := giff q H
                          exact fM_copy_115_zb  hz H
                      · replace H := giff q H
                        exact fM_copy_115_zb  hz H
          · replace H := giff q H
            obtain rfl := Option.some.inj H
            exact hz
theorem fM_load_149_zb {k75 : Int32 → Int32 → gH → Option (Int32 × gH)} {v1 : Int32} {v3 : Int32} {v4 : Int32} {v6 : Int32} {s0 : Int32} {s1 : Int32} (hk75z : ∀ (u5 : Int32) (u6 : Int32) (h : gH) (x : (Int32 × gH)), ZB h → k75 u5 u6 h = some x → ZB x.2) {h : gH} {x : (Int32 × gH)} (hz : ZB h) (H : fM_load_149 k75 v1 v3 v4 v6 s0 s1 h = some x) : ZB x.2 := by
  unfold fM_load_149 at H
  exact hk75z _ _ _ _  hz H
theorem fM_load_75_zb {v1 : Int32} {v3 : Int32} {v4 : Int32}  : ∀ (n : Nat) (v5 : Int32) (v6 : Int32) (h : gH) (x : (Int32 × gH)), ZB h → fM_load_75 v1 v3 v4 n v5 v6 h = some x → ZB x.2 := by
  intro n
  induction n with
  | zero => intro v5 v6 h x  hz H; exact g0 H
  | succ n ih =>
    intro v5 v6 h x  hz H
    unfold fM_load_75 at H
    by_cases q : v6 < v4
    · replace H := gift q H
      by_cases q : v3 < (0 : Int32)
      · replace H := gift q H
        obtain rfl := Option.some.inj H
        exact hz
      · replace H := giff q H
        obtain ⟨b9, H⟩ := ggi H
        have b9 := gin_in b9
        by_cases q : (((h 105 v1.toNatClampNeg) - ((2 : Int32) * v6)) - (2 : Int32)) < v3
        · replace H := gift q H
          obtain rfl := Option.some.inj H
          exact hz
        · replace H := giff q H
          obtain ⟨b10, H⟩ := ggi H
          have b10 := gin_in b10
          obtain ⟨b11, H⟩ := ggi H
          have b11 := gin_in b11
          obtain ⟨p12, e13, H⟩ := gbi H
          replace hz := fM_tell_zb  hz e13
          by_cases q : p12.1 < (0 : Int32)
          · replace H := gift q H
            exact fM_load_149_zb ih  hz H
          · replace H := giff q H
            exact fM_load_149_zb ih  hz H
    · replace H := giff q H
      obtain rfl := Option.some.inj H
      exact hz
theorem fM_load_57_zb {v1 : Int32} {v3 : Int32} {v4 : Int32}  {h : gH} {x : (Int32 × gH)} (hz : ZB h) (H : fM_load_57 v1 v3 v4  h = some x) : ZB x.2 := by
  unfold fM_load_57 at H
  obtain ⟨b8, H⟩ := ggi H
  have b8 := gin_in b8
  by_cases q : (h 103 v1.toNatClampNeg) = (0 : Int32)
  · replace H := gift q H
    obtain rfl := Option.some.inj H
    exact hz
  · replace H := giff q H
    exact fM_load_75_zb  gfu _ _ _ _  hz H
theorem fM_load_zb {v1 : Int32} {v2 : Int32} {v3 : Int32} {v4 : Int32} {h : gH} {x : (Int32 × gH)} (hz : ZB h) (H : fM_load v1 v2 v3 v4 h = some x) : ZB x.2 := by
  unfold fM_load at H
  obtain ⟨p1, e2, H⟩ := gbi H
  replace hz := fM_isSheet_zb  hz e2
  by_cases q : p1.1 = (0 : Int32)
  · replace H := gift q H
    obtain rfl := Option.some.inj H
    exact hz
  · replace H := giff q H
    obtain ⟨p3, e4, H⟩ := gbi H
    replace hz := fM_in_zb  hz e4
    by_cases q : p3.1 = (0 : Int32)
    · replace H := gift q H
      obtain rfl := Option.some.inj H
      exact hz
    · replace H := giff q H
      obtain ⟨p5, e6, H⟩ := gbi H
      replace hz := fM_in_zb  hz e6
      by_cases q : p5.1 = (0 : Int32)
      · replace H := gift q H
        obtain rfl := Option.some.inj H
        exact hz
      · replace H := giff q H
        obtain ⟨b7, H⟩ := ggi H
        have b7 := gin_in b7
        by_cases q : (p5.2 103 v1.toNatClampNeg) = (0 : Int32)
        · replace H := gift q H
          exact fM_load_57_zb  hz H
        · replace H := giff q H
          obtain ⟨b14, H⟩ := ggi H
          have b14 := gin_in b14
          by_cases q : (p5.2 104 v1.toNatClampNeg) = v2
          · replace H := gift q H
            exact fM_load_57_zb  hz H
          · replace H := giff q H
            obtain rfl := Option.some.inj H
            exact hz
