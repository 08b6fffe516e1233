abbrev gcl : List vw_C := [(RX0, TX0, 12), (RX1, TX1, 7), (RX2, TX2, 14), (RX3, TX3, 9), (RX4, TX4, 15), (RX5, TX5, 3), (RX6, TX6, 13), (RJ0, TJ0, 4), (RJ4, TJ4, 4)]
abbrev gS : Type := Nat × Nat × List (Option Nat)
def shL : List gS := [(9, 13, [some 1, some 10, some 17, some 22, some 28, some 33, some 38, some 44, some 49, some 55, some 64, none, none]), (6, 9, [some 2, some 3, some 4, some 5, some 6, some 7, some 8, some 9, none]), (0, 16, []), (0, 24, []), (0, 24, []), (0, 8, []), (0, 48, []), (0, 1600, []), (0, 64, []), (0, 9, []), (5, 14, [some 11, some 12, some 13, some 14, some 15, some 16, none, none, none, none, none, none, none, none]), (0, 90, []), (0, 91, []), (0, 91, []), (0, 91, []), (0, 90, []), (0, 90, []), (3, 12, [some 1, some 18, some 19, some 20, some 21, none, none, none, none, none, none, none]), (0, 9, []), (0, 9, []), (0, 80, []), (0, 80, []), (4, 7, [some 23, some 24, some 25, some 26, some 27, none, none]), (0, 12, []), (0, 12, []), (0, 8, []), (0, 8, []), (0, 8, []), (3, 12, [some 1, some 29, some 30, some 31, some 32, none, none, none, none, none, none, none]), (0, 9, []), (0, 9, []), (0, 80, []), (0, 80, []), (3, 12, [some 1, some 34, some 35, some 36, some 37, none, none, none, none, none, none, none]), (0, 9, []), (0, 9, []), (0, 80, []), (0, 80, []), (7, 15, [some 1, some 22, some 28, some 33, some 39, some 40, some 41, some 42, some 43, none, none, none, none, none, none]), (0, 8, []), (0, 8, []), (0, 8, []), (0, 8, []), (0, 8, []), (3, 12, [some 1, some 45, some 46, some 47, some 48, none, none, none, none, none, none, none]), (0, 9, []), (0, 9, []), (0, 80, []), (0, 80, []), (4, 7, [some 50, some 51, some 52, some 53, some 54, none, none]), (0, 12, []), (0, 12, []), (0, 8, []), (0, 8, []), (0, 8, []), (2, 4, [some 56, some 58, some 60, some 62]), (8, 3, [some 57, none, none]), (0, 40, []), (8, 3, [some 59, none, none]), (0, 40, []), (8, 3, [some 61, none, none]), (0, 40, []), (8, 3, [some 63, none, none]), (0, 40, []), (0, 9, [])]
abbrev gM : Nat := 65
theorem shL_len : shL.length = gM := by decide +kernel
def sh (o : Nat) : gS := shL.getD o (0, 0, [])
/-! words: those that a callee may be given, and the nest links -/
def gisN : Cond → Bool
  | .fieldLinkNest .. => true
  | .methodLinkNest .. => true
  | _ => false
def gW : List Cond := lw_tbl.filter goodWord
def gN : List Cond := lw_tbl.filter gisN
theorem gW_at (i : Nat) {w : Cond} (h : lw_tbl[i]? = some w) (g : goodWord w = true) : w ∈ gW := List.mem_filter.mpr ⟨List.mem_of_getElem? h, g⟩
theorem gN_at (i : Nat) {w : Cond} (h : lw_tbl[i]? = some w) (g : gisN w = true) : w ∈ gN := List.mem_filter.mpr ⟨List.mem_of_getElem? h, g⟩
theorem gW_good {w : Cond} (h : w ∈ gW) : (w.onTables && w.keeps) = true ∨ ∃ ty, w = .arrayClass ty := good_of_word (List.mem_filter.mp h).2
theorem gN_warm {z : Cond} (hz : z ∈ gN) {s U : State} (hW : s.WarmedH U.vm) (h : va_Nw z s) : va_Nw z U := by
  have hg := (List.mem_filter.mp hz).2
  cases z <;> first | (exact absurd hg (by decide)) | (exact va_Nw.warmF hW h) | (exact va_Nw.warmM hW h) | (simp [gisN] at hg)
theorem gN_same {z : Cond} (hz : z ∈ gN) {u U : State} (hv : u.vm = U.vm) (h : va_Nw z u) : va_Nw z U := by
  have hg := (List.mem_filter.mp hz).2
  cases z <;> first | (exact va_Nw.same rfl hv h) | (simp [gisN] at hg)
/-! the heap as numbers -/
abbrev gH : Type := Nat → Nat → Int32
def hu (h : gH) (o k : Nat) (v : Int32) : gH := fun a b => if a = o then (if b = k then v else h a b) else h a b
abbrev gw : Type := va_G × (ClassId × ClassId × ClassId) × (Nat → Nat)
def gcv (w : gw) : Value → Value := fun v => match v with
  | .ref o => .ref (w.2.2 o)
  | v => v
theorem gcv_cat (w : gw) (v : Value) : (gcv w v).category = v.category := by cases v <;> rfl
def gsl (w : gw) (f : Option Nat) (x : Int32) : Value := match f with
  | none => .int x
  | some o => .ref (w.2.2 o)
def gce (w : gw) (h : gH) (o : Nat) (q : gS) : va_E := match q.1 with
  | 0 => .inl (w.2.1.1, q.2.1, .inl (h o))
  | 1 => .inl (w.2.1.2.1, q.2.1, .inl (h o))
  | 2 => .inl (w.2.1.2.2, q.2.1, .inr (.inr (.inr (.inr (fun j => (q.2.2.getD j none).map w.2.2)))))
  | c + 3 => .inr (c, (List.range q.2.1).map (fun k => gsl w (q.2.2.getD k none) (h o k)))
def gws (w : gw) (h : gH) : va_W := (List.range gM).map (fun o => (w.2.2 o, gce w h o (sh o)))
def gK (o : Nat) (q : gS) : Prop := o < gM ∧ sh o = q
theorem gws_at (w : gw) (h : gH) {o : Nat} {q : gS} (k : gK o q) : (gws w h)[o]? = some (w.2.2 o, gce w h o q) := by
  obtain ⟨h1, rfl⟩ := k
  simp [gws, List.getElem?_map, List.getElem?_range h1]
theorem gws_len (w : gw) (h : gH) : (gws w h).length = gM := by simp [gws]
theorem gws_set (w : gw) {h h2 : gH} {o : Nat} {q : gS} {e : va_E} (k : gK o q) (he : gce w h2 o q = e) (ho : ∀ a, a ≠ o → h2 a = h a) : (gws w h).set o (w.2.2 o, e) = gws w h2 := by
  apply List.ext_getElem?
  intro i
  rw [List.getElem?_set]
  by_cases hi : o = i
  · subst hi
    rw [if_pos rfl, gws_len, if_pos k.1, gws_at w h2 k, he]
  · rw [if_neg hi]
    by_cases hm : i < gM
    · rw [gws_at w h ⟨hm, rfl⟩, gws_at w h2 ⟨hm, rfl⟩]
      have := ho i (fun e => hi e.symm)
      have h3 : gce w h i (sh i) = gce w h2 i (sh i) := by unfold gce; rw [this]
      rw [h3]
    · rw [List.getElem?_eq_none (by rw [gws_len]; omega), List.getElem?_eq_none (by rw [gws_len]; omega)]
def gD (w : gw) : Prop := ∀ i j : Nat, i < gM → j < gM → w.2.2 i = w.2.2 j → i = j
def gA (w : gw) : Nat → Prop := fun q => ∃ o, o < gM ∧ q = w.2.2 o
theorem gws_get {w : gw} {h : gH} {i : Nat} {p : Nat × va_E} (e : (gws w h)[i]? = some p) : i < gM ∧ p.1 = w.2.2 i := by
  have hl : i < gM := by have := (List.getElem?_eq_some_iff.mp e).1; rwa [gws_len] at this
  rw [gws_at w h ⟨hl, rfl⟩] at e
  exact ⟨hl, by rw [← Option.some.inj e]⟩
theorem gD_va {w : gw} {h : gH} (hd : gD w) : va_D (gA w) (gws w h) := by
  refine ⟨fun i j p q hp hq hpq => ?_, fun k q hq => ?_⟩
  · obtain ⟨h1, h2⟩ := gws_get hp
    obtain ⟨h3, h4⟩ := gws_get hq
    exact hd i j h1 h3 (by rw [← h2, ← h4, hpq])
  · obtain ⟨h1, h2⟩ := gws_get hq
    exact ⟨k, h1, h2⟩
def gty (w : gw) : List (ClassId × FieldType) := [(w.2.1.1, .int), (w.2.1.2.1, .byte), (w.2.1.2.2, .object RX5)]
/-- the two texts and the JDK's switch, as they stand since before the law began: texts 107, 108 with their rows 109, 110 -/
def gSb : List (List Int32) := [[100, 105, 115, 116, 105, 110, 99, 116], [40, 41, 58, 43, 45, 42, 60, 61, 62, 33]]
def gXt (w : gw) (U : State) (H : Heap) : Prop := vk_S 2 [8, 10] gSb (fun i => w.2.2 (107 + i)) (fun i => w.2.2 (109 + i)) (gA w) U H ∧ vk_R RX2 96 "distinct" (w.2.2 107) U ∧ vk_R RX2 89 "():+-*<=>!" (w.2.2 108) U ∧ va_Z "java/lang/String" "COMPACT_STRINGS" "Z" (.int 1) (gA w) U H ∧ (va_Z "jdk/internal/util/Preconditions" "SIOOBE_FORMATTER" "Ljava/util/function/BiFunction;" .null (gA w) U H ∨ va_Z "jdk/internal/util/Preconditions" "SIOOBE_FORMATTER" "Ljava/util/function/BiFunction;" (.ref (w.2.2 111)) (gA w) U H)
theorem gXt_moved {w : gw} {s U : State} {H H1 : Heap} (hW : s.WarmedH U.vm) (hq : ∀ a : Nat, a < H.size → ¬ gA w a → H1[a]? = H[a]?) (h : gXt w s H) : gXt w U H1 :=
  ⟨(h.1.moved hW.alike).kept hq, vk_R.warm hW h.2.1, vk_R.warm hW h.2.2.1, (h.2.2.2.1.moved hW.alike).kept hq, h.2.2.2.2.imp (fun z => (z.moved hW.alike).kept hq) (fun z => (z.moved hW.alike).kept hq)⟩
theorem gXt_same {w : gw} {u U : State} {H : Heap} (hv : U.vm = u.vm) (h : gXt w u H) : gXt w U H :=
  ⟨h.1.moved (by rw [hv]; exact Vm.Alike.refl _), vk_R.same hv h.2.1, vk_R.same hv h.2.2.1, h.2.2.2.1.moved (by rw [hv]; exact Vm.Alike.refl _), h.2.2.2.2.imp (fun z => z.moved (by rw [hv]; exact Vm.Alike.refl _)) (fun z => z.moved (by rw [hv]; exact Vm.Alike.refl _))⟩
def gX (own : String) (cc : ByteArray) (nL : Nat) (ret : Option FieldType) (p : Program) (s : State) (m : MethodId) (args : Array Value) (meth : Method) (c : Code) (w : gw) : Prop :=
  p.tables.exec = Jvm.exec ∧ c.code = cc ∧ meth.sig.returnType = ret ∧ c.maxLocals = nL ∧ s.vm.findClass own = some m.cls ∧ (∀ t ∈ gW, t.before args s = true) ∧ meth.locks = false ∧ va_K w.1 gcl (gty w) s ∧ (∀ z ∈ gN, va_Nw z s) ∧ gD w ∧ gXt w s s.heap
def gL (w : gw) (lsA : Array Slot) (nL : Nat) (ls : List Value) : Prop := lsA.size = nL ∧ lv_wf lsA ∧ ls.length = nL ∧ ∀ (i : Nat) (v : Value), ls[i]? = some v → v ≠ .null → lsA[i]? = some (.val (gcv w v))
def grm (d : Nat) : Room := { frames := d, cells := 0, slots := 0, locals := 64 * d }
def gPre (w : gw) (h : gH) : State → Prop := fun U => va_P w.1 gcl (gws w h) U.heap ∧ va_K w.1 gcl (gty w) U ∧ (∀ z ∈ gN, va_Nw z U) ∧ gXt w U U.heap
def gQ (w : gw) (r : Option Value) (h' : gH) : Array Value → State → Outcome → State → Prop := fun _ st oc t => (oc = .returned (r.map (gcv w)) ∧ gPre w h' t) ∧ va_F (gA w) st t
/-- a method's contract: called with these, it returns r, and the heap is h' -/
def gC (y : MethodName) (cc : ByteArray) (nL : Nat) (ret : Option FieldType) (d : Nat) (av : List Value) (h : gH) (r : Option Value) (h' : gH) : Prop :=
  ∀ (l : Launch) (w : gw), gD w → Met l y (Cond.code y cc nL ret :: gW) (grm d) (va_Pc (av.map (gcv w)) (gPre w h)) (gQ w r h') 0 0 (gA w)
/-- from here on the method returns r, and the heap is h' -/
def gR (own : String) (cc : ByteArray) (nL : Nat) (ret : Option FieldType) (d pc : Nat) (ls st : List Value) (h : gH) (r : Option Value) (h' : gH) : Prop :=
  ∀ (p : Program) (l : Launch) (e : Env) (s : State) (m : MethodId) (args : Array Value) (below : List Frame) (meth : Method) (c : Code) (H : Heap) (locs : List Loc) (w : gw) (lsA : Array Slot),
    gX own cc nL ret p s m args meth c w → va_P w.1 gcl (gws w h) H → va_S (gA w) s.heap H locs → gL w lsA nL ls →
    W p l e (grm d) s m args below meth c H locs 0 0 (MQ below (gQ w r h') args s 0 0 (gA w)) (F0 m pc lsA (st.map (gcv w)))
theorem gnc {v : Value} (x : Int32) (h : v = .int x) : v ≠ .null := by rw [h]; exact fun q => by cases q
def gasc (w : gw) (ls : List Value) : List (Nat × Value) := (List.range ls.length).filterMap (fun i => match ls.getD i .null with
  | .null => none
  | v => some (i, gcv w v))
theorem gasc_mem {w : gw} {ls : List Value} {i : Nat} {v : Value} (h : ls[i]? = some v) (hn : v ≠ .null) : (i, gcv w v) ∈ gasc w ls := by
  refine List.mem_filterMap.mpr ⟨i, List.mem_range.mpr (List.getElem?_eq_some_iff.mp h).1, ?_⟩
  rw [show ls.getD i .null = v by simp [List.getD, h]]
  cases v <;> first | rfl | exact absurd rfl hn
theorem gasc_of {w : gw} {ls : List Value} {q : Nat × Value} (h : q ∈ gasc w ls) : ∃ v, ls[q.1]? = some v ∧ v ≠ .null ∧ q.2 = gcv w v := by
  obtain ⟨i, hi, e⟩ := List.mem_filterMap.mp h
  have hl := List.mem_range.mp hi
  have h1 : ls[i]? = some (ls.getD i .null) := by simp [List.getD, List.getElem?_eq_getElem hl]
  revert e
  generalize ls.getD i .null = v at h1 ⊢
  intro e
  cases v with
  | null => cases e
  | int x => cases e; exact ⟨Value.int x, h1, (by intro q; cases q), rfl⟩
  | long x => cases e; exact ⟨Value.long x, h1, (by intro q; cases q), rfl⟩
  | float x => cases e; exact ⟨Value.float x, h1, (by intro q; cases q), rfl⟩
  | double x => cases e; exact ⟨Value.double x, h1, (by intro q; cases q), rfl⟩
  | ref x => cases e; exact ⟨Value.ref x, h1, (by intro q; cases q), rfl⟩
  | retAddr x => cases e; exact ⟨Value.retAddr x, h1, (by intro q; cases q), rfl⟩
theorem gL_has {w : gw} {lsA : Array Slot} {nL : Nat} {ls : List Value} (h : gL w lsA nL ls) : lv_has lsA nL (gasc w ls) := by
  refine ⟨h.1, h.2.1, fun q hq => ?_⟩
  obtain ⟨v, h1, h2, h3⟩ := gasc_of hq
  rw [h3]
  exact h.2.2.2 _ _ h1 h2
def gn2 (ls : List Value) : Bool := ls.all (fun v => v.category == 1)
theorem gL_set {w : gw} {lsA : Array Slot} {nL : Nat} {ls : List Value} {i : Nat} {v : Value} (hl : ls.length = nL) (hc : gn2 ls = true)
    (h : lv_has lsA nL ((i, gcv w v) :: (gasc w ls).filter (fun q => !(q.1 == i) && !(q.1 + 1 == i && q.2.category == 2)))) : gL w lsA nL (ls.set i v) := by
  refine ⟨h.1, h.2.1, by rw [List.length_set]; exact hl, fun j u hj hu => ?_⟩
  rw [List.getElem?_set] at hj
  by_cases hij : i = j
  · subst hij
    rw [if_pos rfl] at hj
    split at hj
    · cases hj
      exact h.2.2 (i, gcv w v) List.mem_cons_self
    · cases hj
  · rw [if_neg hij] at hj
    refine h.2.2 (j, gcv w u) (List.mem_cons_of_mem _ (List.mem_filter.mpr ⟨gasc_mem hj hu, ?_⟩))
    have h1 := List.all_eq_true.mp hc u (List.mem_of_getElem? hj)
    have h2 : u.category = 1 := by simpa using h1
    have h3 : ¬ j = i := fun q => hij q.symm
    simp [h3, gcv_cat, h2]
def gspl : Nat → List Value → List Value → Option (List Value × List Value)
  | 0, acc, st => some (acc, st)
  | n + 1, acc, v :: st => gspl n (v :: acc) st
  | _ + 1, _, [] => none
theorem gspl_eq : ∀ (n : Nat) (acc st a rest : List Value), gspl n acc st = some (a, rest) → ∃ pre : List Value, pre.length = n ∧ st = pre ++ rest ∧ a = pre.reverse ++ acc := by
  intro n
  induction n with
  | zero => intro acc st a rest h; cases h; exact ⟨[], rfl, rfl, rfl⟩
  | succ n ih =>
    intro acc st a rest h
    cases st with
    | nil => cases h
    | cons v st =>
      obtain ⟨pre, h1, h2, h3⟩ := ih (v :: acc) st a rest h
      exact ⟨v :: pre, by simp [h1], by rw [h2]; rfl, by rw [h3]; simp⟩
def gpu (r : Option Value) (rest : List Value) : List Value := match r with
  | none => rest
  | some v => v :: rest
theorem gpu_eq (r : Option Value) (rest : List Value) (w : gw) : (gpu r rest).map (gcv w) = (r.map (gcv w)).toList ++ rest.map (gcv w) := by cases r <;> rfl
def gcat (st : List Value) : Nat := (st.map Value.category).sum
theorem gcat_eq (w : gw) (st : List Value) : ((st.map (gcv w)).map fun v => v.category).sum = gcat st := by
  unfold gcat
  rw [List.map_map]
  congr 1
  apply List.map_congr_left
  intro v _
  exact gcv_cat w v

