def gfu : Nat := 10000000
def gdp : Nat := 40
def gg {α : Type} (c : Bool) (t : Option α) : Option α := if c = true then t else none
def glet {α β : Type} (a : α) (f : α → Option β) : Option β := f a
def gin (i : Int32) (n : Nat) : Bool := decide (¬ (i < 0 ∨ n ≤ i.toNatClampNeg))
def gbo (x : Int32) : Bool := decide (x = 0 ∨ x = 1)
def gcpo (sp dp n : Int32) (na nb : Nat) : Bool := decide (¬ sp < 0 ∧ ¬ dp < 0 ∧ ¬ n < 0 ∧ sp.toNatClampNeg + n.toNatClampNeg ≤ na ∧ dp.toNatClampNeg + n.toNatClampNeg ≤ nb)
theorem ggi {α : Type} {c : Bool} {t : Option α} {x : α} (h : gg c t = some x) : c = true ∧ t = some x := gif h
theorem gift {α : Type} {c : Prop} [Decidable c] {t e : Option α} {x : α} (q : c) (h : (if c then t else e) = some x) : t = some x := by rwa [if_pos q] at h
theorem giff {α : Type} {c : Prop} [Decidable c] {t e : Option α} {x : α} (q : ¬ c) (h : (if c then t else e) = some x) : e = some x := by rwa [if_neg q] at h
theorem gnif {α : Type} {c : Prop} [Decidable c] {e : Option α} {x : α} (h : (if c then none else e) = some x) : ¬ c ∧ e = some x := by
  by_cases q : c
  · rw [if_pos q] at h; cases h
  · exact ⟨q, by rwa [if_neg q] at h⟩
theorem glei {α β : Type} {a : α} {f : α → Option β} {x : β} (h : glet a f = some x) : ∃ b, a = b ∧ f b = some x := ⟨a, rfl, h⟩
theorem g0 {α : Type} {x : α} {c : Prop} (h : (none : Option α) = some x) : c := by cases h
theorem gin_in {i : Int32} {n : Nat} (h : gin i n = true) : vp_in i n := of_decide_eq_true (p := ¬ (i < 0 ∨ n ≤ i.toNatClampNeg)) h
theorem gbo_or {x : Int32} (h : gbo x = true) : x = 0 ∨ x = 1 := of_decide_eq_true h
theorem gcpo_ok {sp dp n : Int32} {na nb : Nat} (h : gcpo sp dp n na nb = true) : ¬ sp < 0 ∧ ¬ dp < 0 ∧ ¬ n < 0 ∧ sp.toNatClampNeg + n.toNatClampNeg ≤ na ∧ dp.toNatClampNeg + n.toNatClampNeg ≤ nb := of_decide_eq_true h
def gHall (o : Nat) : Prop := o = 17 ∨ o = 28 ∨ o = 33 ∨ o = 44
def gPast (o : Nat) : Prop := o = 22 ∨ o = 49
def gSheet (o : Nat) : Prop := o = 56 ∨ o = 58 ∨ o = 60 ∨ o = 62
theorem gH17 : gHall 17 := Or.inl rfl
theorem gH28 : gHall 28 := Or.inr (Or.inl rfl)
theorem gH33 : gHall 33 := Or.inr (Or.inr (Or.inl rfl))
theorem gH44 : gHall 44 := Or.inr (Or.inr (Or.inr rfl))
theorem gP22 : gPast 22 := Or.inl rfl
theorem gP49 : gPast 49 := Or.inr rfl
def gsh (i : Int32) : Nat := 56 + 2 * i.toNatClampNeg
theorem gsh_ok {i : Int32} (h : vp_in i 4) : gSheet (gsh i) ∧ ([some 56, some 58, some 60, some 62] : List (Option Nat)).getD i.toNatClampNeg none = some (gsh i) := by
  have h1 : i.toNatClampNeg < 4 := by
    by_cases q : i.toNatClampNeg < 4
    · exact q
    · exact absurd (Or.inr (by omega)) h
  unfold gsh gSheet
  generalize i.toNatClampNeg = k at h1 ⊢
  match k, h1 with
  | 0, _ => exact ⟨Or.inl rfl, rfl⟩
  | 1, _ => exact ⟨Or.inr (Or.inl rfl), rfl⟩
  | 2, _ => exact ⟨Or.inr (Or.inr (Or.inl rfl)), rfl⟩
  | 3, _ => exact ⟨Or.inr (Or.inr (Or.inr rfl)), rfl⟩
section
variable {own : String} {cc : ByteArray} {nL : Nat} {ret : Option FieldType} {d pc : Nat} {ls st : List Value} {h : gH} {r : Option Value} {h2 : gH}
theorem R_heq {h1 : gH} (e : h1 = h) (k : gR own cc nL ret d pc ls st h r h2) : gR own cc nL ret d pc ls st h1 r h2 := e ▸ k
theorem R_callVi {idx n d1 nL1 o ci N N1 : Nat} {T : u_T} {y : MethodName} {bytes : ByteArray} {ret1 : Option FieldType} {rl : List (Option Nat)} {as rest : List Value} {r1 : Int32} {h1 : gH} (hd : decode cc pc = .ok (.invokevirtual idx, 3)) (hk : gLV own idx y n) (hco : Cond.code y bytes nL1 ret1 ∈ gW) (hnL : nL1 ≤ 45) (hO : gK o (ci + 3, N, rl)) (hci : gcl[ci]? = some (y.cls, T, N1)) (hsp : gspl n [] st = some (as, .ref o :: rest)) (hcat : gcat rest ≤ 8) (hdd : d1 + 1 ≤ d) (hC : gC y bytes nL1 ret1 d1 (.ref o :: as) h (some (.int r1)) h1) (kk : gR own cc nL ret d (pc + 3) ls (.int r1 :: rest) h1 r h2) : gR own cc nL ret d pc ls st h r h2 := R_callV hd hk hco hnL hO hci hsp hcat hdd hC kk
theorem R_callVv {idx n d1 nL1 o ci N N1 : Nat} {T : u_T} {y : MethodName} {bytes : ByteArray} {ret1 : Option FieldType} {rl : List (Option Nat)} {as rest : List Value} {h1 : gH} (hd : decode cc pc = .ok (.invokevirtual idx, 3)) (hk : gLV own idx y n) (hco : Cond.code y bytes nL1 ret1 ∈ gW) (hnL : nL1 ≤ 45) (hO : gK o (ci + 3, N, rl)) (hci : gcl[ci]? = some (y.cls, T, N1)) (hsp : gspl n [] st = some (as, .ref o :: rest)) (hcat : gcat rest ≤ 8) (hdd : d1 + 1 ≤ d) (hC : gC y bytes nL1 ret1 d1 (.ref o :: as) h none h1) (kk : gR own cc nL ret d (pc + 3) ls rest h1 r h2) : gR own cc nL ret d pc ls st h r h2 := R_callV hd hk hco hnL hO hci hsp hcat hdd hC kk
theorem R_callSi {idx n d1 nL1 : Nat} {y : MethodName} {bytes : ByteArray} {ret1 : Option FieldType} {as rest : List Value} {r1 : Int32} {h1 : gH} (hd : decode cc pc = .ok (.invokestatic idx, 3)) (hk : gLS own idx y n) (hco : Cond.code y bytes nL1 ret1 ∈ gW) (hnL : nL1 ≤ 45) (hsp : gspl n [] st = some (as, rest)) (hcat : gcat rest ≤ 8) (hdd : d1 + 1 ≤ d) (hC : gC y bytes nL1 ret1 d1 as h (some (.int r1)) h1) (kk : gR own cc nL ret d (pc + 3) ls (.int r1 :: rest) h1 r h2) : gR own cc nL ret d pc ls st h r h2 := R_callS hd hk hco hnL hsp hcat hdd hC kk
end
theorem gW_ps {l : List Cond} (ps : List Nat) (h1 : l = ps.filterMap (fun i => lw_tbl[i]?)) (h2 : l.all goodWord = true) : ∀ t ∈ l, t ∈ gW := by
  intro t ht
  refine List.mem_filter.mpr ⟨?_, List.all_eq_true.mp h2 t ht⟩
  rw [h1] at ht
  obtain ⟨i, -, hi⟩ := List.mem_filterMap.mp ht
  exact List.mem_of_getElem? hi
