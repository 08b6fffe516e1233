/-! a text goes letter by letter to the class -/
def tPre (w : gw) (h : gH) (x : iO) (sz : Nat) (U : State) : Prop := iPre w.1 w.2.1 x (gws w h) sz U ∧ gXt w U U.heap
def tQ (w : gw) (S2 : qW) (v : Int32) (A : Nat → Prop) : Array Value → State → Outcome → State → Prop := fun _ st oc t => (∃ h1, oc = .returned (some (.int v)) ∧ AX h1 S2 ∧ va_P w.1 gcl (gws w h1) t.heap) ∧ va_F A st t
theorem tPre_blind (w : gw) (h : gH) (x : iO) (sz : Nat) (av : List Value) : FrameBlind (va_Pc av (tPre w h x sz)) := fun a U g mk q => ⟨q.1, (iPre_blind w.1 w.2.1 x (gws w h) sz av a U g mk ⟨q.1, q.2.1⟩).2, gXt_same (u := U) (U := U.calling g mk a) rfl q.2.2⟩
theorem sT_take {S : qW} {l : List Nat} {i : Nat} (h : i < l.length) : sT S (l.take (i + 1)) = (s_feed (sT S (l.take i)) (nI (l.getD i 0))).2 := by
  rw [List.take_succ_eq_append_getElem h]
  unfold sT
  rw [List.foldl_append, List.getD_eq_getElem?_getD, List.getElem?_eq_getElem h]
  rfl
theorem iv_RL_23 : gLV RL 23 yX6_feed 1 := ⟨⟨Or.inl (gW_at 662 (by decide +kernel) rfl), gW_at 62 (by decide +kernel) rfl, by decide +kernel⟩, gW_at 663 (by decide +kernel) rfl, gW_at 664 (by decide +kernel) rfl⟩
theorem iv_RL_29 : gLV RL 29 yX6_rule 0 := ⟨⟨Or.inl (gW_at 670 (by decide +kernel) rfl), gW_at 62 (by decide +kernel) rfl, by decide +kernel⟩, gW_at 671 (by decide +kernel) rfl, gW_at 672 (by decide +kernel) rfl⟩
theorem iv_RL_13 : gLV RL 13 yJ0_length_8abf5 0 := ⟨⟨Or.inl (gW_at 614 (by decide +kernel) rfl), gW_at 71 (by decide +kernel) rfl, by decide +kernel⟩, gW_at 615 (by decide +kernel) rfl, gW_at 616 (by decide +kernel) rfl⟩
theorem iv_RL_19 : gLV RL 19 yJ0_charAt_5068e 1 := ⟨⟨Or.inl (gW_at 624 (by decide +kernel) rfl), gW_at 71 (by decide +kernel) rfl, by decide +kernel⟩, gW_at 625 (by decide +kernel) rfl, gW_at 626 (by decide +kernel) rfl⟩
theorem i_text {w : gw} {d : Nat} {q : iT} {S : qW} {h : gH} {l : List Nat} (hgD : gD w) (HA : AX h S) (HW : WI S) (hq : q.2.2.1 = l.length) (hl : l.length < 90) (hb : ∀ i, i < l.length → l.getD i 0 < 128) (hqb : ∀ i, i < l.length → q.2.2.2 i = nI (l.getD i 0)) (L : Launch) (sz : Nat) : Met L yL_text (Cond.code yL_text cL_text 3 (some .int) :: gW) (zr 50 0 0) (va_Pc [.ref (w.2.2 0), .ref q.1] (tPre w h (d, [q], []) sz)) (tQ w (s_rule (sT S l) Ts0).2 (s_rule (sT S l) Ts0).1 (va_A (gws w h) sz)) 0 0 (va_A (gws w h) sz) := by
  refine Met.ofW (cc := cL_text) (maxL := 3) (ret := some .int) (by decide +kernel) rfl ?_
  intro p e s m args below meth c s₁ Bd hml hv
  obtain ⟨rfl, ⟨hsz, hP, hK, hZ, hD0, hE⟩, hG⟩ := hv
  have hts := atoms_spec (ws := Cond.code yL_text cL_text 3 (some .int) :: gW) Bd.pre
  subst hsz
  have X : zX "ValuesGoLaw" cL_text 3 p s m #[Value.ref (w.2.2 0), Value.ref q.1] meth c w.1 w.2.1 (d, [q], []) (va_A (gws w h) s.heap.size) := ⟨Bd.exec, Bd.bytes, hml, findClass_of_methodNamed Bd.named, fun t ht => hts t (List.mem_cons_of_mem _ ht), Bd.notSynchronized, hK, hZ, hE, fun q h => Or.inr h⟩
  have Y : zW w s (va_A (gws w h) s.heap.size) := ⟨hgD, hG, fun a ha z => by
    rcases z with ⟨k, e0, z⟩ | z
    · obtain ⟨z1, z2⟩ := gws_get z
      exact ⟨k, z1, z2⟩
    · omega, fun q0 z => by
    obtain ⟨o, z1, rfl⟩ := z
    exact Or.inl ⟨o, _, gws_at w h ⟨z1, rfl⟩⟩⟩
  have hlen : ∀ h1, (gws w h1).length = 65 := fun h1 => gws_len w h1
  have loop : ∀ (m0 i : Nat) (h1 : gH), i + m0 = l.length → AX h1 (sT S (l.take i)) → zJ p L e (zr 50 0 0) s m #[Value.ref (w.2.2 0), Value.ref q.1] below meth c (va_A (gws w h) s.heap.size) (MQ below (tQ w (s_rule (sT S l) Ts0).2 (s_rule (sT S l) Ts0).1 (va_A (gws w h) s.heap.size)) #[Value.ref (w.2.2 0), Value.ref q.1] s 0 0 (va_A (gws w h) s.heap.size)) w.1 3 2 [(2, .int (nI i)), (0, .ref (w.2.2 0)), (1, .ref q.1)] [] (gws w h1 ++ []) 0 0 := by
    intro m0
    induction m0 with
    | zero =>
      intro i h1 hi HI
      have ei : i = l.length := by omega
      have et : l.take i = l := List.take_of_length_le (by omega)
      rw [et] at HI
      refine Z_iload_n 0 X (gxd kL_text 2 rfl) rfl rfl ?_
      refine Z_aload_n 2 X (gxd kL_text 3 rfl) rfl rfl ?_
      refine Z_callE (q := q) (As := []) (rest := [.int (nI i)]) (W0 := gws w h1) (es := []) (wc := []) (wr := []) (a0 := 65) 0 [] [] X (gxd kL_text 4 rfl) iv_RL_13 iw_J0_length_8abf5 rfl rfl rfl rfl (Nat.le_of_ble_eq_true rfl) ⟨(Nat.le_of_ble_eq_true rfl), (Nat.le_of_ble_eq_true rfl)⟩ rfl rfl ⟨(Nat.le_of_ble_eq_true rfl), (Nat.le_of_ble_eq_true rfl)⟩ i_length (xsub_rf _) (hlen h1) ⟨rfl, rfl, by decide, by decide +kernel, by decide⟩ ?_
      rintro _ _ ⟨rfl, rfl⟩
      show zJ p L e _ s m #[Value.ref (w.2.2 0), Value.ref q.1] below meth c _ _ _ _ 7 _ [.int (nI q.2.2.1), .int (nI i)] (gws w h1 ++ []) 0 0
      refine Z_icmp_ge (tgt := 26) X (gxd kL_text 5 rfl) rfl (fun _ => ?_) (fun z => absurd z (by rw [hq, ei]; exact nI_nlt (Nat.le_refl _) (by omega)))
      refine Z_aload_n 1 X (gxd kL_text 14 rfl) rfl rfl ?_
      refine Z_rule (S := sT S l) X Y ⟨(Nat.le_of_ble_eq_true rfl), (Nat.le_of_ble_eq_true rfl)⟩ ⟨Nat.le_refl _, Nat.le_refl _⟩ HI (W_sT l S HW) (gxd kL_text 15 rfl) iv_RL_29 (by decide) (fun h2 H2 => ?_)
      refine zJ_nil ?_
      intro H locs lsA hP2 hD2 hS2 hL2
      have hlocks : meth.locks = false := Bd.notSynchronized
      exact W.iret Bd.exec Bd.bytes Bd.returns (fun t ht hW => ⟨⟨h2, rfl, H2, by rw [ht]; exact hP2⟩, hS2.F ht⟩) hS2.2.2 (gxd kL_text 16 rfl)
    | succ m0 ih =>
      intro i h1 hi HI
      have hil : i < l.length := by omega
      have hb1 := hb i hil
      refine Z_iload_n 0 X (gxd kL_text 2 rfl) rfl rfl ?_
      refine Z_aload_n 2 X (gxd kL_text 3 rfl) rfl rfl ?_
      refine Z_callE (q := q) (As := []) (rest := [.int (nI i)]) (W0 := gws w h1) (es := []) (wc := []) (wr := []) (a0 := 65) 0 [] [] X (gxd kL_text 4 rfl) iv_RL_13 iw_J0_length_8abf5 rfl rfl rfl rfl (Nat.le_of_ble_eq_true rfl) ⟨(Nat.le_of_ble_eq_true rfl), (Nat.le_of_ble_eq_true rfl)⟩ rfl rfl ⟨(Nat.le_of_ble_eq_true rfl), (Nat.le_of_ble_eq_true rfl)⟩ i_length (xsub_rf _) (hlen h1) ⟨rfl, rfl, by decide, by decide +kernel, by decide⟩ ?_
      rintro _ _ ⟨rfl, rfl⟩
      show zJ p L e _ s m #[Value.ref (w.2.2 0), Value.ref q.1] below meth c _ _ _ _ 7 _ [.int (nI q.2.2.1), .int (nI i)] (gws w h1 ++ []) 0 0
      refine Z_icmp_ge (tgt := 26) X (gxd kL_text 5 rfl) rfl (fun z => absurd (by rw [hq]; exact nI_lt hil (by omega)) z) (fun _ => ?_)
      refine Z_aload_n 1 X (gxd kL_text 6 rfl) rfl rfl ?_
      refine Z_aload_n 2 X (gxd kL_text 7 rfl) rfl rfl ?_
      refine Z_iload_n 0 X (gxd kL_text 8 rfl) rfl rfl ?_
      refine Z_callE (q := q) (As := [.int (nI i)]) (rest := [.ref (w.2.2 0)]) (W0 := gws w h1) (es := []) (wc := []) (wr := []) (a0 := 65) 0 [] [] X (gxd kL_text 9 rfl) iv_RL_19 wJ0_charAt_5068e rfl rfl rfl rfl (Nat.le_of_ble_eq_true rfl) ⟨(Nat.le_of_ble_eq_true rfl), (Nat.le_of_ble_eq_true rfl)⟩ rfl rfl ⟨(Nat.le_of_ble_eq_true rfl), (Nat.le_of_ble_eq_true rfl)⟩ (i_charAt (by omega) (by omega) (hqb i hil) hb1) (xsub_rf _) (hlen h1) ⟨rfl, rfl, by decide, by decide +kernel, by decide⟩ ?_
      rintro _ _ ⟨rfl, rfl⟩
      show zJ p L e _ s m #[Value.ref (w.2.2 0), Value.ref q.1] below meth c _ _ _ _ 16 _ [.int (nI (l.getD i 0)), .ref (w.2.2 0)] (gws w h1 ++ []) 0 0
      refine Z_feed (S := sT S (l.take i)) X Y ⟨(Nat.le_of_ble_eq_true rfl), (Nat.le_of_ble_eq_true rfl)⟩ ⟨Nat.le_refl _, Nat.le_refl _⟩ HI (W_sT _ S HW) (gxd kL_text 10 rfl) iv_RL_23 (by decide) (fun h2 H2 => ?_)
      refine Z_pop X (gxd kL_text 11 rfl) rfl ?_
      refine Z_iinc 0 (v := nI (i + 1)) (la2 := [(2, .int (nI (i + 1))), (0, .ref (w.2.2 0)), (1, .ref q.1)]) X (gxd kL_text 12 rfl) rfl (nI_add i 1) (by decide) rfl ?_
      refine Z_goto (tgt := 2) X (gxd kL_text 13 rfl) rfl ?_
      exact ih (i + 1) h2 (by omega) (by rw [sT_take hil]; exact H2)
  rw [lg_entry_eq]
  have st : zJ p L e (zr 50 0 0) s m #[Value.ref (w.2.2 0), Value.ref q.1] below meth c (va_A (gws w h) s.heap.size) (MQ below (tQ w (s_rule (sT S l) Ts0).2 (s_rule (sT S l) Ts0).1 (va_A (gws w h) s.heap.size)) #[Value.ref (w.2.2 0), Value.ref q.1] s 0 0 (va_A (gws w h) s.heap.size)) w.1 3 0 (lv_args 0 [.ref (w.2.2 0), .ref q.1]) [] (gws w h ++ []) 0 0 := by
    refine Z_iconst (v := 0) X (gxd kL_text 0 rfl) (by decide) ?_
    refine Z_istore_n (la2 := [(2, .int 0), (0, .ref (w.2.2 0)), (1, .ref q.1)]) X (gxd kL_text 1 rfl) rfl (by decide) rfl ?_
    exact loop l.length 0 h (Nat.zero_add _) HA
  exact zJ_nil2 st s.heap [] _ hP hD0.self va_S.rf (lv_entry [.ref (w.2.2 0), .ref q.1] (n := 3) (Nat.le_of_ble_eq_true rfl))
