/-! calls of the class's own methods, from a frame that grows -/
def zW (w : gw) (s : State) (A : Nat → Prop) : Prop := gD w ∧ gXt w s s.heap ∧ (∀ a, a < s.heap.size → A a → gA w a) ∧ ∀ q, gA w q → A q
section
variable {own : String} {cc : ByteArray} {nL : Nat} {p : Program} {l : Launch} {e : Env} {R : Room} {s : State} {m : MethodId} {args : Array Value} {below : List Frame} {meth : Method} {c : Code} {A : Nat → Prop} {Q : State → Prop} {w : gw} {x : iO} {pc : Nat} {la : List (Nat × Value)} {st : List Value} {k n : Nat}
theorem zJ_nil {D : va_G} {ws : va_W} (h : zJ p l e R s m args below meth c A Q D nL pc la st ws k n) : zJ p l e R s m args below meth c A Q D nL pc la st (ws ++ []) k n := by rw [List.append_nil]; exact h
theorem zJ_nil2 {D : va_G} {ws : va_W} (h : zJ p l e R s m args below meth c A Q D nL pc la st (ws ++ []) k n) : zJ p l e R s m args below meth c A Q D nL pc la st ws k n := by rw [List.append_nil] at h; exact h
theorem zJ_drop {D : va_G} {W0 es : va_W} {a : Nat} (ha : W0.length = a) (hn : va_nd (List.range a) = true) (h : zJ p l e R s m args below meth c A Q D nL pc la st (W0 ++ []) k n) : zJ p l e R s m args below meth c A Q D nL pc la st (W0 ++ es) k n := by
  intro H locs lsA hP hD hS hL
  have hz := zpre (es := es) ha
  rw [List.append_nil] at h
  exact h H locs lsA (hP.sub _ (fm_of hz)) (hD.sub _ hn hz) hS hL
theorem Z_gC {idx na d1 nL1 o ci N N1 : Nat} {T : u_T} {y : MethodName} {bytes : ByteArray} {ret1 : Option FieldType} {rl : List (Option Nat)} {as rest : List Value} {r1 : Option Value} {h h1 : gH} (X : zX own cc nL p s m args meth c w.1 w.2.1 x A) (Y : zW w s A) (hR : 45 ≤ R.frames ∧ 3000 ≤ R.locals) (hkn : k ≤ R.cells ∧ n ≤ R.slots) (hd : decode cc pc = .ok (.invokevirtual idx, 3)) (hk : gLV own idx y na) (hco : Cond.code y bytes nL1 ret1 ∈ gW) (hnL : nL1 ≤ 45) (hO : gK o (ci + 3, N, rl)) (hci : gcl[ci]? = some (y.cls, T, N1)) (hn : as.length = na) (hcat : (rest.map fun v => v.category).sum ≤ 8) (hdd : d1 ≤ 44) (hC : gC y bytes nL1 ret1 d1 (.ref o :: as) h r1 h1) (kk : zJ p l e R s m args below meth c A Q w.1 nL (pc + 3) la ((r1.map (gcv w)).toList ++ rest) (gws w h1 ++ []) k n) : zJ p l e R s m args below meth c A Q w.1 nL pc la ((as.map (gcv w)).reverse ++ .ref (w.2.2 o) :: rest) (gws w h ++ []) k n := by
  rw [List.append_nil] at kk ⊢
  intro H locs lsA hP hD hS hL
  obtain ⟨y1, y2, y3, y4⟩ := Y
  have he : (gws w h)[o]? = some (w.2.2 o, .inr (ci, (List.range N).map (fun k => gsl w (rl.getD k none) (h o k)))) := gws_at w h hO
  have hrec := va_recv (s := s) X.2.2.2.2.2.2.1 hP hci he
  have hgp : ∀ U : State, U.heap = H → s.WarmedH U.vm → gPre w h U := fun U hU hW => ⟨by rw [hU]; exact hP, va_K.moved hW.alike X.2.2.2.2.2.2.1, fun z hz => gN_warm hz hW (X.2.2.2.2.2.2.2.1 z (List.mem_append_left _ hz)), gXt_moved hW (fun a ha hna => by rw [hU]; exact hS.2.1 a ha (fun z => hna (y3 a ha z))) y2⟩
  have hpv : PreV s H y.cls (w.2.2 o) (va_Pc ((Value.ref o :: as).map (gcv w)) (gPre w h)) (as.map (gcv w)) := ⟨gPre_blind w h _, hrec, fun U hU hW => ⟨rfl, hgp U hU hW⟩⟩
  have hroom : (grm d1).frames + 1 ≤ R.frames ∧ 8 + (nL1 + 11) + (grm d1).locals ≤ R.locals := by
    refine ⟨?_, ?_⟩
    · show d1 + 1 ≤ R.frames
      omega
    · show 8 + (nL1 + 11) + 64 * d1 ≤ R.locals
      omega
  have hn2 : (as.map (gcv w)).length = na := by rw [List.length_map]; exact hn
  have hrun : va_Run p l e R s m args below meth c H locs k n 0 0 (F0 m pc lsA ((as.map (gcv w)).reverse ++ .ref (w.2.2 o) :: rest)) rest (gQ w r1 h1 (Value.ref (w.2.2 o) :: as.map (gcv w)).toArray) (gA w) := by
    rcases zLink X hk.1 with hl | ⟨host, hl⟩
    · exact va_runV (zFix X) (hC l w y1) ⟨callB_of na X.2.2.2.2.1 (gGood hco) rfl rfl rfl (X.2.2.2.2.1 _ hk.1.2.1) hl hk.1.2.2 hroom, X.2.2.2.2.1 _ hk.2.1, X.2.2.2.2.1 _ hk.2.2⟩ hpv rfl hn2 hL.1 rfl (lv_room hcat) hd hkn
    · exact va_runVN (zFix X) (hC l w y1) ⟨va_cnB na X.2.2.2.2.1 (gGood hco) rfl rfl rfl hl (X.2.2.2.2.1 _ hk.1.2.1) hk.1.2.2 hroom, X.2.2.2.2.1 _ hk.2.1, X.2.2.2.2.1 _ hk.2.2⟩ hpv rfl hn2 hL.1 rfl (lv_room hcat) hd hkn
  intro T0 hT XX
  obtain ⟨v, st₀, t, T', L, h0, X', hLs, e1, e2, ⟨⟨hv, hp⟩, hz, hk3⟩, st⟩ := hrun T0 hT XX
  cases hv
  rw [h0] at hz hk3
  obtain ⟨t2, a1, b1⟩ := kk T'.heap (locs ++ L) lsA (by rw [e1]; exact hp.1) ((gD_va y1).weaken (fun _ q _ hq => y4 _ hq))
    ⟨Nat.le_trans hS.1 (by rw [e1]; exact hz), fun q g1 g2 => by rw [e1, hk3 q (Nat.lt_of_lt_of_le g1 hS.1) (fun z => g2 (y4 q z))]; exact hS.2.1 q g1 g2, fun q hq => by
      rcases List.mem_append.mp hq with g | g
      · exact hS.2.2 q g
      · exact y4 _ (hLs q g)⟩ hL T' rfl X'
  exact ⟨t2, st t2 a1, b1⟩
theorem Z_feed {idx : Nat} {v1 : Int32} {rest : List Value} {S : qW} {h : gH} (X : zX own cc nL p s m args meth c w.1 w.2.1 x A) (Y : zW w s A) (hR : 45 ≤ R.frames ∧ 3000 ≤ R.locals) (hkn : k ≤ R.cells ∧ n ≤ R.slots) (HA : AX h S) (HW : WI S) (hd : decode cc pc = .ok (.invokevirtual idx, 3)) (hk : gLV own idx yX6_feed 1) (hcat : (rest.map fun v => v.category).sum ≤ 8) (kk : ∀ h1, AX h1 (s_feed S v1).2 → zJ p l e R s m args below meth c A Q w.1 nL (pc + 3) la (.int ((s_feed S v1).1) :: rest) (gws w h1 ++ []) k n) : zJ p l e R s m args below meth c A Q w.1 nL pc la (.int v1 :: .ref (w.2.2 0) :: rest) (gws w h ++ []) k n := by
  obtain ⟨r, e1, e2, e3⟩ := X_feed HA HW v1
  refine Z_gC (o := 0) (ci := 6) (T := TX6) (N1 := 13) (as := [.int v1]) (r1 := some (.int r.1)) (h1 := r.2) X Y hR hkn hd hk wX6_feed (by decide) gk_0 rfl rfl hcat (by decide) (fX_feed_ok e1 0) ?_
  rw [e2]
  exact kk r.2 e3
theorem Z_rule {idx : Nat} {rest : List Value} {S : qW} {h : gH} (X : zX own cc nL p s m args meth c w.1 w.2.1 x A) (Y : zW w s A) (hR : 45 ≤ R.frames ∧ 3000 ≤ R.locals) (hkn : k ≤ R.cells ∧ n ≤ R.slots) (HA : AX h S) (HW : WI S) (hd : decode cc pc = .ok (.invokevirtual idx, 3)) (hk : gLV own idx yX6_rule 0) (hcat : (rest.map fun v => v.category).sum ≤ 8) (kk : ∀ h1, AX h1 (s_rule S Ts0).2 → zJ p l e R s m args below meth c A Q w.1 nL (pc + 3) la (.int ((s_rule S Ts0).1) :: rest) (gws w h1 ++ []) k n) : zJ p l e R s m args below meth c A Q w.1 nL pc la (.ref (w.2.2 0) :: rest) (gws w h ++ []) k n := by
  obtain ⟨r, e1, e2, e3⟩ := X_rule HA HW Ts0
  refine Z_gC (o := 0) (ci := 6) (T := TX6) (N1 := 13) (as := []) (r1 := some (.int r.1)) (h1 := r.2) X Y hR hkn hd hk wX6_rule (by decide) gk_0 rfl rfl hcat (by decide) (fX_rule_ok e1 0) ?_
  rw [e2]
  exact kk r.2 e3
theorem Z_tell {idx : Nat} {v1 v2 : Int32} {rest : List Value} {S : qW} {h : gH} (X : zX own cc nL p s m args meth c w.1 w.2.1 x A) (Y : zW w s A) (hR : 45 ≤ R.frames ∧ 3000 ≤ R.locals) (hkn : k ≤ R.cells ∧ n ≤ R.slots) (HA : AX h S) (HW : WI S) (hd : decode cc pc = .ok (.invokevirtual idx, 3)) (hk : gLV own idx yX6_tell 2) (hcat : (rest.map fun v => v.category).sum ≤ 8) (kk : ∀ h1, AX h1 (s_tell S v1 v2).2 → zJ p l e R s m args below meth c A Q w.1 nL (pc + 3) la (.int ((s_tell S v1 v2).1) :: rest) (gws w h1 ++ []) k n) : zJ p l e R s m args below meth c A Q w.1 nL pc la (.int v2 :: .int v1 :: .ref (w.2.2 0) :: rest) (gws w h ++ []) k n := by
  obtain ⟨r, e1, e2, e3⟩ := X_tell HA HW v1 v2
  refine Z_gC (o := 0) (ci := 6) (T := TX6) (N1 := 13) (as := [.int v1, .int v2]) (r1 := some (.int r.1)) (h1 := r.2) X Y hR hkn hd hk wX6_tell (by decide) gk_0 rfl rfl hcat (by decide) (fX_tell_ok e1 0) ?_
  rw [e2]
  exact kk r.2 e3
theorem Z_run {idx : Nat} {rest : List Value} {S : qW} {h : gH} (X : zX own cc nL p s m args meth c w.1 w.2.1 x A) (Y : zW w s A) (hR : 45 ≤ R.frames ∧ 3000 ≤ R.locals) (hkn : k ≤ R.cells ∧ n ≤ R.slots) (HA : AX h S) (HW : WI S) (hd : decode cc pc = .ok (.invokevirtual idx, 3)) (hk : gLV own idx yX6_run 0) (hcat : (rest.map fun v => v.category).sum ≤ 8) (kk : ∀ h1, AX h1 (s_run S ).2 → zJ p l e R s m args below meth c A Q w.1 nL (pc + 3) la (.int ((s_run S ).1) :: rest) (gws w h1 ++ []) k n) : zJ p l e R s m args below meth c A Q w.1 nL pc la (.ref (w.2.2 0) :: rest) (gws w h ++ []) k n := by
  obtain ⟨r, e1, e2, e3⟩ := X_run HA HW 
  refine Z_gC (o := 0) (ci := 6) (T := TX6) (N1 := 13) (as := []) (r1 := some (.int r.1)) (h1 := r.2) X Y hR hkn hd hk wX6_run (by decide) gk_0 rfl rfl hcat (by decide) (fX_run_ok e1 0) ?_
  rw [e2]
  exact kk r.2 e3
theorem Z_level {idx : Nat} {rest : List Value} {S : qW} {h : gH} (X : zX own cc nL p s m args meth c w.1 w.2.1 x A) (Y : zW w s A) (hR : 45 ≤ R.frames ∧ 3000 ≤ R.locals) (hkn : k ≤ R.cells ∧ n ≤ R.slots) (HA : AX h S) (HW : WI S) (hd : decode cc pc = .ok (.invokevirtual idx, 3)) (hk : gLV own idx yX6_level 0) (hcat : (rest.map fun v => v.category).sum ≤ 8) (kk : ∀ h1, AX h1 (s_level S ).2 → zJ p l e R s m args below meth c A Q w.1 nL (pc + 3) la (.int ((s_level S ).1) :: rest) (gws w h1 ++ []) k n) : zJ p l e R s m args below meth c A Q w.1 nL pc la (.ref (w.2.2 0) :: rest) (gws w h ++ []) k n := by
  obtain ⟨r, e1, e2, e3⟩ := X_level HA HW 
  refine Z_gC (o := 0) (ci := 6) (T := TX6) (N1 := 13) (as := []) (r1 := some (.int r.1)) (h1 := r.2) X Y hR hkn hd hk wX6_level (by decide) gk_0 rfl rfl hcat (by decide) (fX_level_ok e1 0) ?_
  rw [e2]
  exact kk r.2 e3
theorem Z_undo {idx : Nat} {rest : List Value} {S : qW} {h : gH} (X : zX own cc nL p s m args meth c w.1 w.2.1 x A) (Y : zW w s A) (hR : 45 ≤ R.frames ∧ 3000 ≤ R.locals) (hkn : k ≤ R.cells ∧ n ≤ R.slots) (HA : AX h S) (HW : WI S) (hd : decode cc pc = .ok (.invokevirtual idx, 3)) (hk : gLV own idx yX6_undo 0) (hcat : (rest.map fun v => v.category).sum ≤ 8) (kk : ∀ h1, AX h1 (s_undo S ).2 → zJ p l e R s m args below meth c A Q w.1 nL (pc + 3) la (.int ((s_undo S ).1) :: rest) (gws w h1 ++ []) k n) : zJ p l e R s m args below meth c A Q w.1 nL pc la (.ref (w.2.2 0) :: rest) (gws w h ++ []) k n := by
  obtain ⟨r, e1, e2, e3⟩ := X_undo HA HW 
  refine Z_gC (o := 0) (ci := 6) (T := TX6) (N1 := 13) (as := []) (r1 := some (.int r.1)) (h1 := r.2) X Y hR hkn hd hk wX6_undo (by decide) gk_0 rfl rfl hcat (by decide) (fX_undo_ok e1 0) ?_
  rw [e2]
  exact kk r.2 e3
theorem Z_domain {idx : Nat} {v1 : Int32} {rest : List Value} {S : qW} {h : gH} (X : zX own cc nL p s m args meth c w.1 w.2.1 x A) (Y : zW w s A) (hR : 45 ≤ R.frames ∧ 3000 ≤ R.locals) (hkn : k ≤ R.cells ∧ n ≤ R.slots) (HA : AX h S) (HW : WI S) (hd : decode cc pc = .ok (.invokevirtual idx, 3)) (hk : gLV own idx yX6_domain 1) (hcat : (rest.map fun v => v.category).sum ≤ 8) (kk : ∀ h1, AX h1 S → zJ p l e R s m args below meth c A Q w.1 nL (pc + 3) la (.int (s_domain S v1) :: rest) (gws w h1 ++ []) k n) : zJ p l e R s m args below meth c A Q w.1 nL pc la (.int v1 :: .ref (w.2.2 0) :: rest) (gws w h ++ []) k n := by
  have e1 := X_domain HA v1
  exact Z_gC (o := 0) (ci := 6) (T := TX6) (N1 := 13) (as := [.int v1]) (r1 := some (.int (s_domain S v1))) (h1 := h) X Y hR hkn hd hk wX6_domain (by decide) gk_0 rfl rfl hcat (by decide) (fX_domain_ok e1 0) (kk h HA)
theorem Z_trail {idx : Nat} {v1 v2 : Int32} {rest : List Value} {S : qW} {h : gH} (X : zX own cc nL p s m args meth c w.1 w.2.1 x A) (Y : zW w s A) (hR : 45 ≤ R.frames ∧ 3000 ≤ R.locals) (hkn : k ≤ R.cells ∧ n ≤ R.slots) (HA : AX h S) (HW : WI S) (hd : decode cc pc = .ok (.invokevirtual idx, 3)) (hk : gLV own idx yX6_trail 2) (hcat : (rest.map fun v => v.category).sum ≤ 8) (kk : ∀ h1, AX h1 S → zJ p l e R s m args below meth c A Q w.1 nL (pc + 3) la (.int (s_trail S v1 v2) :: rest) (gws w h1 ++ []) k n) : zJ p l e R s m args below meth c A Q w.1 nL pc la (.int v2 :: .int v1 :: .ref (w.2.2 0) :: rest) (gws w h ++ []) k n := by
  have e1 := X_trail HA HW v1 v2
  exact Z_gC (o := 0) (ci := 6) (T := TX6) (N1 := 13) (as := [.int v1, .int v2]) (r1 := some (.int (s_trail S v1 v2))) (h1 := h) X Y hR hkn hd hk wX6_trail (by decide) gk_0 rfl rfl hcat (by decide) (fX_trail_ok e1 0) (kk h HA)
theorem Z_count {idx : Nat} {v1 : Int32} {rest : List Value} {S : qW} {h : gH} (X : zX own cc nL p s m args meth c w.1 w.2.1 x A) (Y : zW w s A) (hR : 45 ≤ R.frames ∧ 3000 ≤ R.locals) (hkn : k ≤ R.cells ∧ n ≤ R.slots) (HA : AX h S) (HW : WI S) (hd : decode cc pc = .ok (.invokevirtual idx, 3)) (hk : gLV own idx yX6_count 1) (hcat : (rest.map fun v => v.category).sum ≤ 8) (kk : ∀ h1, AX h1 S → zJ p l e R s m args below meth c A Q w.1 nL (pc + 3) la (.int (s_count S v1) :: rest) (gws w h1 ++ []) k n) : zJ p l e R s m args below meth c A Q w.1 nL pc la (.int v1 :: .ref (w.2.2 0) :: rest) (gws w h ++ []) k n := by
  have e1 := X_count HA HW v1
  exact Z_gC (o := 0) (ci := 6) (T := TX6) (N1 := 13) (as := [.int v1]) (r1 := some (.int (s_count S v1))) (h1 := h) X Y hR hkn hd hk wX6_count (by decide) gk_0 rfl rfl hcat (by decide) (fX_count_ok e1 0) (kk h HA)
theorem Z_reach {idx : Nat} {v1 v2 : Int32} {rest : List Value} {S : qW} {h : gH} (X : zX own cc nL p s m args meth c w.1 w.2.1 x A) (Y : zW w s A) (hR : 45 ≤ R.frames ∧ 3000 ≤ R.locals) (hkn : k ≤ R.cells ∧ n ≤ R.slots) (HA : AX h S) (HW : WI S) (hd : decode cc pc = .ok (.invokevirtual idx, 3)) (hk : gLV own idx yX6_reach 2) (hcat : (rest.map fun v => v.category).sum ≤ 8) (kk : ∀ h1, AX h1 S → zJ p l e R s m args below meth c A Q w.1 nL (pc + 3) la (.int (s_reach S v1 v2) :: rest) (gws w h1 ++ []) k n) : zJ p l e R s m args below meth c A Q w.1 nL pc la (.int v2 :: .int v1 :: .ref (w.2.2 0) :: rest) (gws w h ++ []) k n := by
  obtain ⟨r, e1, e2, e3⟩ := X_reach HA HW v1 v2
  refine Z_gC (o := 0) (ci := 6) (T := TX6) (N1 := 13) (as := [.int v1, .int v2]) (r1 := some (.int r.1)) (h1 := r.2) X Y hR hkn hd hk wX6_reach (by decide) gk_0 rfl rfl hcat (by decide) (fX_reach_ok e1 0) ?_
  rw [e2]
  exact kk r.2 e3
theorem Z_search {idx : Nat} {v1 v2 v3 v4 : Int32} {rest : List Value} {S : qW} {h : gH} (X : zX own cc nL p s m args meth c w.1 w.2.1 x A) (Y : zW w s A) (hR : 45 ≤ R.frames ∧ 3000 ≤ R.locals) (hkn : k ≤ R.cells ∧ n ≤ R.slots) (HA : AX h S) (HW : WI S) (hd : decode cc pc = .ok (.invokevirtual idx, 3)) (hk : gLV own idx yX6_search 4) (hcat : (rest.map fun v => v.category).sum ≤ 8) (kk : ∀ h1, AX h1 S → zJ p l e R s m args below meth c A Q w.1 nL (pc + 3) la (.int (s_search S v1 v2 v3 v4) :: rest) (gws w h1 ++ []) k n) : zJ p l e R s m args below meth c A Q w.1 nL pc la (.int v4 :: .int v3 :: .int v2 :: .int v1 :: .ref (w.2.2 0) :: rest) (gws w h ++ []) k n := by
  obtain ⟨r, e1, e2, e3⟩ := X_search HA HW v1 v2 v3 v4
  refine Z_gC (o := 0) (ci := 6) (T := TX6) (N1 := 13) (as := [.int v1, .int v2, .int v3, .int v4]) (r1 := some (.int r.1)) (h1 := r.2) X Y hR hkn hd hk wX6_search (by decide) gk_0 rfl rfl hcat (by decide) (fX_search_ok e1 0) ?_
  rw [e2]
  exact kk r.2 e3
theorem Z_solutions {idx : Nat} {rest : List Value} {S : qW} {h : gH} (X : zX own cc nL p s m args meth c w.1 w.2.1 x A) (Y : zW w s A) (hR : 45 ≤ R.frames ∧ 3000 ≤ R.locals) (hkn : k ≤ R.cells ∧ n ≤ R.slots) (HA : AX h S) (HW : WI S) (hd : decode cc pc = .ok (.invokevirtual idx, 3)) (hk : gLV own idx yX6_solutions 0) (hcat : (rest.map fun v => v.category).sum ≤ 8) (kk : ∀ h1, AX h1 S → zJ p l e R s m args below meth c A Q w.1 nL (pc + 3) la (.long (s_solutions S ) :: rest) (gws w h1 ++ []) k n) : zJ p l e R s m args below meth c A Q w.1 nL pc la (.ref (w.2.2 0) :: rest) (gws w h ++ []) k n := by
  obtain ⟨r, e1, e2, e3⟩ := X_solutions HA HW 
  refine Z_gC (o := 0) (ci := 6) (T := TX6) (N1 := 13) (as := []) (r1 := some (.long r.1)) (h1 := r.2) X Y hR hkn hd hk wX6_solutions (by decide) gk_0 rfl rfl hcat (by decide) (fX_solutions_ok e1 0) ?_
  rw [e2]
  exact kk r.2 e3
theorem Z_why {idx : Nat} {v1 v2 : Int32} {rest : List Value} {S : qW} {h : gH} (X : zX own cc nL p s m args meth c w.1 w.2.1 x A) (Y : zW w s A) (hR : 45 ≤ R.frames ∧ 3000 ≤ R.locals) (hkn : k ≤ R.cells ∧ n ≤ R.slots) (HA : AX h S) (HW : WI S) (hd : decode cc pc = .ok (.invokevirtual idx, 3)) (hk : gLV own idx yX6_why 2) (hcat : (rest.map fun v => v.category).sum ≤ 8) (kk : ∀ h1, AX h1 S → zJ p l e R s m args below meth c A Q w.1 nL (pc + 3) la (.int (s_why S v1 v2) :: rest) (gws w h1 ++ []) k n) : zJ p l e R s m args below meth c A Q w.1 nL pc la (.int v2 :: .int v1 :: .ref (w.2.2 0) :: rest) (gws w h ++ []) k n := by
  obtain ⟨r, e1, e2, e3⟩ := X_why HA HW v1 v2
  refine Z_gC (o := 0) (ci := 6) (T := TX6) (N1 := 13) (as := [.int v1, .int v2]) (r1 := some (.int r.1)) (h1 := r.2) X Y hR hkn hd hk wX6_why (by decide) gk_0 rfl rfl hcat (by decide) (fX_why_ok e1 0) ?_
  rw [e2]
  exact kk r.2 e3
theorem Z_ldcw {D : va_G} {ct : iC3} {ws : va_W} {index : Nat} {v : Int32} (X : zX own cc nL p s m args meth c D ct x A) (hd : decode cc pc = .ok (.ldc_w index, 3)) (hv : Cond.constant own index v ∈ gW) (kk : zJ p l e R s m args below meth c A Q D nL (pc + 3) la (.int v :: st) ws k n) : zJ p l e R s m args below meth c A Q D nL pc la st ws k n := by
  intro H locs lsA hP hD hS hL
  exact lv_ldcw X.1 X.2.1 X.2.2.2.1 (X.2.2.2.2.1 _ hv) hd (kk H locs lsA hP hD hS hL)
end
theorem zJ_loc {nL : Nat} {p : Program} {l : Launch} {e : Env} {R : Room} {s : State} {m : MethodId} {args : Array Value} {below : List Frame} {meth : Method} {c : Code} {A : Nat → Prop} {Q : State → Prop} {D : va_G} {pc : Nat} {la la2 : List (Nat × Value)} {st : List Value} {ws : va_W} {k n : Nat} (he : la = la2) (h : zJ p l e R s m args below meth c A Q D nL pc la2 st ws k n) : zJ p l e R s m args below meth c A Q D nL pc la st ws k n := by
  subst he
  exact h
theorem ntz_all : ∀ m, m < 1024 → ¬ m = 0 → (nI m ^^^ (-1)) &&& (nI m - 1) = nI (2 ^ cmn m - 1) ∧ cmn m < 10 := by decide +kernel
theorem ntz_c : Cond.constant RJ6 264 65536 ∈ gW := gW_at 860 (by decide +kernel) rfl
theorem i_ntz {D : va_G} {ct : iC3} {d m : Nat} (hm : m < 1024) (h0 : ¬ m = 0) : iC yJ6_numberOfTrailingZeros_0f7a4 cJ6_numberOfTrailingZeros_0f7a4 2 (some .int) (zr 0 0 0) 0 0 D ct (d, [], []) [.int (nI m)] [] (fun r w1 => r = some (.int (nI (cmn m))) ∧ w1 = []) := by
  refine iC_of (by decide +kernel) (Nat.le_of_ble_eq_true rfl) ?_
  intro p l e s m0 args below meth c A X hM
  refine Z_iload_n 0 X (gxd kJ6_numberOfTrailingZeros_0f7a4 0 rfl) rfl rfl ?_
  refine Z_iconst (v := (-1)) X (gxd kJ6_numberOfTrailingZeros_0f7a4 1 rfl) (by decide) ?_
  refine Z_ixor (v := nI m ^^^ (-1)) X (gxd kJ6_numberOfTrailingZeros_0f7a4 2 rfl) rfl ?_
  refine Z_iload_n 0 X (gxd kJ6_numberOfTrailingZeros_0f7a4 3 rfl) rfl rfl ?_
  refine Z_iconst (v := 1) X (gxd kJ6_numberOfTrailingZeros_0f7a4 4 rfl) (by decide) ?_
  refine Z_isub (v := nI m - 1) X (gxd kJ6_numberOfTrailingZeros_0f7a4 5 rfl) rfl ?_
  refine Z_iand (v := nI (2 ^ cmn m - 1)) X (gxd kJ6_numberOfTrailingZeros_0f7a4 6 rfl) (ntz_all m hm h0).1 ?_
  refine Z_istore_n (la2 := [(0, .int (nI (2 ^ cmn m - 1)))]) X (gxd kJ6_numberOfTrailingZeros_0f7a4 7 rfl) rfl (by decide) rfl ?_
  have hc := (ntz_all m hm h0).2
  generalize cmn m = c0 at hc ⊢
  have hcs : c0 = 0 ∨ c0 = 1 ∨ c0 = 2 ∨ c0 = 3 ∨ c0 = 4 ∨ c0 = 5 ∨ c0 = 6 ∨ c0 = 7 ∨ c0 = 8 ∨ c0 = 9 := by omega
  rcases hcs with rfl | rfl | rfl | rfl | rfl | rfl | rfl | rfl | rfl | rfl
  · refine zJ_loc (la2 := [(0, .int 0)]) (by decide +kernel) ?_
    refine Z_iload_n 0 X (gxd kJ6_numberOfTrailingZeros_0f7a4 8 rfl) rfl rfl ?_
    refine Z_if_gt (tgt := 17) X (gxd kJ6_numberOfTrailingZeros_0f7a4 9 rfl) rfl (fun z => absurd z (by decide)) (fun _ => ?_)
    refine Z_iload_n 0 X (gxd kJ6_numberOfTrailingZeros_0f7a4 10 rfl) rfl rfl ?_
    refine Z_bipush (v := 32) X (gxd kJ6_numberOfTrailingZeros_0f7a4 11 rfl) (by decide) ?_
    refine Z_iand (v := 0) X (gxd kJ6_numberOfTrailingZeros_0f7a4 12 rfl) (by decide) ?_
    refine Z_zret X hM rfl (gxd kJ6_numberOfTrailingZeros_0f7a4 13 rfl) ⟨rfl, rfl⟩ rfl rfl
  · refine zJ_loc (la2 := [(0, .int 1)]) (by decide +kernel) ?_
    refine Z_iload_n 0 X (gxd kJ6_numberOfTrailingZeros_0f7a4 8 rfl) rfl rfl ?_
    refine Z_if_gt (tgt := 17) X (gxd kJ6_numberOfTrailingZeros_0f7a4 9 rfl) rfl (fun _ => ?_) (fun z => absurd (by decide) z)
    refine Z_iconst (v := 1) X (gxd kJ6_numberOfTrailingZeros_0f7a4 14 rfl) (by decide) ?_
    refine Z_istore_n (la2 := [(1, .int 1), (0, .int 1)]) X (gxd kJ6_numberOfTrailingZeros_0f7a4 15 rfl) rfl (by decide) rfl ?_
    refine Z_iload_n 1 X (gxd kJ6_numberOfTrailingZeros_0f7a4 16 rfl) rfl rfl ?_
    refine Z_ldcw (v := 65536) X (gxd kJ6_numberOfTrailingZeros_0f7a4 17 rfl) ntz_c ?_
    refine Z_icmp_le (tgt := 34) X (gxd kJ6_numberOfTrailingZeros_0f7a4 18 rfl) rfl (fun _ => ?_) (fun z => absurd z (by decide))
    refine Z_iload_n 1 X (gxd kJ6_numberOfTrailingZeros_0f7a4 24 rfl) rfl rfl ?_
    refine Z_sipush (v := 256) X (gxd kJ6_numberOfTrailingZeros_0f7a4 25 rfl) (by decide) ?_
    refine Z_icmp_le (tgt := 49) X (gxd kJ6_numberOfTrailingZeros_0f7a4 26 rfl) rfl (fun _ => ?_) (fun z => absurd z (by decide))
    refine Z_iload_n 1 X (gxd kJ6_numberOfTrailingZeros_0f7a4 32 rfl) rfl rfl ?_
    refine Z_bipush (v := 16) X (gxd kJ6_numberOfTrailingZeros_0f7a4 33 rfl) (by decide) ?_
    refine Z_icmp_le (tgt := 62) X (gxd kJ6_numberOfTrailingZeros_0f7a4 34 rfl) rfl (fun _ => ?_) (fun z => absurd z (by decide))
    refine Z_iload_n 1 X (gxd kJ6_numberOfTrailingZeros_0f7a4 40 rfl) rfl rfl ?_
    refine Z_iconst (v := 4) X (gxd kJ6_numberOfTrailingZeros_0f7a4 41 rfl) (by decide) ?_
    refine Z_icmp_le (tgt := 74) X (gxd kJ6_numberOfTrailingZeros_0f7a4 42 rfl) rfl (fun _ => ?_) (fun z => absurd z (by decide))
    refine Z_iload_n 0 X (gxd kJ6_numberOfTrailingZeros_0f7a4 48 rfl) rfl rfl ?_
    refine Z_iload_n 1 X (gxd kJ6_numberOfTrailingZeros_0f7a4 49 rfl) rfl rfl ?_
    refine Z_iconst (v := 1) X (gxd kJ6_numberOfTrailingZeros_0f7a4 50 rfl) (by decide) ?_
    refine Z_iushr (v := 0) X (gxd kJ6_numberOfTrailingZeros_0f7a4 51 rfl) (by decide) ?_
    refine Z_iadd (v := 1) X (gxd kJ6_numberOfTrailingZeros_0f7a4 52 rfl) (by decide) ?_
    refine Z_zret X hM rfl (gxd kJ6_numberOfTrailingZeros_0f7a4 53 rfl) ⟨rfl, rfl⟩ rfl rfl
  · refine zJ_loc (la2 := [(0, .int 3)]) (by decide +kernel) ?_
    refine Z_iload_n 0 X (gxd kJ6_numberOfTrailingZeros_0f7a4 8 rfl) rfl rfl ?_
    refine Z_if_gt (tgt := 17) X (gxd kJ6_numberOfTrailingZeros_0f7a4 9 rfl) rfl (fun _ => ?_) (fun z => absurd (by decide) z)
    refine Z_iconst (v := 1) X (gxd kJ6_numberOfTrailingZeros_0f7a4 14 rfl) (by decide) ?_
    refine Z_istore_n (la2 := [(1, .int 1), (0, .int 3)]) X (gxd kJ6_numberOfTrailingZeros_0f7a4 15 rfl) rfl (by decide) rfl ?_
    refine Z_iload_n 1 X (gxd kJ6_numberOfTrailingZeros_0f7a4 16 rfl) rfl rfl ?_
    refine Z_ldcw (v := 65536) X (gxd kJ6_numberOfTrailingZeros_0f7a4 17 rfl) ntz_c ?_
    refine Z_icmp_le (tgt := 34) X (gxd kJ6_numberOfTrailingZeros_0f7a4 18 rfl) rfl (fun _ => ?_) (fun z => absurd z (by decide))
    refine Z_iload_n 1 X (gxd kJ6_numberOfTrailingZeros_0f7a4 24 rfl) rfl rfl ?_
    refine Z_sipush (v := 256) X (gxd kJ6_numberOfTrailingZeros_0f7a4 25 rfl) (by decide) ?_
    refine Z_icmp_le (tgt := 49) X (gxd kJ6_numberOfTrailingZeros_0f7a4 26 rfl) rfl (fun _ => ?_) (fun z => absurd z (by decide))
    refine Z_iload_n 1 X (gxd kJ6_numberOfTrailingZeros_0f7a4 32 rfl) rfl rfl ?_
    refine Z_bipush (v := 16) X (gxd kJ6_numberOfTrailingZeros_0f7a4 33 rfl) (by decide) ?_
    refine Z_icmp_le (tgt := 62) X (gxd kJ6_numberOfTrailingZeros_0f7a4 34 rfl) rfl (fun _ => ?_) (fun z => absurd z (by decide))
    refine Z_iload_n 1 X (gxd kJ6_numberOfTrailingZeros_0f7a4 40 rfl) rfl rfl ?_
    refine Z_iconst (v := 4) X (gxd kJ6_numberOfTrailingZeros_0f7a4 41 rfl) (by decide) ?_
    refine Z_icmp_le (tgt := 74) X (gxd kJ6_numberOfTrailingZeros_0f7a4 42 rfl) rfl (fun _ => ?_) (fun z => absurd z (by decide))
    refine Z_iload_n 0 X (gxd kJ6_numberOfTrailingZeros_0f7a4 48 rfl) rfl rfl ?_
    refine Z_iload_n 1 X (gxd kJ6_numberOfTrailingZeros_0f7a4 49 rfl) rfl rfl ?_
    refine Z_iconst (v := 1) X (gxd kJ6_numberOfTrailingZeros_0f7a4 50 rfl) (by decide) ?_
    refine Z_iushr (v := 1) X (gxd kJ6_numberOfTrailingZeros_0f7a4 51 rfl) (by decide) ?_
    refine Z_iadd (v := 2) X (gxd kJ6_numberOfTrailingZeros_0f7a4 52 rfl) (by decide) ?_
    refine Z_zret X hM rfl (gxd kJ6_numberOfTrailingZeros_0f7a4 53 rfl) ⟨rfl, rfl⟩ rfl rfl
  · refine zJ_loc (la2 := [(0, .int 7)]) (by decide +kernel) ?_
    refine Z_iload_n 0 X (gxd kJ6_numberOfTrailingZeros_0f7a4 8 rfl) rfl rfl ?_
    refine Z_if_gt (tgt := 17) X (gxd kJ6_numberOfTrailingZeros_0f7a4 9 rfl) rfl (fun _ => ?_) (fun z => absurd (by decide) z)
    refine Z_iconst (v := 1) X (gxd kJ6_numberOfTrailingZeros_0f7a4 14 rfl) (by decide) ?_
    refine Z_istore_n (la2 := [(1, .int 1), (0, .int 7)]) X (gxd kJ6_numberOfTrailingZeros_0f7a4 15 rfl) rfl (by decide) rfl ?_
    refine Z_iload_n 1 X (gxd kJ6_numberOfTrailingZeros_0f7a4 16 rfl) rfl rfl ?_
    refine Z_ldcw (v := 65536) X (gxd kJ6_numberOfTrailingZeros_0f7a4 17 rfl) ntz_c ?_
    refine Z_icmp_le (tgt := 34) X (gxd kJ6_numberOfTrailingZeros_0f7a4 18 rfl) rfl (fun _ => ?_) (fun z => absurd z (by decide))
    refine Z_iload_n 1 X (gxd kJ6_numberOfTrailingZeros_0f7a4 24 rfl) rfl rfl ?_
    refine Z_sipush (v := 256) X (gxd kJ6_numberOfTrailingZeros_0f7a4 25 rfl) (by decide) ?_
    refine Z_icmp_le (tgt := 49) X (gxd kJ6_numberOfTrailingZeros_0f7a4 26 rfl) rfl (fun _ => ?_) (fun z => absurd z (by decide))
    refine Z_iload_n 1 X (gxd kJ6_numberOfTrailingZeros_0f7a4 32 rfl) rfl rfl ?_
    refine Z_bipush (v := 16) X (gxd kJ6_numberOfTrailingZeros_0f7a4 33 rfl) (by decide) ?_
    refine Z_icmp_le (tgt := 62) X (gxd kJ6_numberOfTrailingZeros_0f7a4 34 rfl) rfl (fun _ => ?_) (fun z => absurd z (by decide))
    refine Z_iload_n 1 X (gxd kJ6_numberOfTrailingZeros_0f7a4 40 rfl) rfl rfl ?_
    refine Z_iconst (v := 4) X (gxd kJ6_numberOfTrailingZeros_0f7a4 41 rfl) (by decide) ?_
    refine Z_icmp_le (tgt := 74) X (gxd kJ6_numberOfTrailingZeros_0f7a4 42 rfl) rfl (fun z => absurd z (fun q => q (by decide))) (fun _ => ?_)
    refine Z_iinc 0 (v := 3) (la2 := [(1, .int 3), (0, .int 7)]) X (gxd kJ6_numberOfTrailingZeros_0f7a4 43 rfl) rfl (by decide) (by decide) rfl ?_
    refine Z_iload_n 1 X (gxd kJ6_numberOfTrailingZeros_0f7a4 44 rfl) rfl rfl ?_
    refine Z_iconst (v := 2) X (gxd kJ6_numberOfTrailingZeros_0f7a4 45 rfl) (by decide) ?_
    refine Z_iushr (v := 1) X (gxd kJ6_numberOfTrailingZeros_0f7a4 46 rfl) (by decide) ?_
    refine Z_istore_n (la2 := [(0, .int 1), (1, .int 3)]) X (gxd kJ6_numberOfTrailingZeros_0f7a4 47 rfl) rfl (by decide) rfl ?_
    refine Z_iload_n 1 X (gxd kJ6_numberOfTrailingZeros_0f7a4 48 rfl) rfl rfl ?_
    refine Z_iload_n 0 X (gxd kJ6_numberOfTrailingZeros_0f7a4 49 rfl) rfl rfl ?_
    refine Z_iconst (v := 1) X (gxd kJ6_numberOfTrailingZeros_0f7a4 50 rfl) (by decide) ?_
    refine Z_iushr (v := 0) X (gxd kJ6_numberOfTrailingZeros_0f7a4 51 rfl) (by decide) ?_
    refine Z_iadd (v := 3) X (gxd kJ6_numberOfTrailingZeros_0f7a4 52 rfl) (by decide) ?_
    refine Z_zret X hM rfl (gxd kJ6_numberOfTrailingZeros_0f7a4 53 rfl) ⟨rfl, rfl⟩ rfl rfl
  · refine zJ_loc (la2 := [(0, .int 15)]) (by decide +kernel) ?_
    refine Z_iload_n 0 X (gxd kJ6_numberOfTrailingZeros_0f7a4 8 rfl) rfl rfl ?_
    refine Z_if_gt (tgt := 17) X (gxd kJ6_numberOfTrailingZeros_0f7a4 9 rfl) rfl (fun _ => ?_) (fun z => absurd (by decide) z)
    refine Z_iconst (v := 1) X (gxd kJ6_numberOfTrailingZeros_0f7a4 14 rfl) (by decide) ?_
    refine Z_istore_n (la2 := [(1, .int 1), (0, .int 15)]) X (gxd kJ6_numberOfTrailingZeros_0f7a4 15 rfl) rfl (by decide) rfl ?_
    refine Z_iload_n 1 X (gxd kJ6_numberOfTrailingZeros_0f7a4 16 rfl) rfl rfl ?_
    refine Z_ldcw (v := 65536) X (gxd kJ6_numberOfTrailingZeros_0f7a4 17 rfl) ntz_c ?_
    refine Z_icmp_le (tgt := 34) X (gxd kJ6_numberOfTrailingZeros_0f7a4 18 rfl) rfl (fun _ => ?_) (fun z => absurd z (by decide))
    refine Z_iload_n 1 X (gxd kJ6_numberOfTrailingZeros_0f7a4 24 rfl) rfl rfl ?_
    refine Z_sipush (v := 256) X (gxd kJ6_numberOfTrailingZeros_0f7a4 25 rfl) (by decide) ?_
    refine Z_icmp_le (tgt := 49) X (gxd kJ6_numberOfTrailingZeros_0f7a4 26 rfl) rfl (fun _ => ?_) (fun z => absurd z (by decide))
    refine Z_iload_n 1 X (gxd kJ6_numberOfTrailingZeros_0f7a4 32 rfl) rfl rfl ?_
    refine Z_bipush (v := 16) X (gxd kJ6_numberOfTrailingZeros_0f7a4 33 rfl) (by decide) ?_
    refine Z_icmp_le (tgt := 62) X (gxd kJ6_numberOfTrailingZeros_0f7a4 34 rfl) rfl (fun _ => ?_) (fun z => absurd z (by decide))
    refine Z_iload_n 1 X (gxd kJ6_numberOfTrailingZeros_0f7a4 40 rfl) rfl rfl ?_
    refine Z_iconst (v := 4) X (gxd kJ6_numberOfTrailingZeros_0f7a4 41 rfl) (by decide) ?_
    refine Z_icmp_le (tgt := 74) X (gxd kJ6_numberOfTrailingZeros_0f7a4 42 rfl) rfl (fun z => absurd z (fun q => q (by decide))) (fun _ => ?_)
    refine Z_iinc 0 (v := 3) (la2 := [(1, .int 3), (0, .int 15)]) X (gxd kJ6_numberOfTrailingZeros_0f7a4 43 rfl) rfl (by decide) (by decide) rfl ?_
    refine Z_iload_n 1 X (gxd kJ6_numberOfTrailingZeros_0f7a4 44 rfl) rfl rfl ?_
    refine Z_iconst (v := 2) X (gxd kJ6_numberOfTrailingZeros_0f7a4 45 rfl) (by decide) ?_
    refine Z_iushr (v := 3) X (gxd kJ6_numberOfTrailingZeros_0f7a4 46 rfl) (by decide) ?_
    refine Z_istore_n (la2 := [(0, .int 3), (1, .int 3)]) X (gxd kJ6_numberOfTrailingZeros_0f7a4 47 rfl) rfl (by decide) rfl ?_
    refine Z_iload_n 1 X (gxd kJ6_numberOfTrailingZeros_0f7a4 48 rfl) rfl rfl ?_
    refine Z_iload_n 0 X (gxd kJ6_numberOfTrailingZeros_0f7a4 49 rfl) rfl rfl ?_
    refine Z_iconst (v := 1) X (gxd kJ6_numberOfTrailingZeros_0f7a4 50 rfl) (by decide) ?_
    refine Z_iushr (v := 1) X (gxd kJ6_numberOfTrailingZeros_0f7a4 51 rfl) (by decide) ?_
    refine Z_iadd (v := 4) X (gxd kJ6_numberOfTrailingZeros_0f7a4 52 rfl) (by decide) ?_
    refine Z_zret X hM rfl (gxd kJ6_numberOfTrailingZeros_0f7a4 53 rfl) ⟨rfl, rfl⟩ rfl rfl
  · refine zJ_loc (la2 := [(0, .int 31)]) (by decide +kernel) ?_
    refine Z_iload_n 0 X (gxd kJ6_numberOfTrailingZeros_0f7a4 8 rfl) rfl rfl ?_
    refine Z_if_gt (tgt := 17) X (gxd kJ6_numberOfTrailingZeros_0f7a4 9 rfl) rfl (fun _ => ?_) (fun z => absurd (by decide) z)
    refine Z_iconst (v := 1) X (gxd kJ6_numberOfTrailingZeros_0f7a4 14 rfl) (by decide) ?_
    refine Z_istore_n (la2 := [(1, .int 1), (0, .int 31)]) X (gxd kJ6_numberOfTrailingZeros_0f7a4 15 rfl) rfl (by decide) rfl ?_
    refine Z_iload_n 1 X (gxd kJ6_numberOfTrailingZeros_0f7a4 16 rfl) rfl rfl ?_
    refine Z_ldcw (v := 65536) X (gxd kJ6_numberOfTrailingZeros_0f7a4 17 rfl) ntz_c ?_
    refine Z_icmp_le (tgt := 34) X (gxd kJ6_numberOfTrailingZeros_0f7a4 18 rfl) rfl (fun _ => ?_) (fun z => absurd z (by decide))
    refine Z_iload_n 1 X (gxd kJ6_numberOfTrailingZeros_0f7a4 24 rfl) rfl rfl ?_
    refine Z_sipush (v := 256) X (gxd kJ6_numberOfTrailingZeros_0f7a4 25 rfl) (by decide) ?_
    refine Z_icmp_le (tgt := 49) X (gxd kJ6_numberOfTrailingZeros_0f7a4 26 rfl) rfl (fun _ => ?_) (fun z => absurd z (by decide))
    refine Z_iload_n 1 X (gxd kJ6_numberOfTrailingZeros_0f7a4 32 rfl) rfl rfl ?_
    refine Z_bipush (v := 16) X (gxd kJ6_numberOfTrailingZeros_0f7a4 33 rfl) (by decide) ?_
    refine Z_icmp_le (tgt := 62) X (gxd kJ6_numberOfTrailingZeros_0f7a4 34 rfl) rfl (fun z => absurd z (fun q => q (by decide))) (fun _ => ?_)
    refine Z_iinc 0 (v := 5) (la2 := [(1, .int 5), (0, .int 31)]) X (gxd kJ6_numberOfTrailingZeros_0f7a4 35 rfl) rfl (by decide) (by decide) rfl ?_
    refine Z_iload_n 1 X (gxd kJ6_numberOfTrailingZeros_0f7a4 36 rfl) rfl rfl ?_
    refine Z_iconst (v := 4) X (gxd kJ6_numberOfTrailingZeros_0f7a4 37 rfl) (by decide) ?_
    refine Z_iushr (v := 1) X (gxd kJ6_numberOfTrailingZeros_0f7a4 38 rfl) (by decide) ?_
    refine Z_istore_n (la2 := [(0, .int 1), (1, .int 5)]) X (gxd kJ6_numberOfTrailingZeros_0f7a4 39 rfl) rfl (by decide) rfl ?_
    refine Z_iload_n 0 X (gxd kJ6_numberOfTrailingZeros_0f7a4 40 rfl) rfl rfl ?_
    refine Z_iconst (v := 4) X (gxd kJ6_numberOfTrailingZeros_0f7a4 41 rfl) (by decide) ?_
    refine Z_icmp_le (tgt := 74) X (gxd kJ6_numberOfTrailingZeros_0f7a4 42 rfl) rfl (fun _ => ?_) (fun z => absurd z (by decide))
    refine Z_iload_n 1 X (gxd kJ6_numberOfTrailingZeros_0f7a4 48 rfl) rfl rfl ?_
    refine Z_iload_n 0 X (gxd kJ6_numberOfTrailingZeros_0f7a4 49 rfl) rfl rfl ?_
    refine Z_iconst (v := 1) X (gxd kJ6_numberOfTrailingZeros_0f7a4 50 rfl) (by decide) ?_
    refine Z_iushr (v := 0) X (gxd kJ6_numberOfTrailingZeros_0f7a4 51 rfl) (by decide) ?_
    refine Z_iadd (v := 5) X (gxd kJ6_numberOfTrailingZeros_0f7a4 52 rfl) (by decide) ?_
    refine Z_zret X hM rfl (gxd kJ6_numberOfTrailingZeros_0f7a4 53 rfl) ⟨rfl, rfl⟩ rfl rfl
  · refine zJ_loc (la2 := [(0, .int 63)]) (by decide +kernel) ?_
    refine Z_iload_n 0 X (gxd kJ6_numberOfTrailingZeros_0f7a4 8 rfl) rfl rfl ?_
    refine Z_if_gt (tgt := 17) X (gxd kJ6_numberOfTrailingZeros_0f7a4 9 rfl) rfl (fun _ => ?_) (fun z => absurd (by decide) z)
    refine Z_iconst (v := 1) X (gxd kJ6_numberOfTrailingZeros_0f7a4 14 rfl) (by decide) ?_
    refine Z_istore_n (la2 := [(1, .int 1), (0, .int 63)]) X (gxd kJ6_numberOfTrailingZeros_0f7a4 15 rfl) rfl (by decide) rfl ?_
    refine Z_iload_n 1 X (gxd kJ6_numberOfTrailingZeros_0f7a4 16 rfl) rfl rfl ?_
    refine Z_ldcw (v := 65536) X (gxd kJ6_numberOfTrailingZeros_0f7a4 17 rfl) ntz_c ?_
    refine Z_icmp_le (tgt := 34) X (gxd kJ6_numberOfTrailingZeros_0f7a4 18 rfl) rfl (fun _ => ?_) (fun z => absurd z (by decide))
    refine Z_iload_n 1 X (gxd kJ6_numberOfTrailingZeros_0f7a4 24 rfl) rfl rfl ?_
    refine Z_sipush (v := 256) X (gxd kJ6_numberOfTrailingZeros_0f7a4 25 rfl) (by decide) ?_
    refine Z_icmp_le (tgt := 49) X (gxd kJ6_numberOfTrailingZeros_0f7a4 26 rfl) rfl (fun _ => ?_) (fun z => absurd z (by decide))
    refine Z_iload_n 1 X (gxd kJ6_numberOfTrailingZeros_0f7a4 32 rfl) rfl rfl ?_
    refine Z_bipush (v := 16) X (gxd kJ6_numberOfTrailingZeros_0f7a4 33 rfl) (by decide) ?_
    refine Z_icmp_le (tgt := 62) X (gxd kJ6_numberOfTrailingZeros_0f7a4 34 rfl) rfl (fun z => absurd z (fun q => q (by decide))) (fun _ => ?_)
    refine Z_iinc 0 (v := 5) (la2 := [(1, .int 5), (0, .int 63)]) X (gxd kJ6_numberOfTrailingZeros_0f7a4 35 rfl) rfl (by decide) (by decide) rfl ?_
    refine Z_iload_n 1 X (gxd kJ6_numberOfTrailingZeros_0f7a4 36 rfl) rfl rfl ?_
    refine Z_iconst (v := 4) X (gxd kJ6_numberOfTrailingZeros_0f7a4 37 rfl) (by decide) ?_
    refine Z_iushr (v := 3) X (gxd kJ6_numberOfTrailingZeros_0f7a4 38 rfl) (by decide) ?_
    refine Z_istore_n (la2 := [(0, .int 3), (1, .int 5)]) X (gxd kJ6_numberOfTrailingZeros_0f7a4 39 rfl) rfl (by decide) rfl ?_
    refine Z_iload_n 0 X (gxd kJ6_numberOfTrailingZeros_0f7a4 40 rfl) rfl rfl ?_
    refine Z_iconst (v := 4) X (gxd kJ6_numberOfTrailingZeros_0f7a4 41 rfl) (by decide) ?_
    refine Z_icmp_le (tgt := 74) X (gxd kJ6_numberOfTrailingZeros_0f7a4 42 rfl) rfl (fun _ => ?_) (fun z => absurd z (by decide))
    refine Z_iload_n 1 X (gxd kJ6_numberOfTrailingZeros_0f7a4 48 rfl) rfl rfl ?_
    refine Z_iload_n 0 X (gxd kJ6_numberOfTrailingZeros_0f7a4 49 rfl) rfl rfl ?_
    refine Z_iconst (v := 1) X (gxd kJ6_numberOfTrailingZeros_0f7a4 50 rfl) (by decide) ?_
    refine Z_iushr (v := 1) X (gxd kJ6_numberOfTrailingZeros_0f7a4 51 rfl) (by decide) ?_
    refine Z_iadd (v := 6) X (gxd kJ6_numberOfTrailingZeros_0f7a4 52 rfl) (by decide) ?_
    refine Z_zret X hM rfl (gxd kJ6_numberOfTrailingZeros_0f7a4 53 rfl) ⟨rfl, rfl⟩ rfl rfl
  · refine zJ_loc (la2 := [(0, .int 127)]) (by decide +kernel) ?_
    refine Z_iload_n 0 X (gxd kJ6_numberOfTrailingZeros_0f7a4 8 rfl) rfl rfl ?_
    refine Z_if_gt (tgt := 17) X (gxd kJ6_numberOfTrailingZeros_0f7a4 9 rfl) rfl (fun _ => ?_) (fun z => absurd (by decide) z)
    refine Z_iconst (v := 1) X (gxd kJ6_numberOfTrailingZeros_0f7a4 14 rfl) (by decide) ?_
    refine Z_istore_n (la2 := [(1, .int 1), (0, .int 127)]) X (gxd kJ6_numberOfTrailingZeros_0f7a4 15 rfl) rfl (by decide) rfl ?_
    refine Z_iload_n 1 X (gxd kJ6_numberOfTrailingZeros_0f7a4 16 rfl) rfl rfl ?_
    refine Z_ldcw (v := 65536) X (gxd kJ6_numberOfTrailingZeros_0f7a4 17 rfl) ntz_c ?_
    refine Z_icmp_le (tgt := 34) X (gxd kJ6_numberOfTrailingZeros_0f7a4 18 rfl) rfl (fun _ => ?_) (fun z => absurd z (by decide))
    refine Z_iload_n 1 X (gxd kJ6_numberOfTrailingZeros_0f7a4 24 rfl) rfl rfl ?_
    refine Z_sipush (v := 256) X (gxd kJ6_numberOfTrailingZeros_0f7a4 25 rfl) (by decide) ?_
    refine Z_icmp_le (tgt := 49) X (gxd kJ6_numberOfTrailingZeros_0f7a4 26 rfl) rfl (fun _ => ?_) (fun z => absurd z (by decide))
    refine Z_iload_n 1 X (gxd kJ6_numberOfTrailingZeros_0f7a4 32 rfl) rfl rfl ?_
    refine Z_bipush (v := 16) X (gxd kJ6_numberOfTrailingZeros_0f7a4 33 rfl) (by decide) ?_
    refine Z_icmp_le (tgt := 62) X (gxd kJ6_numberOfTrailingZeros_0f7a4 34 rfl) rfl (fun z => absurd z (fun q => q (by decide))) (fun _ => ?_)
    refine Z_iinc 0 (v := 5) (la2 := [(1, .int 5), (0, .int 127)]) X (gxd kJ6_numberOfTrailingZeros_0f7a4 35 rfl) rfl (by decide) (by decide) rfl ?_
    refine Z_iload_n 1 X (gxd kJ6_numberOfTrailingZeros_0f7a4 36 rfl) rfl rfl ?_
    refine Z_iconst (v := 4) X (gxd kJ6_numberOfTrailingZeros_0f7a4 37 rfl) (by decide) ?_
    refine Z_iushr (v := 7) X (gxd kJ6_numberOfTrailingZeros_0f7a4 38 rfl) (by decide) ?_
    refine Z_istore_n (la2 := [(0, .int 7), (1, .int 5)]) X (gxd kJ6_numberOfTrailingZeros_0f7a4 39 rfl) rfl (by decide) rfl ?_
    refine Z_iload_n 0 X (gxd kJ6_numberOfTrailingZeros_0f7a4 40 rfl) rfl rfl ?_
    refine Z_iconst (v := 4) X (gxd kJ6_numberOfTrailingZeros_0f7a4 41 rfl) (by decide) ?_
    refine Z_icmp_le (tgt := 74) X (gxd kJ6_numberOfTrailingZeros_0f7a4 42 rfl) rfl (fun z => absurd z (fun q => q (by decide))) (fun _ => ?_)
    refine Z_iinc 1 (v := 7) (la2 := [(1, .int 7), (0, .int 7)]) X (gxd kJ6_numberOfTrailingZeros_0f7a4 43 rfl) rfl (by decide) (by decide) rfl ?_
    refine Z_iload_n 1 X (gxd kJ6_numberOfTrailingZeros_0f7a4 44 rfl) rfl rfl ?_
    refine Z_iconst (v := 2) X (gxd kJ6_numberOfTrailingZeros_0f7a4 45 rfl) (by decide) ?_
    refine Z_iushr (v := 1) X (gxd kJ6_numberOfTrailingZeros_0f7a4 46 rfl) (by decide) ?_
    refine Z_istore_n (la2 := [(0, .int 1), (1, .int 7)]) X (gxd kJ6_numberOfTrailingZeros_0f7a4 47 rfl) rfl (by decide) rfl ?_
    refine Z_iload_n 1 X (gxd kJ6_numberOfTrailingZeros_0f7a4 48 rfl) rfl rfl ?_
    refine Z_iload_n 0 X (gxd kJ6_numberOfTrailingZeros_0f7a4 49 rfl) rfl rfl ?_
    refine Z_iconst (v := 1) X (gxd kJ6_numberOfTrailingZeros_0f7a4 50 rfl) (by decide) ?_
    refine Z_iushr (v := 0) X (gxd kJ6_numberOfTrailingZeros_0f7a4 51 rfl) (by decide) ?_
    refine Z_iadd (v := 7) X (gxd kJ6_numberOfTrailingZeros_0f7a4 52 rfl) (by decide) ?_
    refine Z_zret X hM rfl (gxd kJ6_numberOfTrailingZeros_0f7a4 53 rfl) ⟨rfl, rfl⟩ rfl rfl
  · refine zJ_loc (la2 := [(0, .int 255)]) (by decide +kernel) ?_
    refine Z_iload_n 0 X (gxd kJ6_numberOfTrailingZeros_0f7a4 8 rfl) rfl rfl ?_
    refine Z_if_gt (tgt := 17) X (gxd kJ6_numberOfTrailingZeros_0f7a4 9 rfl) rfl (fun _ => ?_) (fun z => absurd (by decide) z)
    refine Z_iconst (v := 1) X (gxd kJ6_numberOfTrailingZeros_0f7a4 14 rfl) (by decide) ?_
    refine Z_istore_n (la2 := [(1, .int 1), (0, .int 255)]) X (gxd kJ6_numberOfTrailingZeros_0f7a4 15 rfl) rfl (by decide) rfl ?_
    refine Z_iload_n 1 X (gxd kJ6_numberOfTrailingZeros_0f7a4 16 rfl) rfl rfl ?_
    refine Z_ldcw (v := 65536) X (gxd kJ6_numberOfTrailingZeros_0f7a4 17 rfl) ntz_c ?_
    refine Z_icmp_le (tgt := 34) X (gxd kJ6_numberOfTrailingZeros_0f7a4 18 rfl) rfl (fun _ => ?_) (fun z => absurd z (by decide))
    refine Z_iload_n 1 X (gxd kJ6_numberOfTrailingZeros_0f7a4 24 rfl) rfl rfl ?_
    refine Z_sipush (v := 256) X (gxd kJ6_numberOfTrailingZeros_0f7a4 25 rfl) (by decide) ?_
    refine Z_icmp_le (tgt := 49) X (gxd kJ6_numberOfTrailingZeros_0f7a4 26 rfl) rfl (fun _ => ?_) (fun z => absurd z (by decide))
    refine Z_iload_n 1 X (gxd kJ6_numberOfTrailingZeros_0f7a4 32 rfl) rfl rfl ?_
    refine Z_bipush (v := 16) X (gxd kJ6_numberOfTrailingZeros_0f7a4 33 rfl) (by decide) ?_
    refine Z_icmp_le (tgt := 62) X (gxd kJ6_numberOfTrailingZeros_0f7a4 34 rfl) rfl (fun z => absurd z (fun q => q (by decide))) (fun _ => ?_)
    refine Z_iinc 0 (v := 5) (la2 := [(1, .int 5), (0, .int 255)]) X (gxd kJ6_numberOfTrailingZeros_0f7a4 35 rfl) rfl (by decide) (by decide) rfl ?_
    refine Z_iload_n 1 X (gxd kJ6_numberOfTrailingZeros_0f7a4 36 rfl) rfl rfl ?_
    refine Z_iconst (v := 4) X (gxd kJ6_numberOfTrailingZeros_0f7a4 37 rfl) (by decide) ?_
    refine Z_iushr (v := 15) X (gxd kJ6_numberOfTrailingZeros_0f7a4 38 rfl) (by decide) ?_
    refine Z_istore_n (la2 := [(0, .int 15), (1, .int 5)]) X (gxd kJ6_numberOfTrailingZeros_0f7a4 39 rfl) rfl (by decide) rfl ?_
    refine Z_iload_n 0 X (gxd kJ6_numberOfTrailingZeros_0f7a4 40 rfl) rfl rfl ?_
    refine Z_iconst (v := 4) X (gxd kJ6_numberOfTrailingZeros_0f7a4 41 rfl) (by decide) ?_
    refine Z_icmp_le (tgt := 74) X (gxd kJ6_numberOfTrailingZeros_0f7a4 42 rfl) rfl (fun z => absurd z (fun q => q (by decide))) (fun _ => ?_)
    refine Z_iinc 1 (v := 7) (la2 := [(1, .int 7), (0, .int 15)]) X (gxd kJ6_numberOfTrailingZeros_0f7a4 43 rfl) rfl (by decide) (by decide) rfl ?_
    refine Z_iload_n 1 X (gxd kJ6_numberOfTrailingZeros_0f7a4 44 rfl) rfl rfl ?_
    refine Z_iconst (v := 2) X (gxd kJ6_numberOfTrailingZeros_0f7a4 45 rfl) (by decide) ?_
    refine Z_iushr (v := 3) X (gxd kJ6_numberOfTrailingZeros_0f7a4 46 rfl) (by decide) ?_
    refine Z_istore_n (la2 := [(0, .int 3), (1, .int 7)]) X (gxd kJ6_numberOfTrailingZeros_0f7a4 47 rfl) rfl (by decide) rfl ?_
    refine Z_iload_n 1 X (gxd kJ6_numberOfTrailingZeros_0f7a4 48 rfl) rfl rfl ?_
    refine Z_iload_n 0 X (gxd kJ6_numberOfTrailingZeros_0f7a4 49 rfl) rfl rfl ?_
    refine Z_iconst (v := 1) X (gxd kJ6_numberOfTrailingZeros_0f7a4 50 rfl) (by decide) ?_
    refine Z_iushr (v := 1) X (gxd kJ6_numberOfTrailingZeros_0f7a4 51 rfl) (by decide) ?_
    refine Z_iadd (v := 8) X (gxd kJ6_numberOfTrailingZeros_0f7a4 52 rfl) (by decide) ?_
    refine Z_zret X hM rfl (gxd kJ6_numberOfTrailingZeros_0f7a4 53 rfl) ⟨rfl, rfl⟩ rfl rfl
  · refine zJ_loc (la2 := [(0, .int 511)]) (by decide +kernel) ?_
    refine Z_iload_n 0 X (gxd kJ6_numberOfTrailingZeros_0f7a4 8 rfl) rfl rfl ?_
    refine Z_if_gt (tgt := 17) X (gxd kJ6_numberOfTrailingZeros_0f7a4 9 rfl) rfl (fun _ => ?_) (fun z => absurd (by decide) z)
    refine Z_iconst (v := 1) X (gxd kJ6_numberOfTrailingZeros_0f7a4 14 rfl) (by decide) ?_
    refine Z_istore_n (la2 := [(1, .int 1), (0, .int 511)]) X (gxd kJ6_numberOfTrailingZeros_0f7a4 15 rfl) rfl (by decide) rfl ?_
    refine Z_iload_n 1 X (gxd kJ6_numberOfTrailingZeros_0f7a4 16 rfl) rfl rfl ?_
    refine Z_ldcw (v := 65536) X (gxd kJ6_numberOfTrailingZeros_0f7a4 17 rfl) ntz_c ?_
    refine Z_icmp_le (tgt := 34) X (gxd kJ6_numberOfTrailingZeros_0f7a4 18 rfl) rfl (fun _ => ?_) (fun z => absurd z (by decide))
    refine Z_iload_n 1 X (gxd kJ6_numberOfTrailingZeros_0f7a4 24 rfl) rfl rfl ?_
    refine Z_sipush (v := 256) X (gxd kJ6_numberOfTrailingZeros_0f7a4 25 rfl) (by decide) ?_
    refine Z_icmp_le (tgt := 49) X (gxd kJ6_numberOfTrailingZeros_0f7a4 26 rfl) rfl (fun z => absurd z (fun q => q (by decide))) (fun _ => ?_)
    refine Z_iinc 0 (v := 9) (la2 := [(1, .int 9), (0, .int 511)]) X (gxd kJ6_numberOfTrailingZeros_0f7a4 27 rfl) rfl (by decide) (by decide) rfl ?_
    refine Z_iload_n 1 X (gxd kJ6_numberOfTrailingZeros_0f7a4 28 rfl) rfl rfl ?_
    refine Z_bipush (v := 8) X (gxd kJ6_numberOfTrailingZeros_0f7a4 29 rfl) (by decide) ?_
    refine Z_iushr (v := 1) X (gxd kJ6_numberOfTrailingZeros_0f7a4 30 rfl) (by decide) ?_
    refine Z_istore_n (la2 := [(0, .int 1), (1, .int 9)]) X (gxd kJ6_numberOfTrailingZeros_0f7a4 31 rfl) rfl (by decide) rfl ?_
    refine Z_iload_n 0 X (gxd kJ6_numberOfTrailingZeros_0f7a4 32 rfl) rfl rfl ?_
    refine Z_bipush (v := 16) X (gxd kJ6_numberOfTrailingZeros_0f7a4 33 rfl) (by decide) ?_
    refine Z_icmp_le (tgt := 62) X (gxd kJ6_numberOfTrailingZeros_0f7a4 34 rfl) rfl (fun _ => ?_) (fun z => absurd z (by decide))
    refine Z_iload_n 0 X (gxd kJ6_numberOfTrailingZeros_0f7a4 40 rfl) rfl rfl ?_
    refine Z_iconst (v := 4) X (gxd kJ6_numberOfTrailingZeros_0f7a4 41 rfl) (by decide) ?_
    refine Z_icmp_le (tgt := 74) X (gxd kJ6_numberOfTrailingZeros_0f7a4 42 rfl) rfl (fun _ => ?_) (fun z => absurd z (by decide))
    refine Z_iload_n 1 X (gxd kJ6_numberOfTrailingZeros_0f7a4 48 rfl) rfl rfl ?_
    refine Z_iload_n 0 X (gxd kJ6_numberOfTrailingZeros_0f7a4 49 rfl) rfl rfl ?_
    refine Z_iconst (v := 1) X (gxd kJ6_numberOfTrailingZeros_0f7a4 50 rfl) (by decide) ?_
    refine Z_iushr (v := 0) X (gxd kJ6_numberOfTrailingZeros_0f7a4 51 rfl) (by decide) ?_
    refine Z_iadd (v := 9) X (gxd kJ6_numberOfTrailingZeros_0f7a4 52 rfl) (by decide) ?_
    refine Z_zret X hM rfl (gxd kJ6_numberOfTrailingZeros_0f7a4 53 rfl) ⟨rfl, rfl⟩ rfl rfl
