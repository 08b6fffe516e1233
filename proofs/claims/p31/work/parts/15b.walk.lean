/-! the law's walk -/
theorem in_RL_37 : gNw RL 37 8 fz8 4 := ⟨RJ4, TJ4, tyJ4, rfl, gu_8, tyJ4_ok, gW_at 861 (by decide +kernel) rfl, gW_at 862 (by decide +kernel) rfl, gW_at 70 (by decide +kernel) rfl, by decide +kernel⟩
theorem iw_J4_init_da8c8 : Cond.code yJ4_init_da8c8 cJ4_init_da8c8 1 none ∈ gW := gW_at 865 (by decide +kernel) rfl
theorem il_RL_39 : gLk RL 39 yJ4_init_da8c8 0 := ⟨Or.inl (gW_at 863 (by decide +kernel) rfl), gW_at 70 (by decide +kernel) rfl, by decide +kernel⟩
theorem il_RL_39m : Cond.methodLink RL 39 yJ4_init_da8c8 ∈ gW := gW_at 863 (by decide +kernel) rfl
theorem ii_J4_init_da8c8 : Cond.instanceMethod yJ4_init_da8c8 ∈ gW := gW_at 864 (by decide +kernel) rfl
theorem iw_L_name : Cond.code yL_name cL_name 1 (some .char) ∈ gW := gW_at 856 (by decide +kernel) rfl
theorem il_RL_40 : gLk RL 40 yL_name 1 := ⟨Or.inl (gW_at 854 (by decide +kernel) rfl), gW_at 61 (by decide +kernel) rfl, by decide +kernel⟩
theorem il_RL_40m : Cond.methodLink RL 40 yL_name ∈ gW := gW_at 854 (by decide +kernel) rfl
theorem is_RL_40 : gLS RL 40 yL_name 1 := ⟨il_RL_40, gW_at 855 (by decide +kernel) rfl⟩
theorem iw_J4_append_cf468 : Cond.code yJ4_append_cf468 cJ4_append_cf468 2 (some (.object "java/lang/StringBuilder")) ∈ gW := gW_at 980 (by decide +kernel) rfl
theorem il_RL_43 : gLk RL 43 yJ4_append_cf468 1 := ⟨Or.inl (gW_at 977 (by decide +kernel) rfl), gW_at 70 (by decide +kernel) rfl, by decide +kernel⟩
theorem il_RL_43m : Cond.methodLink RL 43 yJ4_append_cf468 ∈ gW := gW_at 977 (by decide +kernel) rfl
theorem iv_RL_43 : gLV RL 43 yJ4_append_cf468 1 := ⟨il_RL_43, gW_at 978 (by decide +kernel) rfl, gW_at 979 (by decide +kernel) rfl⟩
theorem iw_J4_append_15ec4 : Cond.code yJ4_append_15ec4 cJ4_append_15ec4 2 (some (.object "java/lang/StringBuilder")) ∈ gW := gW_at 894 (by decide +kernel) rfl
theorem il_RL_49 : gLk RL 49 yJ4_append_15ec4 1 := ⟨Or.inl (gW_at 891 (by decide +kernel) rfl), gW_at 70 (by decide +kernel) rfl, by decide +kernel⟩
theorem il_RL_49m : Cond.methodLink RL 49 yJ4_append_15ec4 ∈ gW := gW_at 891 (by decide +kernel) rfl
theorem iv_RL_49 : gLV RL 49 yJ4_append_15ec4 1 := ⟨il_RL_49, gW_at 892 (by decide +kernel) rfl, gW_at 893 (by decide +kernel) rfl⟩
theorem iw_J4_append_bf812 : Cond.code yJ4_append_bf812 cJ4_append_bf812 2 (some (.object "java/lang/StringBuilder")) ∈ gW := gW_at 993 (by decide +kernel) rfl
theorem il_RL_54 : gLk RL 54 yJ4_append_bf812 1 := ⟨Or.inl (gW_at 990 (by decide +kernel) rfl), gW_at 70 (by decide +kernel) rfl, by decide +kernel⟩
theorem il_RL_54m : Cond.methodLink RL 54 yJ4_append_bf812 ∈ gW := gW_at 990 (by decide +kernel) rfl
theorem iv_RL_54 : gLV RL 54 yJ4_append_bf812 1 := ⟨il_RL_54, gW_at 991 (by decide +kernel) rfl, gW_at 992 (by decide +kernel) rfl⟩
theorem iw_J4_toString_0e30d : Cond.code yJ4_toString_0e30d cJ4_toString_0e30d 1 (some (.object "java/lang/String")) ∈ gW := gW_at 1018 (by decide +kernel) rfl
theorem il_RL_57 : gLk RL 57 yJ4_toString_0e30d 0 := ⟨Or.inl (gW_at 1015 (by decide +kernel) rfl), gW_at 70 (by decide +kernel) rfl, by decide +kernel⟩
theorem il_RL_57m : Cond.methodLink RL 57 yJ4_toString_0e30d ∈ gW := gW_at 1015 (by decide +kernel) rfl
theorem iv_RL_57 : gLV RL 57 yJ4_toString_0e30d 0 := ⟨il_RL_57, gW_at 1016 (by decide +kernel) rfl, gW_at 1017 (by decide +kernel) rfl⟩
theorem il_RL_61 : gLk RL 61 yL_text 2 := ⟨Or.inl (gW_at 611 (by decide +kernel) rfl), gW_at 61 (by decide +kernel) rfl, by decide +kernel⟩
theorem il_RL_61m : Cond.methodLink RL 61 yL_text ∈ gW := gW_at 611 (by decide +kernel) rfl
theorem is_RL_61 : gLS RL 61 yL_text 2 := ⟨il_RL_61, gW_at 612 (by decide +kernel) rfl⟩
theorem iw_L_text : Cond.code yL_text cL_text 3 (some .int) ∈ gW := gW_at 613 (by decide +kernel) rfl
theorem iw_L_some : Cond.code yL_some cL_some 3 (some .int) ∈ gW := gW_at 607 (by decide +kernel) rfl
theorem il_RL_33 : gLk RL 33 yL_some 3 := ⟨Or.inl (gW_at 605 (by decide +kernel) rfl), gW_at 61 (by decide +kernel) rfl, by decide +kernel⟩
theorem il_RL_33m : Cond.methodLink RL 33 yL_some ∈ gW := gW_at 605 (by decide +kernel) rfl
theorem is_RL_33 : gLS RL 33 yL_some 3 := ⟨il_RL_33, gW_at 606 (by decide +kernel) rfl⟩
theorem il_RL_67 : gLk RL 67 yX6_tell 2 := ⟨Or.inl (gW_at 388 (by decide +kernel) rfl), gW_at 62 (by decide +kernel) rfl, by decide +kernel⟩
theorem il_RL_67m : Cond.methodLink RL 67 yX6_tell ∈ gW := gW_at 388 (by decide +kernel) rfl
theorem iv_RL_67 : gLV RL 67 yX6_tell 2 := ⟨il_RL_67, gW_at 389 (by decide +kernel) rfl, gW_at 390 (by decide +kernel) rfl⟩
theorem il_RL_71 : gLk RL 71 yX6_count 1 := ⟨Or.inl (gW_at 599 (by decide +kernel) rfl), gW_at 62 (by decide +kernel) rfl, by decide +kernel⟩
theorem il_RL_71m : Cond.methodLink RL 71 yX6_count ∈ gW := gW_at 599 (by decide +kernel) rfl
theorem iv_RL_71 : gLV RL 71 yX6_count 1 := ⟨il_RL_71, gW_at 600 (by decide +kernel) rfl, gW_at 601 (by decide +kernel) rfl⟩
theorem il_RL_74 : gLk RL 74 yX6_run 0 := ⟨Or.inl (gW_at 411 (by decide +kernel) rfl), gW_at 62 (by decide +kernel) rfl, by decide +kernel⟩
theorem il_RL_74m : Cond.methodLink RL 74 yX6_run ∈ gW := gW_at 411 (by decide +kernel) rfl
theorem iv_RL_74 : gLV RL 74 yX6_run 0 := ⟨il_RL_74, gW_at 412 (by decide +kernel) rfl, gW_at 413 (by decide +kernel) rfl⟩
theorem il_RL_77 : gLk RL 77 yX6_search 4 := ⟨Or.inl (gW_at 503 (by decide +kernel) rfl), gW_at 62 (by decide +kernel) rfl, by decide +kernel⟩
theorem il_RL_77m : Cond.methodLink RL 77 yX6_search ∈ gW := gW_at 503 (by decide +kernel) rfl
theorem iv_RL_77 : gLV RL 77 yX6_search 4 := ⟨il_RL_77, gW_at 504 (by decide +kernel) rfl, gW_at 505 (by decide +kernel) rfl⟩
theorem il_RL_81 : gLk RL 81 yX6_solutions 0 := ⟨Or.inl (gW_at 590 (by decide +kernel) rfl), gW_at 62 (by decide +kernel) rfl, by decide +kernel⟩
theorem il_RL_81m : Cond.methodLink RL 81 yX6_solutions ∈ gW := gW_at 590 (by decide +kernel) rfl
theorem iv_RL_81 : gLV RL 81 yX6_solutions 0 := ⟨il_RL_81, gW_at 591 (by decide +kernel) rfl, gW_at 592 (by decide +kernel) rfl⟩
theorem il_RL_85 : gLk RL 85 yX6_why 2 := ⟨Or.inl (gW_at 483 (by decide +kernel) rfl), gW_at 62 (by decide +kernel) rfl, by decide +kernel⟩
theorem il_RL_85m : Cond.methodLink RL 85 yX6_why ∈ gW := gW_at 483 (by decide +kernel) rfl
theorem iv_RL_85 : gLV RL 85 yX6_why 2 := ⟨il_RL_85, gW_at 484 (by decide +kernel) rfl, gW_at 485 (by decide +kernel) rfl⟩
theorem il_RL_88 : gLk RL 88 yX6_level 0 := ⟨Or.inl (gW_at 447 (by decide +kernel) rfl), gW_at 62 (by decide +kernel) rfl, by decide +kernel⟩
theorem il_RL_88m : Cond.methodLink RL 88 yX6_level ∈ gW := gW_at 447 (by decide +kernel) rfl
theorem iv_RL_88 : gLV RL 88 yX6_level 0 := ⟨il_RL_88, gW_at 448 (by decide +kernel) rfl, gW_at 449 (by decide +kernel) rfl⟩
theorem il_RL_91 : gLk RL 91 yX6_domain 1 := ⟨Or.inl (gW_at 471 (by decide +kernel) rfl), gW_at 62 (by decide +kernel) rfl, by decide +kernel⟩
theorem il_RL_91m : Cond.methodLink RL 91 yX6_domain ∈ gW := gW_at 471 (by decide +kernel) rfl
theorem iv_RL_91 : gLV RL 91 yX6_domain 1 := ⟨il_RL_91, gW_at 472 (by decide +kernel) rfl, gW_at 473 (by decide +kernel) rfl⟩
theorem il_RL_97 : gLk RL 97 yX6_reach 2 := ⟨Or.inl (gW_at 595 (by decide +kernel) rfl), gW_at 62 (by decide +kernel) rfl, by decide +kernel⟩
theorem il_RL_97m : Cond.methodLink RL 97 yX6_reach ∈ gW := gW_at 595 (by decide +kernel) rfl
theorem iv_RL_97 : gLV RL 97 yX6_reach 2 := ⟨il_RL_97, gW_at 596 (by decide +kernel) rfl, gW_at 597 (by decide +kernel) rfl⟩
theorem il_RL_94 : gLk RL 94 yX6_trail 2 := ⟨Or.inl (gW_at 475 (by decide +kernel) rfl), gW_at 62 (by decide +kernel) rfl, by decide +kernel⟩
theorem il_RL_94m : Cond.methodLink RL 94 yX6_trail ∈ gW := gW_at 475 (by decide +kernel) rfl
theorem iv_RL_94 : gLV RL 94 yX6_trail 2 := ⟨il_RL_94, gW_at 476 (by decide +kernel) rfl, gW_at 477 (by decide +kernel) rfl⟩
theorem iw_J6_numberOfTrailingZeros_0f7a4 : Cond.code yJ6_numberOfTrailingZeros_0f7a4 cJ6_numberOfTrailingZeros_0f7a4 2 (some .int) ∈ gW := gW_at 859 (by decide +kernel) rfl
theorem il_RL_100 : gLk RL 100 yJ6_numberOfTrailingZeros_0f7a4 1 := ⟨Or.inl (gW_at 857 (by decide +kernel) rfl), gW_at 79 (by decide +kernel) rfl, by decide +kernel⟩
theorem il_RL_100m : Cond.methodLink RL 100 yJ6_numberOfTrailingZeros_0f7a4 ∈ gW := gW_at 857 (by decide +kernel) rfl
theorem is_RL_100 : gLS RL 100 yJ6_numberOfTrailingZeros_0f7a4 1 := ⟨il_RL_100, gW_at 858 (by decide +kernel) rfl⟩
theorem il_RL_105 : gLk RL 105 yX6_undo 0 := ⟨Or.inl (gW_at 455 (by decide +kernel) rfl), gW_at 62 (by decide +kernel) rfl, by decide +kernel⟩
theorem il_RL_105m : Cond.methodLink RL 105 yX6_undo ∈ gW := gW_at 455 (by decide +kernel) rfl
theorem iv_RL_105 : gLV RL 105 yX6_undo 0 := ⟨il_RL_105, gW_at 456 (by decide +kernel) rfl, gW_at 457 (by decide +kernel) rfl⟩
theorem rm45 : 45 ≤ room_1.frames ∧ 3000 ≤ room_1.locals := ⟨by decide, by decide⟩
theorem rm52 : 52 ≤ room_1.frames ∧ 4000 ≤ room_1.locals := ⟨by decide, by decide⟩
theorem rmK : 600000 ≤ room_1.cells ∧ 7302250 ≤ room_1.slots := ⟨Nat.le_refl _, Nat.le_refl _⟩
def wF1 (a : Nat) : Nat → Int32 := upd (fun _ => 0) 0 (nI a)
def wF2 (g0 : Nat → Int32) (a : Nat) : Nat → Int32 := va_cpy g0 (wF1 a) 0 1 1
def wF3 (g0 : Nat → Int32) (a d : Nat) : Nat → Int32 := upd (wF2 g0 a) 2 (nI d)
def wF4 (g0 g1 : Nat → Int32) (a d : Nat) : Nat → Int32 := va_cpy g1 (wF3 g0 a d) 0 3 1
def wF5 (g0 g1 : Nat → Int32) (a d k : Nat) : Nat → Int32 := upd (wF4 g0 g1 a d) 4 (nI (48 + k))
def wE1 (g2 : Nat → Int32) : Nat → Int32 := va_cpy g2 (fun _ => 0) 0 0 6
def wE2 (g2 : Nat → Int32) (k : Nat) : Nat → Int32 := upd (wE1 g2) 6 (nI (48 + k))
theorem wF5_at {g0 g1 : Nat → Int32} {j K : Nat} (h0 : g0 0 = nI 62) (h1 : g1 0 = nI 43) (hj : j < 6) (k1 : 1 ≤ K) (k2 : K < 3) : ∀ i, i < (tx1 j K).length → (tx1 j K).getD i 0 < 128 ∧ wF5 g0 g1 (97 + (j + 1)) (97 + j) (K - 1) i = nI ((tx1 j K).getD i 0) := by
  intro i hi
  have hi : i < 5 := hi
  have hc : i = 0 ∨ i = 1 ∨ i = 2 ∨ i = 3 ∨ i = 4 := by omega
  rcases hc with rfl | rfl | rfl | rfl | rfl
  · refine ⟨by show 98 + j < 128; omega, ?_⟩
    show nI (97 + (j + 1)) = nI (98 + j)
    rw [show 97 + (j + 1) = 98 + j by omega]
  · exact ⟨by show 62 < 128; omega, h0⟩
  · exact ⟨by show 97 + j < 128; omega, rfl⟩
  · exact ⟨by show 43 < 128; omega, h1⟩
  · refine ⟨by show 47 + K < 128; omega, ?_⟩
    show nI (48 + (K - 1)) = nI (47 + K)
    rw [show 48 + (K - 1) = 47 + K by omega]
theorem wE2_at {g2 : Nat → Int32} {K : Nat} (h2 : ∀ i, i < 6 → g2 i = nI ([104, 58, 98, 62, 97, 43].getD i 0)) (k2 : K < 3) : ∀ i, i < (tx2 K).length → (tx2 K).getD i 0 < 128 ∧ wE2 g2 K i = nI ((tx2 K).getD i 0) := by
  intro i hi
  have hi : i < 7 := hi
  have hc : i = 0 ∨ i = 1 ∨ i = 2 ∨ i = 3 ∨ i = 4 ∨ i = 5 ∨ i = 6 := by omega
  rcases hc with rfl | rfl | rfl | rfl | rfl | rfl | rfl
  · exact ⟨by show 104 < 128; omega, h2 0 (by omega)⟩
  · exact ⟨by show 58 < 128; omega, h2 1 (by omega)⟩
  · exact ⟨by show 98 < 128; omega, h2 2 (by omega)⟩
  · exact ⟨by show 62 < 128; omega, h2 3 (by omega)⟩
  · exact ⟨by show 97 < 128; omega, h2 4 (by omega)⟩
  · exact ⟨by show 43 < 128; omega, h2 5 (by omega)⟩
  · exact ⟨by show 48 + K < 128; omega, rfl⟩
theorem cpy0 {f : Nat → Int32} {n : Nat} {l : List Nat} (h : ∀ i, i < n → l.getD i 0 < 128 ∧ f i = nI (l.getD i 0)) : ∀ i, i < n → l.getD i 0 < 128 ∧ va_cpy f (fun _ => 0) 0 0 n i = nI (l.getD i 0) := by
  intro i hi
  refine ⟨(h i hi).1, ?_⟩
  unfold va_cpy
  rw [if_pos ⟨Nat.zero_le _, by omega⟩, Nat.zero_add, Nat.sub_zero]
  exact (h i hi).2
theorem fit_of {f : Nat → Int32} {n : Nat} {l : List Nat} (h : ∀ i, i < n → l.getD i 0 < 128 ∧ f i = nI (l.getD i 0)) : ∀ i, i < n → fits .byte (.int (f i)) = true := fun i hi => by
  rw [(h i hi).2]
  exact byt_fit _ (h i hi).1
theorem fit1 {f : Nat → Int32} {a : Nat} (ha : a < 128) (h : f 0 = nI a) : ∀ i, i < 1 → fits .byte (.int (f i)) = true := fun i hi => by
  rw [show i = 0 by omega, h]
  exact byt_fit _ ha
theorem wTx1 {p : Program} {l : Launch} {e : Env} {s : State} {m : MethodId} {below : List Frame} {meth : Method} {c : Code} {w : gw} {b : Nat} {x : iO} {t0 u0 t1 u1 : Nat} {g0 g1 : Nat → Int32} {N K j k n : Nat} {S : qW} {h : gH} (X : zX R_law code 10 p s m #[Value.ref b] meth c w.1 w.2.1 x (lA s)) (Y : zW w s (lA s)) (hq0 : x.2.1[0]? = some (t0, u0, 1, g0)) (hq1 : x.2.1[1]? = some (t1, u1, 1, g1)) (hv0 : vk_R R_law 47 ">" t0 s) (hv1 : vk_R R_law 52 "+" t1 s) (h0 : g0 0 = nI 62) (h1 : g1 0 = nI 43) (hN : lawN N K) (hj : j + 1 < N) (HA : AX h S) (HB : BS S j K) (hk : k + 4 ≤ 600000) (hn : n + 29 ≤ 7302250) (kk : ∀ h1 S1, AX h1 S1 → BS S1 (j + 1) K → zJ p l e room_1 s m #[Value.ref b] below meth c (lA s) (lw_Z below #[Value.ref b] s) w.1 10 29 [(4, .int (nI (j + 2))), (0, .ref b), (1, .ref (w.2.2 0)), (2, .int (nI N)), (3, .int (nI K))] [] (gws w h1 ++ []) (k + 4) (n + 29)) : zJ p l e room_1 s m #[Value.ref b] below meth c (lA s) (lw_Z below #[Value.ref b] s) w.1 10 35 [(4, .int (nI (j + 1))), (0, .ref b), (1, .ref (w.2.2 0)), (2, .int (nI N)), (3, .int (nI K))] [] (gws w h ++ []) (k) (n) := by
  obtain ⟨n1, n2, k1, k2⟩ := id hN
  have hF := wF5_at (j := j) (K := K) h0 h1 (by omega) k1 k2
  refine Z_aload_n 2 X (gxd kLw0 23 rfl) rfl rfl ?_
  refine Z_new X (gxd kLw0 24 rfl) in_RL_37 (by show k + 1 ≤ 600000; omega) (by show n + 4 ≤ 7302250; omega) (fun o => ?_)
  rw [List.append_assoc]
  show zJ p l e room_1 s m #[Value.ref b] below meth c (lA s) (lw_Z below #[Value.ref b] s) w.1 10 39 [(4, .int (nI (j + 1))), (0, .ref b), (1, .ref (w.2.2 0)), (2, .int (nI N)), (3, .int (nI K))] [.ref o, .ref (w.2.2 0)] (gws w h ++ [(o, .inr (8, fz8))]) (k + 1) (n + 4)
  refine Z_dup X (gxd kLw1 0 rfl) rfl ?_
  refine Z_callI (As := []) (rest := [.ref o, .ref (w.2.2 0)]) (W0 := gws w h) (es := [(o, .inr (8, fz8))]) (wc := [(o, .inr (8, fz8))]) (wr := []) (a0 := 65) [0] [] X (gxd kLw1 1 rfl) il_RL_39 il_RL_39m rfl ii_J4_init_da8c8 iw_J4_init_da8c8 rfl rfl (Nat.le_of_ble_eq_true rfl) ⟨(Nat.le_of_ble_eq_true rfl), (Nat.le_of_ble_eq_true rfl)⟩ rfl rfl ⟨by show k + 2 ≤ 600000; omega, by show n + 20 ≤ 7302250; omega⟩ i_binit (xsub_nil _) (gws_len w h) ⟨rfl, rfl, by decide, by decide +kernel, by decide +kernel⟩ ?_
  rintro _ _ ⟨v, rfl, rfl⟩
  show zJ p l e room_1 s m #[Value.ref b] below meth c (lA s) (lw_Z below #[Value.ref b] s) w.1 10 43 [(4, .int (nI (j + 1))), (0, .ref b), (1, .ref (w.2.2 0)), (2, .int (nI N)), (3, .int (nI K))] [.ref o, .ref (w.2.2 0)] (gws w h ++ [(o, .inr (8, [.ref v, .int 0, .int 0, .int (nI 0)])), (v, .inl (w.2.1.2.1, 16, .inl (fun _ => 0)))]) (k + 2) (n + 20)
  refine Z_iload 0 X (gxd kLw1 2 rfl) rfl ?_
  refine Z_callS (As := [.int (nI (j + 1))]) (rest := [.ref o, .ref (w.2.2 0)]) (W0 := gws w h) (es := [(o, .inr (8, [.ref v, .int 0, .int 0, .int (nI 0)])), (v, .inl (w.2.1.2.1, 16, .inl (fun _ => 0)))]) (wc := []) (wr := [(o, .inr (8, [.ref v, .int 0, .int 0, .int (nI 0)])), (v, .inl (w.2.1.2.1, 16, .inl (fun _ => 0)))]) (a0 := 65) [] [0, 1] X (gxd kLw1 3 rfl) is_RL_40 iw_L_name rfl rfl (Nat.le_of_ble_eq_true rfl) ⟨(Nat.le_of_ble_eq_true rfl), (Nat.le_of_ble_eq_true rfl)⟩ rfl rfl ⟨by show k + 2 ≤ 600000; omega, by show n + 20 ≤ 7302250; omega⟩ (i_name (a := j + 1) (by omega)) (xsub_nil _) (gws_len w h) ⟨rfl, rfl, by decide, by decide +kernel, by decide +kernel⟩ ?_
  rintro _ _ ⟨rfl, rfl⟩
  show zJ p l e room_1 s m #[Value.ref b] below meth c (lA s) (lw_Z below #[Value.ref b] s) w.1 10 48 [(4, .int (nI (j + 1))), (0, .ref b), (1, .ref (w.2.2 0)), (2, .int (nI N)), (3, .int (nI K))] [.int (nI (97 + (j + 1))), .ref o, .ref (w.2.2 0)] (gws w h ++ [(o, .inr (8, [.ref v, .int 0, .int 0, .int (nI 0)])), (v, .inl (w.2.1.2.1, 16, .inl (fun _ => 0)))]) (k + 2) (n + 20)
  refine Z_callV (T := TJ4) (N1 := 4) (ci := 8) (As := [.int (nI (97 + (j + 1)))]) (rest := [.ref (w.2.2 0)]) (W0 := gws w h) (es := [(o, .inr (8, [.ref v, .int 0, .int 0, .int (nI 0)])), (v, .inl (w.2.1.2.1, 16, .inl (fun _ => 0)))]) (wc := [(o, .inr (8, [.ref v, .int 0, .int 0, .int (nI 0)])), (v, .inl (w.2.1.2.1, 16, .inl (fun _ => 0)))]) (wr := []) (a0 := 65) [0, 1] [] X (gxd kLw1 4 rfl) iv_RL_43 iw_J4_append_cf468 rfl rfl rfl rfl (Nat.le_of_ble_eq_true rfl) ⟨(Nat.le_of_ble_eq_true rfl), (Nat.le_of_ble_eq_true rfl)⟩ rfl rfl ⟨by show k + 2 ≤ 600000; omega, by show n + 20 ≤ 7302250; omega⟩ (i_apc (f := (fun _ => 0)) (j := 0) (a := 97 + (j + 1)) (by decide) (by omega)) (xsub_nil _) (gws_len w h) ⟨rfl, rfl, by decide, by decide +kernel, by decide +kernel⟩ ?_
  rintro _ _ ⟨rfl, rfl⟩
  show zJ p l e room_1 s m #[Value.ref b] below meth c (lA s) (lw_Z below #[Value.ref b] s) w.1 10 51 [(4, .int (nI (j + 1))), (0, .ref b), (1, .ref (w.2.2 0)), (2, .int (nI N)), (3, .int (nI K))] [.ref o, .ref (w.2.2 0)] (gws w h ++ [(v, .inl (w.2.1.2.1, 16, .inl (wF1 (97 + (j + 1))))), (o, .inr (8, [.ref v, .int 0, .int 0, .int (nI 1)]))]) (k + 2) (n + 20)
  refine Z_ldcS X hv0 (gxd kLw1 5 rfl) ?_
  refine Z_callV (T := TJ4) (N1 := 4) (ci := 8) (As := [.ref t0]) (rest := [.ref (w.2.2 0)]) (W0 := gws w h) (es := [(v, .inl (w.2.1.2.1, 16, .inl (wF1 (97 + (j + 1))))), (o, .inr (8, [.ref v, .int 0, .int 0, .int (nI 1)]))]) (wc := [(o, .inr (8, [.ref v, .int 0, .int 0, .int (nI 1)])), (v, .inl (w.2.1.2.1, 16, .inl (wF1 (97 + (j + 1)))))]) (wr := []) (a0 := 65) [1, 0] [] X (gxd kLw1 6 rfl) iv_RL_49 iw_J4_append_15ec4 rfl rfl rfl rfl (Nat.le_of_ble_eq_true rfl) ⟨(Nat.le_of_ble_eq_true rfl), (Nat.le_of_ble_eq_true rfl)⟩ rfl rfl ⟨by show k + 2 ≤ 600000; omega, by show n + 20 ≤ 7302250; omega⟩ (i_aps (q := (t0, u0, 1, g0)) (f := (wF1 (97 + (j + 1)))) (j := 1) (by show 1 + 1 ≤ 16; decide) (fit1 (a := 62) (by decide) h0)) (xsub_at 0 hq0) (gws_len w h) ⟨rfl, rfl, by decide, by decide +kernel, by decide +kernel⟩ ?_
  rintro _ _ ⟨rfl, rfl⟩
  show zJ p l e room_1 s m #[Value.ref b] below meth c (lA s) (lw_Z below #[Value.ref b] s) w.1 10 56 [(4, .int (nI (j + 1))), (0, .ref b), (1, .ref (w.2.2 0)), (2, .int (nI N)), (3, .int (nI K))] [.ref o, .ref (w.2.2 0)] (gws w h ++ [(o, .inr (8, [.ref v, .int 0, .int 0, .int (nI 2)])), (v, .inl (w.2.1.2.1, 16, .inl (wF2 g0 (97 + (j + 1)))))]) (k + 2) (n + 20)
  refine Z_iload 0 X (gxd kLw1 7 rfl) rfl ?_
  refine Z_iconst (v := 1) X (gxd kLw1 8 rfl) (by decide) ?_
  refine Z_isub (v := nI j) X (gxd kLw1 9 rfl) (nI_pred j) ?_
  refine Z_callS (As := [.int (nI j)]) (rest := [.ref o, .ref (w.2.2 0)]) (W0 := gws w h) (es := [(o, .inr (8, [.ref v, .int 0, .int 0, .int (nI 2)])), (v, .inl (w.2.1.2.1, 16, .inl (wF2 g0 (97 + (j + 1)))))]) (wc := []) (wr := [(o, .inr (8, [.ref v, .int 0, .int 0, .int (nI 2)])), (v, .inl (w.2.1.2.1, 16, .inl (wF2 g0 (97 + (j + 1)))))]) (a0 := 65) [] [0, 1] X (gxd kLw1 10 rfl) is_RL_40 iw_L_name rfl rfl (Nat.le_of_ble_eq_true rfl) ⟨(Nat.le_of_ble_eq_true rfl), (Nat.le_of_ble_eq_true rfl)⟩ rfl rfl ⟨by show k + 2 ≤ 600000; omega, by show n + 20 ≤ 7302250; omega⟩ (i_name (a := j) (by omega)) (xsub_nil _) (gws_len w h) ⟨rfl, rfl, by decide, by decide +kernel, by decide +kernel⟩ ?_
  rintro _ _ ⟨rfl, rfl⟩
  show zJ p l e room_1 s m #[Value.ref b] below meth c (lA s) (lw_Z below #[Value.ref b] s) w.1 10 63 [(4, .int (nI (j + 1))), (0, .ref b), (1, .ref (w.2.2 0)), (2, .int (nI N)), (3, .int (nI K))] [.int (nI (97 + j)), .ref o, .ref (w.2.2 0)] (gws w h ++ [(o, .inr (8, [.ref v, .int 0, .int 0, .int (nI 2)])), (v, .inl (w.2.1.2.1, 16, .inl (wF2 g0 (97 + (j + 1)))))]) (k + 2) (n + 20)
  refine Z_callV (T := TJ4) (N1 := 4) (ci := 8) (As := [.int (nI (97 + j))]) (rest := [.ref (w.2.2 0)]) (W0 := gws w h) (es := [(o, .inr (8, [.ref v, .int 0, .int 0, .int (nI 2)])), (v, .inl (w.2.1.2.1, 16, .inl (wF2 g0 (97 + (j + 1)))))]) (wc := [(o, .inr (8, [.ref v, .int 0, .int 0, .int (nI 2)])), (v, .inl (w.2.1.2.1, 16, .inl (wF2 g0 (97 + (j + 1)))))]) (wr := []) (a0 := 65) [0, 1] [] X (gxd kLw1 11 rfl) iv_RL_43 iw_J4_append_cf468 rfl rfl rfl rfl (Nat.le_of_ble_eq_true rfl) ⟨(Nat.le_of_ble_eq_true rfl), (Nat.le_of_ble_eq_true rfl)⟩ rfl rfl ⟨by show k + 2 ≤ 600000; omega, by show n + 20 ≤ 7302250; omega⟩ (i_apc (f := (wF2 g0 (97 + (j + 1)))) (j := 2) (a := 97 + j) (by decide) (by omega)) (xsub_nil _) (gws_len w h) ⟨rfl, rfl, by decide, by decide +kernel, by decide +kernel⟩ ?_
  rintro _ _ ⟨rfl, rfl⟩
  show zJ p l e room_1 s m #[Value.ref b] below meth c (lA s) (lw_Z below #[Value.ref b] s) w.1 10 66 [(4, .int (nI (j + 1))), (0, .ref b), (1, .ref (w.2.2 0)), (2, .int (nI N)), (3, .int (nI K))] [.ref o, .ref (w.2.2 0)] (gws w h ++ [(v, .inl (w.2.1.2.1, 16, .inl (wF3 g0 (97 + (j + 1)) (97 + j)))), (o, .inr (8, [.ref v, .int 0, .int 0, .int (nI 3)]))]) (k + 2) (n + 20)
  refine Z_ldcS X hv1 (gxd kLw1 12 rfl) ?_
  refine Z_callV (T := TJ4) (N1 := 4) (ci := 8) (As := [.ref t1]) (rest := [.ref (w.2.2 0)]) (W0 := gws w h) (es := [(v, .inl (w.2.1.2.1, 16, .inl (wF3 g0 (97 + (j + 1)) (97 + j)))), (o, .inr (8, [.ref v, .int 0, .int 0, .int (nI 3)]))]) (wc := [(o, .inr (8, [.ref v, .int 0, .int 0, .int (nI 3)])), (v, .inl (w.2.1.2.1, 16, .inl (wF3 g0 (97 + (j + 1)) (97 + j))))]) (wr := []) (a0 := 65) [1, 0] [] X (gxd kLw1 13 rfl) iv_RL_49 iw_J4_append_15ec4 rfl rfl rfl rfl (Nat.le_of_ble_eq_true rfl) ⟨(Nat.le_of_ble_eq_true rfl), (Nat.le_of_ble_eq_true rfl)⟩ rfl rfl ⟨by show k + 2 ≤ 600000; omega, by show n + 20 ≤ 7302250; omega⟩ (i_aps (q := (t1, u1, 1, g1)) (f := (wF3 g0 (97 + (j + 1)) (97 + j))) (j := 3) (by show 3 + 1 ≤ 16; decide) (fit1 (a := 43) (by decide) h1)) (xsub_at 1 hq1) (gws_len w h) ⟨rfl, rfl, by decide, by decide +kernel, by decide +kernel⟩ ?_
  rintro _ _ ⟨rfl, rfl⟩
  show zJ p l e room_1 s m #[Value.ref b] below meth c (lA s) (lw_Z below #[Value.ref b] s) w.1 10 71 [(4, .int (nI (j + 1))), (0, .ref b), (1, .ref (w.2.2 0)), (2, .int (nI N)), (3, .int (nI K))] [.ref o, .ref (w.2.2 0)] (gws w h ++ [(o, .inr (8, [.ref v, .int 0, .int 0, .int (nI 4)])), (v, .inl (w.2.1.2.1, 16, .inl (wF4 g0 g1 (97 + (j + 1)) (97 + j))))]) (k + 2) (n + 20)
  refine Z_iload_n 4 X (gxd kLw1 14 rfl) rfl rfl ?_
  refine Z_iconst (v := 1) X (gxd kLw1 15 rfl) (by decide) ?_
  refine Z_isub (v := nI (K - 1)) X (gxd kLw1 16 rfl) (nsub (a := K) (b := 1) k1) ?_
  refine Z_callV (T := TJ4) (N1 := 4) (ci := 8) (As := [.int (nI (K - 1))]) (rest := [.ref (w.2.2 0)]) (W0 := gws w h) (es := [(o, .inr (8, [.ref v, .int 0, .int 0, .int (nI 4)])), (v, .inl (w.2.1.2.1, 16, .inl (wF4 g0 g1 (97 + (j + 1)) (97 + j))))]) (wc := [(o, .inr (8, [.ref v, .int 0, .int 0, .int (nI 4)])), (v, .inl (w.2.1.2.1, 16, .inl (wF4 g0 g1 (97 + (j + 1)) (97 + j))))]) (wr := []) (a0 := 65) [0, 1] [] X (gxd kLw1 17 rfl) iv_RL_54 iw_J4_append_bf812 rfl rfl rfl rfl (Nat.le_of_ble_eq_true rfl) ⟨(Nat.le_of_ble_eq_true rfl), (Nat.le_of_ble_eq_true rfl)⟩ rfl rfl ⟨by show k + 2 ≤ 600000; omega, by show n + 20 ≤ 7302250; omega⟩ (i_api (f := (wF4 g0 g1 (97 + (j + 1)) (97 + j))) (j := 4) (a := K - 1) (by decide) (by omega)) (xsub_nil _) (gws_len w h) ⟨rfl, rfl, by decide, by decide +kernel, by decide +kernel⟩ ?_
  rintro _ _ ⟨rfl, rfl⟩
  show zJ p l e room_1 s m #[Value.ref b] below meth c (lA s) (lw_Z below #[Value.ref b] s) w.1 10 77 [(4, .int (nI (j + 1))), (0, .ref b), (1, .ref (w.2.2 0)), (2, .int (nI N)), (3, .int (nI K))] [.ref o, .ref (w.2.2 0)] (gws w h ++ [(o, .inr (8, [.ref v, .int 0, .int 0, .int (nI 5)])), (v, .inl (w.2.1.2.1, 16, .inl (wF5 g0 g1 (97 + (j + 1)) (97 + j) (K - 1))))]) (k + 2) (n + 20)
  refine Z_callV (T := TJ4) (N1 := 4) (ci := 8) (As := []) (rest := [.ref (w.2.2 0)]) (W0 := gws w h) (es := [(o, .inr (8, [.ref v, .int 0, .int 0, .int (nI 5)])), (v, .inl (w.2.1.2.1, 16, .inl (wF5 g0 g1 (97 + (j + 1)) (97 + j) (K - 1))))]) (wc := [(o, .inr (8, [.ref v, .int 0, .int 0, .int (nI 5)])), (v, .inl (w.2.1.2.1, 16, .inl (wF5 g0 g1 (97 + (j + 1)) (97 + j) (K - 1))))]) (wr := []) (a0 := 65) [0, 1] [] X (gxd kLw1 18 rfl) iv_RL_57 iw_J4_toString_0e30d rfl rfl rfl rfl (Nat.le_of_ble_eq_true rfl) ⟨(Nat.le_of_ble_eq_true rfl), (Nat.le_of_ble_eq_true rfl)⟩ rfl rfl ⟨by show k + 4 ≤ 600000; omega, by show n + 29 ≤ 7302250; omega⟩ (i_tostr (f := (wF5 g0 g1 (97 + (j + 1)) (97 + j) (K - 1))) (j := 5) (by decide) (fit_of hF)) (xsub_nil _) (gws_len w h) ⟨rfl, rfl, by decide, by decide +kernel, by decide +kernel⟩ ?_
  rintro _ _ ⟨t, u, rfl, rfl⟩
  show zJ p l e room_1 s m #[Value.ref b] below meth c (lA s) (lw_Z below #[Value.ref b] s) w.1 10 80 [(4, .int (nI (j + 1))), (0, .ref b), (1, .ref (w.2.2 0)), (2, .int (nI N)), (3, .int (nI K))] [.ref t, .ref (w.2.2 0)] (gws w h ++ [(t, .inr (7, [.ref u, .int 0, .int 0, .int 0])), (o, .inr (8, [.ref v, .int 0, .int 0, .int (nI 5)])), (v, .inl (w.2.1.2.1, 16, .inl (wF5 g0 g1 (97 + (j + 1)) (97 + j) (K - 1)))), (u, .inl (w.2.1.2.1, 5, .inl (va_cpy (wF5 g0 g1 (97 + (j + 1)) (97 + j) (K - 1)) (fun _ => 0) 0 0 5)))]) (k + 4) (n + 29)
  refine Z_text (S := S) (tx := tx1 j K) (i := 0) (j := 3) (t := t) (u := u) (len := 5) (F := va_cpy (wF5 g0 g1 (97 + (j + 1)) (97 + j) (K - 1)) (fun _ => 0) 0 0 5) X Y rm52 ⟨by show k + 4 ≤ 600000; omega, by show n + 29 ≤ 7302250; omega⟩ HA HB.1 (gxd kLw1 19 rfl) is_RL_61 iw_L_text (Nat.le_of_ble_eq_true rfl) rfl rfl rfl (Nat.le_of_ble_eq_true rfl) (fun i hi => ((cpy0 hF) i hi).1) (fun i hi => ((cpy0 hF) i hi).2) (fun h1 H1 => ?_)
  obtain ⟨e1, B1⟩ := BS_step HB (show j < 5 by omega) k1 k2
  rw [e1]
  generalize (s_rule (sT S (tx1 j K)) Ts0).2 = S1 at H1 B1
  refine Z_iload 0 X (gxd kLw1 20 rfl) rfl ?_
  refine Z_iconst (v := 1) X (gxd kLw1 21 rfl) (by decide) ?_
  refine Z_isub (v := nI j) X (gxd kLw1 22 rfl) (nI_pred j) ?_
  refine Z_icmp_eq (tgt := 92) X (gxd kLw1 23 rfl) rfl (fun _ => ?_) (fun z => absurd rfl z)
  refine Z_iinc 0 (v := nI (j + 2)) (la2 := [(4, .int (nI (j + 2))), (0, .ref b), (1, .ref (w.2.2 0)), (2, .int (nI N)), (3, .int (nI K))]) X (gxd kLw2 1 rfl) rfl (nI_add (j + 1) 1) (by decide) rfl ?_
  refine Z_goto (tgt := 29) X (gxd kLw2 2 rfl) rfl ?_
  exact kk h1 S1 H1 B1
theorem wL1 {p : Program} {l : Launch} {e : Env} {s : State} {m : MethodId} {below : List Frame} {meth : Method} {c : Code} {w : gw} {b : Nat} {x : iO} {t0 u0 t1 u1 : Nat} {g0 g1 : Nat → Int32} {N K : Nat} (X : zX R_law code 10 p s m #[Value.ref b] meth c w.1 w.2.1 x (lA s)) (Y : zW w s (lA s)) (hq0 : x.2.1[0]? = some (t0, u0, 1, g0)) (hq1 : x.2.1[1]? = some (t1, u1, 1, g1)) (hv0 : vk_R R_law 47 ">" t0 s) (hv1 : vk_R R_law 52 "+" t1 s) (h0 : g0 0 = nI 62) (h1 : g1 0 = nI 43) (hN : lawN N K) (kk : ∀ h S, AX h S → BS S (N - 1) K → zJ p l e room_1 s m #[Value.ref b] below meth c (lA s) (lw_Z below #[Value.ref b] s) w.1 10 98 [(4, .int (nI N)), (0, .ref b), (1, .ref (w.2.2 0)), (2, .int (nI N)), (3, .int (nI K))] [] (gws w h ++ []) (90000 * N) (1000000 * N)) : ∀ (m0 j : Nat) (h : gH) (S : qW), j + m0 = N - 1 → AX h S → BS S j K → zJ p l e room_1 s m #[Value.ref b] below meth c (lA s) (lw_Z below #[Value.ref b] s) w.1 10 29 [(4, .int (nI (j + 1))), (0, .ref b), (1, .ref (w.2.2 0)), (2, .int (nI N)), (3, .int (nI K))] [] (gws w h ++ []) (90000 * (j + 1)) (1000000 * (j + 1)) := by
  obtain ⟨n1, n2, k1, k2⟩ := id hN
  intro m0
  induction m0 with
  | zero =>
    intro j h S hj HA HB
    have ej : j + 1 = N := by omega
    refine Z_iload 0 X (gxd kLw0 20 rfl) rfl ?_
    refine Z_iload_n 3 X (gxd kLw0 21 rfl) rfl rfl ?_
    refine Z_icmp_ge (tgt := 98) X (gxd kLw0 22 rfl) rfl (fun _ => ?_) (fun z => absurd z (by rw [ej]; exact nI_nlt (Nat.le_refl _) (by omega)))
    have ej2 : j = N - 1 := by omega
    subst ej2
    rw [ej]
    exact kk h S HA HB
  | succ m0 ih =>
    intro j h S hj HA HB
    refine Z_iload 0 X (gxd kLw0 20 rfl) rfl ?_
    refine Z_iload_n 3 X (gxd kLw0 21 rfl) rfl rfl ?_
    refine Z_icmp_ge (tgt := 98) X (gxd kLw0 22 rfl) rfl (fun z => absurd (nI_lt (a := j + 1) (b := N) (by omega) (by omega)) z) (fun _ => ?_)
    refine wTx1 X Y hq0 hq1 hv0 hv1 h0 h1 hN (by omega) HA HB (by omega) (by omega) (fun h3 S3 H3 B3 => ?_)
    refine zJ_widen (k2 := 90000 * (j + 1 + 1)) (n2 := 1000000 * (j + 1 + 1)) (by omega) (by omega) ?_
    exact ih (j + 1) h3 S3 (by omega) H3 B3
theorem wTx2 {p : Program} {l : Launch} {e : Env} {s : State} {m : MethodId} {below : List Frame} {meth : Method} {c : Code} {w : gw} {b : Nat} {x : iO} {t2 u2 : Nat} {g2 : Nat → Int32} {N K k n : Nat} {S : qW} {h : gH} (X : zX R_law code 10 p s m #[Value.ref b] meth c w.1 w.2.1 x (lA s)) (Y : zW w s (lA s)) (hq2 : x.2.1[2]? = some (t2, u2, 6, g2)) (hv2 : vk_R R_law 65 "h:b>a+" t2 s) (h2 : ∀ i, i < 6 → g2 i = nI ([104, 58, 98, 62, 97, 43].getD i 0)) (hN : lawN N K) (HA : AX h S) (HB : BS S (N - 1) K) (hk : k + 4 ≤ 600000) (hn : n + 31 ≤ 7302250) (kk : ∀ h1 S1, AX h1 S1 → CS S1 N K (cfull, 2 ^ N - 1) [] 0 → zJ p l e room_1 s m #[Value.ref b] below meth c (lA s) (lw_Z below #[Value.ref b] s) w.1 10 132 [(4, .int (nI N)), (0, .ref b), (1, .ref (w.2.2 0)), (2, .int (nI N)), (3, .int (nI K))] [] (gws w h1 ++ []) (600000) (7302250)) : zJ p l e room_1 s m #[Value.ref b] below meth c (lA s) (lw_Z below #[Value.ref b] s) w.1 10 98 [(4, .int (nI N)), (0, .ref b), (1, .ref (w.2.2 0)), (2, .int (nI N)), (3, .int (nI K))] [] (gws w h ++ []) (k) (n) := by
  obtain ⟨n1, n2, k1, k2⟩ := id hN
  have hF := wE2_at (K := K) h2 k2
  refine Z_aload_n 2 X (gxd kLw2 3 rfl) rfl rfl ?_
  refine Z_new X (gxd kLw2 4 rfl) in_RL_37 (by show k + 1 ≤ 600000; omega) (by show n + 4 ≤ 7302250; omega) (fun o => ?_)
  rw [List.append_assoc]
  show zJ p l e room_1 s m #[Value.ref b] below meth c (lA s) (lw_Z below #[Value.ref b] s) w.1 10 102 [(4, .int (nI N)), (0, .ref b), (1, .ref (w.2.2 0)), (2, .int (nI N)), (3, .int (nI K))] [.ref o, .ref (w.2.2 0)] (gws w h ++ [(o, .inr (8, fz8))]) (k + 1) (n + 4)
  refine Z_dup X (gxd kLw2 5 rfl) rfl ?_
  refine Z_callI (As := []) (rest := [.ref o, .ref (w.2.2 0)]) (W0 := gws w h) (es := [(o, .inr (8, fz8))]) (wc := [(o, .inr (8, fz8))]) (wr := []) (a0 := 65) [0] [] X (gxd kLw2 6 rfl) il_RL_39 il_RL_39m rfl ii_J4_init_da8c8 iw_J4_init_da8c8 rfl rfl (Nat.le_of_ble_eq_true rfl) ⟨(Nat.le_of_ble_eq_true rfl), (Nat.le_of_ble_eq_true rfl)⟩ rfl rfl ⟨by show k + 2 ≤ 600000; omega, by show n + 20 ≤ 7302250; omega⟩ i_binit (xsub_nil _) (gws_len w h) ⟨rfl, rfl, by decide, by decide +kernel, by decide +kernel⟩ ?_
  rintro _ _ ⟨v, rfl, rfl⟩
  show zJ p l e room_1 s m #[Value.ref b] below meth c (lA s) (lw_Z below #[Value.ref b] s) w.1 10 106 [(4, .int (nI N)), (0, .ref b), (1, .ref (w.2.2 0)), (2, .int (nI N)), (3, .int (nI K))] [.ref o, .ref (w.2.2 0)] (gws w h ++ [(o, .inr (8, [.ref v, .int 0, .int 0, .int (nI 0)])), (v, .inl (w.2.1.2.1, 16, .inl (fun _ => 0)))]) (k + 2) (n + 20)
  refine Z_ldcS X hv2 (gxd kLw2 7 rfl) ?_
  refine Z_callV (T := TJ4) (N1 := 4) (ci := 8) (As := [.ref t2]) (rest := [.ref (w.2.2 0)]) (W0 := gws w h) (es := [(o, .inr (8, [.ref v, .int 0, .int 0, .int (nI 0)])), (v, .inl (w.2.1.2.1, 16, .inl (fun _ => 0)))]) (wc := [(o, .inr (8, [.ref v, .int 0, .int 0, .int (nI 0)])), (v, .inl (w.2.1.2.1, 16, .inl (fun _ => 0)))]) (wr := []) (a0 := 65) [0, 1] [] X (gxd kLw2 8 rfl) iv_RL_49 iw_J4_append_15ec4 rfl rfl rfl rfl (Nat.le_of_ble_eq_true rfl) ⟨(Nat.le_of_ble_eq_true rfl), (Nat.le_of_ble_eq_true rfl)⟩ rfl rfl ⟨by show k + 2 ≤ 600000; omega, by show n + 20 ≤ 7302250; omega⟩ (i_aps (q := (t2, u2, 6, g2)) (f := (fun _ => 0)) (j := 0) (by show 0 + 6 ≤ 16; decide) (fun i hi => by show fits .byte (.int (g2 i)) = true; rw [h2 i hi]; exact byt_fit _ ((by decide : ∀ i, i < 6 → [104, 58, 98, 62, 97, 43].getD i 0 < 128) i hi))) (xsub_at 2 hq2) (gws_len w h) ⟨rfl, rfl, by decide, by decide +kernel, by decide +kernel⟩ ?_
  rintro _ _ ⟨rfl, rfl⟩
  show zJ p l e room_1 s m #[Value.ref b] below meth c (lA s) (lw_Z below #[Value.ref b] s) w.1 10 111 [(4, .int (nI N)), (0, .ref b), (1, .ref (w.2.2 0)), (2, .int (nI N)), (3, .int (nI K))] [.ref o, .ref (w.2.2 0)] (gws w h ++ [(o, .inr (8, [.ref v, .int 0, .int 0, .int (nI 6)])), (v, .inl (w.2.1.2.1, 16, .inl (wE1 g2)))]) (k + 2) (n + 20)
  refine Z_iload_n 4 X (gxd kLw2 9 rfl) rfl rfl ?_
  refine Z_callV (T := TJ4) (N1 := 4) (ci := 8) (As := [.int (nI K)]) (rest := [.ref (w.2.2 0)]) (W0 := gws w h) (es := [(o, .inr (8, [.ref v, .int 0, .int 0, .int (nI 6)])), (v, .inl (w.2.1.2.1, 16, .inl (wE1 g2)))]) (wc := [(o, .inr (8, [.ref v, .int 0, .int 0, .int (nI 6)])), (v, .inl (w.2.1.2.1, 16, .inl (wE1 g2)))]) (wr := []) (a0 := 65) [0, 1] [] X (gxd kLw2 10 rfl) iv_RL_54 iw_J4_append_bf812 rfl rfl rfl rfl (Nat.le_of_ble_eq_true rfl) ⟨(Nat.le_of_ble_eq_true rfl), (Nat.le_of_ble_eq_true rfl)⟩ rfl rfl ⟨by show k + 2 ≤ 600000; omega, by show n + 20 ≤ 7302250; omega⟩ (i_api (f := (wE1 g2)) (j := 6) (a := K) (by decide) (by omega)) (xsub_nil _) (gws_len w h) ⟨rfl, rfl, by decide, by decide +kernel, by decide +kernel⟩ ?_
  rintro _ _ ⟨rfl, rfl⟩
  show zJ p l e room_1 s m #[Value.ref b] below meth c (lA s) (lw_Z below #[Value.ref b] s) w.1 10 115 [(4, .int (nI N)), (0, .ref b), (1, .ref (w.2.2 0)), (2, .int (nI N)), (3, .int (nI K))] [.ref o, .ref (w.2.2 0)] (gws w h ++ [(o, .inr (8, [.ref v, .int 0, .int 0, .int (nI 7)])), (v, .inl (w.2.1.2.1, 16, .inl (wE2 g2 K)))]) (k + 2) (n + 20)
  refine Z_callV (T := TJ4) (N1 := 4) (ci := 8) (As := []) (rest := [.ref (w.2.2 0)]) (W0 := gws w h) (es := [(o, .inr (8, [.ref v, .int 0, .int 0, .int (nI 7)])), (v, .inl (w.2.1.2.1, 16, .inl (wE2 g2 K)))]) (wc := [(o, .inr (8, [.ref v, .int 0, .int 0, .int (nI 7)])), (v, .inl (w.2.1.2.1, 16, .inl (wE2 g2 K)))]) (wr := []) (a0 := 65) [0, 1] [] X (gxd kLw2 11 rfl) iv_RL_57 iw_J4_toString_0e30d rfl rfl rfl rfl (Nat.le_of_ble_eq_true rfl) ⟨(Nat.le_of_ble_eq_true rfl), (Nat.le_of_ble_eq_true rfl)⟩ rfl rfl ⟨by show k + 4 ≤ 600000; omega, by show n + 31 ≤ 7302250; omega⟩ (i_tostr (f := (wE2 g2 K)) (j := 7) (by decide) (fit_of hF)) (xsub_nil _) (gws_len w h) ⟨rfl, rfl, by decide, by decide +kernel, by decide +kernel⟩ ?_
  rintro _ _ ⟨t, u, rfl, rfl⟩
  show zJ p l e room_1 s m #[Value.ref b] below meth c (lA s) (lw_Z below #[Value.ref b] s) w.1 10 118 [(4, .int (nI N)), (0, .ref b), (1, .ref (w.2.2 0)), (2, .int (nI N)), (3, .int (nI K))] [.ref t, .ref (w.2.2 0)] (gws w h ++ [(t, .inr (7, [.ref u, .int 0, .int 0, .int 0])), (o, .inr (8, [.ref v, .int 0, .int 0, .int (nI 7)])), (v, .inl (w.2.1.2.1, 16, .inl (wE2 g2 K))), (u, .inl (w.2.1.2.1, 7, .inl (va_cpy (wE2 g2 K) (fun _ => 0) 0 0 7)))]) (k + 4) (n + 31)
  refine Z_text (S := S) (tx := tx2 K) (i := 0) (j := 3) (t := t) (u := u) (len := 7) (F := va_cpy (wE2 g2 K) (fun _ => 0) 0 0 7) X Y rm52 ⟨by show k + 4 ≤ 600000; omega, by show n + 31 ≤ 7302250; omega⟩ HA HB.1 (gxd kLw2 12 rfl) is_RL_61 iw_L_text (Nat.le_of_ble_eq_true rfl) rfl rfl rfl (Nat.le_of_ble_eq_true rfl) (fun i hi => ((cpy0 hF) i hi).1) (fun i hi => ((cpy0 hF) i hi).2) (fun h1 H1 => ?_)
  obtain ⟨e1, B1⟩ := BS_end HB hN
  rw [e1]
  generalize (s_rule (sT S (tx2 K)) Ts0).2 = S1 at H1 B1
  refine Z_iload_n 3 X (gxd kLw2 13 rfl) rfl rfl ?_
  refine Z_iconst (v := 1) X (gxd kLw2 14 rfl) (by decide) ?_
  refine Z_isub (v := nI (N - 1)) X (gxd kLw2 15 rfl) (nsub (a := N) (b := 1) (by omega)) ?_
  refine Z_icmp_eq (tgt := 129) X (gxd kLw2 16 rfl) rfl (fun _ => ?_) (fun z => absurd rfl z)
  refine Z_iload_n 3 X (gxd kLw2 19 rfl) rfl rfl ?_
  refine Z_istore (la2 := [(4, .int (nI N)), (0, .ref b), (1, .ref (w.2.2 0)), (2, .int (nI N)), (3, .int (nI K))]) X (gxd kLw2 20 rfl) (by decide) rfl ?_
  refine zJ_widen (k2 := 600000) (n2 := 7302250) (by omega) (by omega) ?_
  exact kk h1 S1 H1 B1
theorem wSt {p : Program} {l : Launch} {e : Env} {s : State} {m : MethodId} {below : List Frame} {meth : Method} {c : Code} {w : gw} {b : Nat} {x : iO} {L : Nat} {xs : Nat → Int32} {h : gH} {k n : Nat} (X : zX R_law code 10 p s m #[Value.ref b] meth c w.1 w.2.1 x (lA s)) (Y : zW w s (lA s)) (hqs : x.2.2[0]? = some (b, L, xs)) (hL : L < 2 ^ 31) (hk : k ≤ 600000) (hn : n ≤ 7302250) (kk : ∀ N K, lawN N K → zJ p l e room_1 s m #[Value.ref b] below meth c (lA s) (lw_Z below #[Value.ref b] s) w.1 10 29 [(4, .int 1), (0, .ref b), (1, .ref (w.2.2 0)), (2, .int (nI N)), (3, .int (nI K))] [] (gws w h ++ []) (k) (n)) : zJ p l e room_1 s m #[Value.ref b] below meth c (lA s) (lw_Z below #[Value.ref b] s) w.1 10 7 [(0, .ref b)] [.ref (w.2.2 0)] (gws w h ++ []) (k) (n) := by
  refine Z_astore_n (la2 := [(1, .ref (w.2.2 0)), (0, .ref b)]) X (gxd kLw0 3 rfl) rfl (by decide) rfl ?_
  refine Z_iconst (v := 3) X (gxd kLw0 4 rfl) (by decide) ?_
  refine Z_aload_n 1 X (gxd kLw0 5 rfl) rfl rfl ?_
  refine Z_iconst (v := 0) X (gxd kLw0 6 rfl) (by decide) ?_
  refine Z_iconst (v := 4) X (gxd kLw0 7 rfl) (by decide) ?_
  refine Z_callS (As := [.ref b, .int 0, .int 4]) (rest := [.int 3]) (W0 := gws w h) (es := []) (wc := []) (wr := []) (a0 := 65) [] [] X (gxd kLw0 8 rfl) is_RL_33 iw_L_some rfl rfl (Nat.le_of_ble_eq_true rfl) ⟨(Nat.le_of_ble_eq_true rfl), (Nat.le_of_ble_eq_true rfl)⟩ rfl rfl ⟨by show k ≤ 600000; omega, by show n ≤ 7302250; omega⟩ (i_some (q := (b, L, xs)) (j := 0) (N := 4) (by decide) hL (by decide) (by decide)) (xsub_sc 0 hqs) (gws_len w h) ⟨rfl, rfl, by decide, by decide +kernel, by decide +kernel⟩ ?_
  rintro _ _ ⟨⟨a, ha, rfl⟩, rfl⟩
  show zJ p l e room_1 s m #[Value.ref b] below meth c (lA s) (lw_Z below #[Value.ref b] s) w.1 10 15 [(1, .ref (w.2.2 0)), (0, .ref b)] [.int (nI a), .int 3] (gws w h ++ []) (k) (n)
  refine Z_iadd (v := nI (3 + a)) X (gxd kLw0 9 rfl) (nI_add 3 a) ?_
  refine Z_istore_n (la2 := [(2, .int (nI (3 + a))), (1, .ref (w.2.2 0)), (0, .ref b)]) X (gxd kLw0 10 rfl) rfl (by decide) rfl ?_
  refine Z_iconst (v := 1) X (gxd kLw0 11 rfl) (by decide) ?_
  refine Z_aload_n 2 X (gxd kLw0 12 rfl) rfl rfl ?_
  refine Z_iconst (v := 1) X (gxd kLw0 13 rfl) (by decide) ?_
  refine Z_iconst (v := 2) X (gxd kLw0 14 rfl) (by decide) ?_
  refine Z_callS (As := [.ref b, .int 1, .int 2]) (rest := [.int 1]) (W0 := gws w h) (es := []) (wc := []) (wr := []) (a0 := 65) [] [] X (gxd kLw0 15 rfl) is_RL_33 iw_L_some rfl rfl (Nat.le_of_ble_eq_true rfl) ⟨(Nat.le_of_ble_eq_true rfl), (Nat.le_of_ble_eq_true rfl)⟩ rfl rfl ⟨by show k ≤ 600000; omega, by show n ≤ 7302250; omega⟩ (i_some (q := (b, L, xs)) (j := 1) (N := 2) (by decide) hL (by decide) (by decide)) (xsub_sc 0 hqs) (gws_len w h) ⟨rfl, rfl, by decide, by decide +kernel, by decide +kernel⟩ ?_
  rintro _ _ ⟨⟨a2, ha2, rfl⟩, rfl⟩
  show zJ p l e room_1 s m #[Value.ref b] below meth c (lA s) (lw_Z below #[Value.ref b] s) w.1 10 24 [(2, .int (nI (3 + a))), (1, .ref (w.2.2 0)), (0, .ref b)] [.int (nI a2), .int 1] (gws w h ++ []) (k) (n)
  refine Z_iadd (v := nI (1 + a2)) X (gxd kLw0 16 rfl) (nI_add 1 a2) ?_
  refine Z_istore_n (la2 := [(3, .int (nI (1 + a2))), (2, .int (nI (3 + a))), (1, .ref (w.2.2 0)), (0, .ref b)]) X (gxd kLw0 17 rfl) rfl (by decide) rfl ?_
  refine Z_iconst (v := 1) X (gxd kLw0 18 rfl) (by decide) ?_
  refine Z_istore (la2 := [(4, .int 1), (3, .int (nI (1 + a2))), (2, .int (nI (3 + a))), (1, .ref (w.2.2 0)), (0, .ref b)]) X (gxd kLw0 19 rfl) (by decide) rfl ?_
  refine zJ_pick (la2 := [(4, .int 1), (0, .ref b), (1, .ref (w.2.2 0)), (2, .int (nI (3 + a))), (3, .int (nI (1 + a2)))]) [0, 4, 3, 2, 1] rfl ?_
  exact kk (3 + a) (1 + a2) ⟨by omega, by omega, by omega, by omega⟩
theorem lt9 {a : Nat} (z : (9 : Int32) < nI a) : 9 < a := by
  rcases Nat.lt_or_ge 9 a with g | g
  · exact g
  · exact absurd z (nI_nlt (a := 9) (b := a) g (by decide))
theorem le9 {a : Nat} (h : a < 2 ^ 31) (z : ¬ (9 : Int32) < nI a) : a ≤ 9 := by
  rcases Nat.lt_or_ge 9 a with g | g
  · exact absurd (nI_lt (a := 9) g h) z
  · exact g
theorem lt_of_nI {a b : Nat} (ha : a < 2 ^ 31) (z : nI a < nI b) : a < b := by
  rcases Nat.lt_or_ge a b with g | g
  · exact g
  · exact absurd z (nI_nlt g ha)
theorem pos_of_nI {a : Nat} (z : (0 : Int32) < nI a) : 0 < a := by
  rcases Nat.eq_zero_or_pos a with g | g
  · subst g
    exact absurd z (by decide)
  · exact g
theorem lst_lt {N K : Nat} (h : lawN N K) : (N - 1) * K ≤ 10 := by
  obtain ⟨a, b, c, d⟩ := h
  have hK : K = 1 ∨ K = 2 := by omega
  rcases hK with rfl | rfl <;> omega
theorem law_ne9 {N K : Nat} (h : lawN N K) : ¬ nI ((N - 1) * K) = 9 := fun q => last_ne h ((nI_eq (b := 9) (Nat.lt_of_le_of_lt (lst_lt h) (by decide)) (by decide)).mp q)
theorem citer_0 (n k : Nat) : citer n k 2024 0 0 = (0, 0) := by
  show citer n k (2023 + 1) 0 0 = (0, 0)
  unfold citer
  rw [(qnx_none (pr := cpr n)).mpr (fun i _ => Nat.zero_testBit i)]
theorem csr_0 (n k ch pk mo m tr : Nat) (al : Bool) : csr n k ch pk mo al (m + 1) 0 0 tr = (0, tr, 0, 0) := by
  unfold csr
  rw [citer_0]
  show (fN 0 fun D1 => fN 0 fun Q1 => if D1 = 0 then (0, tr, 0, 0) else _) = _
  rw [fN_eq, fN_eq, if_pos rfl]
theorem csr_9 (n k ch pk mo tr : Nat) (al : Bool) : csr n k ch pk mo al 9 0 0 tr = (0, tr, 0, 0) := csr_0 n k ch pk mo 8 tr al
theorem cfind_0 (n k ch pk : Nat) : cfind n k ch pk 0 0 = -1 := by
  unfold cfind
  rw [csr_9]
  rfl
theorem ne99 : ∀ a, a < 20 → ¬ nI a = -99 := by decide +kernel
theorem dec1 (a : Int32) : a + Int32.ofInt (-1) = a - 1 := by rw [show Int32.ofInt (-1) = -1 from by decide, ← Int32.sub_eq_add_neg]
theorem shl1 : ∀ u, u < 11 → (1 : Int32) <<< (nI u &&& 31) = nI (2 ^ u) := by decide +kernel
theorem pow10 : ∀ u, u < 10 → 2 ^ u < 1024 := by decide +kernel
theorem pow11 : ∀ u, u < 11 → 2 ^ u - 1 < 1024 := by decide +kernel
theorem cnf_le (f : Nat → Bool) : ∀ (m k : Nat), cnf f m k ≤ m := by
  intro m
  induction m with
  | zero => intro k; exact Nat.le_refl _
  | succ m ih =>
    intro k
    unfold cnf
    have := ih (k + 1)
    split <;> omega
theorem cnf_pos (f : Nat → Bool) : ¬ nI (cnf f 10 0) < 0 := nI_pos (Nat.lt_of_le_of_lt (cnf_le f 10 0) (by decide))
theorem wL2 {p : Program} {l : Launch} {e : Env} {s : State} {m : MethodId} {below : List Frame} {meth : Method} {c : Code} {w : gw} {b : Nat} {x : iO} {N K : Nat} (X : zX R_law code 10 p s m #[Value.ref b] meth c w.1 w.2.1 x (lA s)) (Y : zW w s (lA s)) (hN : lawN N K) (kk : ∀ h S, AX h S → CS S N K (pBr N) (dsB N 7) 0 → zJ p l e room_1 s m #[Value.ref b] below meth c (lA s) (lw_Z below #[Value.ref b] s) w.1 10 159 [(4, .int (nI 7)), (0, .ref b), (1, .ref (w.2.2 0)), (2, .int (nI N)), (3, .int (nI K))] [] (gws w h ++ []) (600000) (7302250)) : ∀ (m0 y : Nat) (h : gH) (S : qW) (D Q : Nat), y + m0 = 7 → N ≤ y → AX h S → CS S N K (D, Q) (dsB N y) 0 → ctok N m0 y D Q = true → ctells N m0 y D Q = pBr N → zJ p l e room_1 s m #[Value.ref b] below meth c (lA s) (lw_Z below #[Value.ref b] s) w.1 10 132 [(4, .int (nI y)), (0, .ref b), (1, .ref (w.2.2 0)), (2, .int (nI N)), (3, .int (nI K))] [] (gws w h ++ []) (600000) (7302250) := by
  intro m0
  induction m0 with
  | zero =>
    intro y h S D Q hym hy HA HC hk ht
    have ey : y = 7 := by omega
    subst ey
    have e : (D, Q) = pBr N := ht
    rw [e] at HC
    refine Z_iload 0 X (gxd kLw2 21 rfl) rfl ?_
    refine Z_bipush (v := 7) X (gxd kLw2 22 rfl) (by decide) ?_
    refine Z_icmp_ge (tgt := 159) X (gxd kLw2 23 rfl) rfl (fun _ => ?_) (fun z => absurd z (nI_nlt (a := 7) (b := 7) (Nat.le_refl _) (by decide)))
    exact kk h S HA HC
  | succ m0 ih =>
    intro y h S D Q hym hy HA HC hk ht
    obtain ⟨c1, c2, c3⟩ := ctok_at hk
    refine Z_iload 0 X (gxd kLw2 21 rfl) rfl ?_
    refine Z_bipush (v := 7) X (gxd kLw2 22 rfl) (by decide) ?_
    refine Z_icmp_ge (tgt := 159) X (gxd kLw2 23 rfl) rfl (fun z => absurd (nI_lt (a := y) (b := 7) (by omega) (by decide)) z) (fun _ => ?_)
    refine Z_aload_n 2 X (gxd kLw2 24 rfl) rfl rfl ?_
    refine Z_iload 0 X (gxd kLw3 0 rfl) rfl ?_
    refine Z_iconst (v := 1) X (gxd kLw3 1 rfl) (by decide) ?_
    refine Z_tell (S := S) (v1 := nI y) (v2 := nI 1) X Y rm45 rmK HA HC.1 (gxd kLw3 2 rfl) iv_RL_67 (Nat.le_of_ble_eq_true rfl) (fun h1 H1 => ?_)
    obtain ⟨e1, C1, -⟩ := cs_tell (m := 1) HC c1 (show y < 8 by omega) (by decide) (by rw [dsB_len hy]; omega)
    rw [e1, c2]
    rw [← dsB_succ hy] at C1
    generalize (s_tell S (nI y) (nI 1)).2 = S1 at H1 C1
    refine Z_bipush (v := 9) X (gxd kLw3 3 rfl) (by decide) ?_
    refine Z_icmp_eq (tgt := 153) X (gxd kLw3 4 rfl) rfl (fun _ => ?_) (fun z => absurd rfl z)
    refine Z_iinc 0 (v := nI (y + 1)) (la2 := [(4, .int (nI (y + 1))), (0, .ref b), (1, .ref (w.2.2 0)), (2, .int (nI N)), (3, .int (nI K))]) X (gxd kLw3 7 rfl) rfl (nI_add y 1) (by decide) rfl ?_
    refine Z_goto (tgt := 132) X (gxd kLw3 8 rfl) rfl ?_
    exact ih (y + 1) h1 S1 (cst N D Q y 1).1 (cst N D Q y 1).2 (by omega) (by omega) H1 C1 c3 (by rw [← ctells_at]; exact ht)
theorem wCut {p : Program} {l : Launch} {e : Env} {s : State} {m : MethodId} {below : List Frame} {meth : Method} {c : Code} {w : gw} {b : Nat} {x : iO} {N K : Nat} {h : gH} {S : qW} (X : zX R_law code 10 p s m #[Value.ref b] meth c w.1 w.2.1 x (lA s)) (Y : zW w s (lA s)) (hN : lawN N K) (HA : AX h S) (HC : CS S N K ((pBr N).1, (pBr N).2) (dsB N 7) 0) (kk1 : ∀ h S, AX h S → CS S N K (pCr N K) (dsB N 7) 0 → 9 < (N - 1) * K → zJ p l e room_1 s m #[Value.ref b] below meth c (lA s) (lw_Z below #[Value.ref b] s) w.1 10 185 [(5, .int (nI ((N - 1) * K))), (4, .int (nI (7 - N))), (0, .ref b), (1, .ref (w.2.2 0)), (2, .int (nI N)), (3, .int (nI K))] [] (gws w h ++ []) (600000) (7302250)) (kk2 : ∀ h S, AX h S → CS S N K (pCr N K) (dsB N 7) 0 → (N - 1) * K ≤ 9 → zJ p l e room_1 s m #[Value.ref b] below meth c (lA s) (lw_Z below #[Value.ref b] s) w.1 10 240 [(5, .int (nI ((N - 1) * K))), (4, .int (nI (7 - N))), (0, .ref b), (1, .ref (w.2.2 0)), (2, .int (nI N)), (3, .int (nI K))] [] (gws w h ++ []) (600000) (7302250)) : zJ p l e room_1 s m #[Value.ref b] below meth c (lA s) (lw_Z below #[Value.ref b] s) w.1 10 159 [(4, .int (nI 7)), (0, .ref b), (1, .ref (w.2.2 0)), (2, .int (nI N)), (3, .int (nI K))] [] (gws w h ++ []) (600000) (7302250) := by
  have hN2 : N < 7 := hN.2.1
  have hN3 : 3 ≤ N := hN.1
  refine Z_aload_n 2 X (gxd kLw3 9 rfl) rfl rfl ?_
  refine Z_iconst (v := 2) X (gxd kLw3 10 rfl) (by decide) ?_
  refine Z_count (S := S) (v1 := 2) X Y rm45 rmK HA HC.1 (gxd kLw3 11 rfl) iv_RL_71 (Nat.le_of_ble_eq_true rfl) (fun h1 H1 => ?_)
  rw [cs_decided HC, dsB_len (by omega)]
  refine Z_istore (la2 := [(4, .int (nI (7 - N))), (0, .ref b), (1, .ref (w.2.2 0)), (2, .int (nI N)), (3, .int (nI K))]) X (gxd kLw3 12 rfl) (by decide) rfl ?_
  refine Z_aload_n 2 X (gxd kLw3 13 rfl) rfl rfl ?_
  refine Z_run (S := S)  X Y rm45 rmK H1 HC.1 (gxd kLw3 14 rfl) iv_RL_74 (Nat.le_of_ble_eq_true rfl) (fun h2 H2 => ?_)
  obtain ⟨C2, -⟩ := cs_run HC
  rw [← pCr_eq] at C2
  refine Z_pop X (gxd kLw3 15 rfl) rfl ?_
  generalize (s_run S).2 = S1 at H2 C2
  refine Z_iload_n 3 X (gxd kLw3 16 rfl) rfl rfl ?_
  refine Z_iconst (v := 1) X (gxd kLw3 17 rfl) (by decide) ?_
  refine Z_isub (v := nI (N - 1)) X (gxd kLw3 18 rfl) (nsub (a := N) (b := 1) (by omega)) ?_
  refine Z_iload_n 4 X (gxd kLw3 19 rfl) rfl rfl ?_
  refine Z_imul (v := nI ((N - 1) * K)) X (gxd kLw3 20 rfl) (nmul _ _) ?_
  refine Z_istore (la2 := [(5, .int (nI ((N - 1) * K))), (4, .int (nI (7 - N))), (0, .ref b), (1, .ref (w.2.2 0)), (2, .int (nI N)), (3, .int (nI K))]) X (gxd kLw3 21 rfl) (by decide) rfl ?_
  refine Z_iload 0 X (gxd kLw3 22 rfl) rfl ?_
  refine Z_bipush (v := 9) X (gxd kLw3 23 rfl) (by decide) ?_
  refine Z_icmp_le (tgt := 240) X (gxd kLw3 24 rfl) rfl (fun z => kk2 h2 S1 H2 C2 (le9 (Nat.lt_of_le_of_lt (lst_lt hN) (by decide)) z)) (fun z => kk1 h2 S1 H2 C2 (lt9 z))
theorem wBad {p : Program} {l : Launch} {e : Env} {s : State} {m : MethodId} {below : List Frame} {meth : Method} {c : Code} {w : gw} {b : Nat} {x : iO} {N K : Nat} {h : gH} {S : qW} (X : zX R_law code 10 p s m #[Value.ref b] meth c w.1 w.2.1 x (lA s)) (Y : zW w s (lA s)) (hr : meth.sig.returnType = ret) (hN : lawN N K) (HA : AX h S) (HC : CS S N K ((pCr N K).1, (pCr N K).2) (dsB N 7) 0) (h9 : 9 < (N - 1) * K) : zJ p l e room_1 s m #[Value.ref b] below meth c (lA s) (lw_Z below #[Value.ref b] s) w.1 10 185 [(5, .int (nI ((N - 1) * K))), (4, .int (nI (7 - N))), (0, .ref b), (1, .ref (w.2.2 0)), (2, .int (nI N)), (3, .int (nI K))] [] (gws w h ++ []) (600000) (7302250) := by
  have hN2 : N < 7 := hN.2.1
  obtain ⟨p0, wy⟩ := A1_at hN h9
  rw [p0] at HC
  have q0 : (pCr N K).2 = 0 := (HC.2.2.2.1.1 rfl).2
  rw [q0] at HC
  refine Z_aload_n 3 X (gxd kLw4 0 rfl) rfl rfl ?_
  refine Z_bipush (v := 8) X (gxd kLw4 1 rfl) (by decide) ?_
  refine Z_count (S := S) (v1 := 8) X Y rm45 rmK HA HC.1 (gxd kLw4 2 rfl) iv_RL_71 (Nat.le_of_ble_eq_true rfl) (fun h1 H1 => ?_)
  rw [cs_failed HC, if_pos rfl]
  refine Z_iconst (v := 1) X (gxd kLw4 3 rfl) (by decide) ?_
  refine Z_icmp_ne (tgt := 238) X (gxd kLw4 4 rfl) rfl (fun z => absurd rfl z) (fun _ => ?_)
  refine Z_aload_n 3 X (gxd kLw4 5 rfl) rfl rfl ?_
  refine Z_iconst (v := 0) X (gxd kLw4 6 rfl) (by decide) ?_
  refine Z_iconst (v := 0) X (gxd kLw4 7 rfl) (by decide) ?_
  refine Z_iconst (v := 0) X (gxd kLw4 8 rfl) (by decide) ?_
  refine Z_iconst (v := 0) X (gxd kLw4 9 rfl) (by decide) ?_
  refine Z_search (S := S) (v1 := nI 0) (v2 := nI 0) (v3 := 0) (v4 := 0) X Y rm45 rmK H1 HC.1 (gxd kLw4 10 rfl) iv_RL_77 (Nat.le_of_ble_eq_true rfl) (fun h2 H2 => ?_)
  rw [cs_search0 HC 0 0 0 (by decide) (by decide) (by decide) (by rw [csr_9]; decide), cfind_0]
  refine Z_iconst (v := (-1)) X (gxd kLw4 11 rfl) (by decide) ?_
  refine Z_icmp_ne (tgt := 238) X (gxd kLw4 12 rfl) rfl (fun z => absurd rfl z) (fun _ => ?_)
  refine Z_aload_n 3 X (gxd kLw4 13 rfl) rfl rfl ?_
  refine Z_solutions (S := S)  X Y rm45 rmK H2 HC.1 (gxd kLw4 14 rfl) iv_RL_81 (Nat.le_of_ble_eq_true rfl) (fun h3 H3 => ?_)
  rw [cs_solutions HC (by rw [csr_9]; decide) (by rw [csr_9]; decide), csr_9]
  show zJ p l e room_1 s m #[Value.ref b] below meth c (lA s) (lw_Z below #[Value.ref b] s) w.1 10 211 [(5, .int (nI ((N - 1) * K))), (4, .int (nI (7 - N))), (0, .ref b), (1, .ref (w.2.2 0)), (2, .int (nI N)), (3, .int (nI K))] [.long (nI 0).toInt64] (gws w h3 ++ []) (600000) (7302250)
  refine Z_lconst (v := 0) X (gxd kLw4 15 rfl) (by decide) ?_
  refine Z_lcmp X (gxd kLw4 16 rfl) ?_
  rw [show lg_cmp (nI 0).toInt64 0 = 0 from by decide]
  refine Z_if_ne (tgt := 238) X (gxd kLw4 17 rfl) rfl (fun z => absurd rfl z) (fun _ => ?_)
  refine Z_aload_n 3 X (gxd kLw4 18 rfl) rfl rfl ?_
  refine Z_iconst (v := (-1)) X (gxd kLw4 19 rfl) (by decide) ?_
  refine Z_iconst (v := 0) X (gxd kLw4 20 rfl) (by decide) ?_
  refine Z_why (S := S) (v1 := (-1)) (v2 := 0) X Y rm45 rmK H3 HC.1 (gxd kLw4 21 rfl) iv_RL_85 (Nat.le_of_ble_eq_true rfl) (fun h4 H4 => ?_)
  rw [cs_why2 HC (by rw [dsB_len (by omega)]; omega) 0 (by rw [wy]; decide), wy]
  refine Z_if_ne (tgt := 238) X (gxd kLw4 22 rfl) rfl (fun z => absurd rfl z) (fun _ => ?_)
  refine Z_aload_n 3 X (gxd kLw4 23 rfl) rfl rfl ?_
  refine Z_level (S := S)  X Y rm45 rmK H4 HC.1 (gxd kLw4 24 rfl) iv_RL_88 (Nat.le_of_ble_eq_true rfl) (fun h5 H5 => ?_)
  rw [cs_level3 HC]
  show zJ p l e room_1 s m #[Value.ref b] below meth c (lA s) (lw_Z below #[Value.ref b] s) w.1 10 229 [(5, .int (nI ((N - 1) * K))), (4, .int (nI (7 - N))), (0, .ref b), (1, .ref (w.2.2 0)), (2, .int (nI N)), (3, .int (nI K))] [.int (-3)] (gws w h5 ++ []) (600000) (7302250)
  refine Z_bipush (v := (-3)) X (gxd kLw5 0 rfl) (by decide) ?_
  refine Z_icmp_ne (tgt := 238) X (gxd kLw5 1 rfl) rfl (fun z => absurd rfl z) (fun _ => ?_)
  refine Z_iconst (v := 1) X (gxd kLw5 2 rfl) (by decide) ?_
  refine Z_goto (tgt := 239) X (gxd kLw5 3 rfl) rfl ?_
  exact Z_end X hr (Nat.le_refl _) (Nat.le_refl _) (gxd kLw5 5 rfl)
theorem wL3 {p : Program} {l : Launch} {e : Env} {s : State} {m : MethodId} {below : List Frame} {meth : Method} {c : Code} {w : gw} {b : Nat} {x : iO} {N K D : Nat} {S : qW} (X : zX R_law code 10 p s m #[Value.ref b] meth c w.1 w.2.1 x (lA s)) (Y : zW w s (lA s)) (hN : lawN N K) (HC : CS S N K (D, 0) (dsB N 7) 0) (hD : ¬ D = 0) (h9 : (N - 1) * K ≤ 9) (hd : ∀ y, y < N → okD N K D y = true) (kk : ∀ h, AX h S → zJ p l e room_1 s m #[Value.ref b] below meth c (lA s) (lw_Z below #[Value.ref b] s) w.1 10 352 [(6, .int (nI N)), (5, .int (nI ((N - 1) * K))), (4, .int (nI (7 - N))), (0, .ref b), (1, .ref (w.2.2 0)), (2, .int (nI N)), (3, .int (nI K))] [] (gws w h ++ []) (600000) (7302250)) : ∀ (m0 y : Nat) (h : gH), y + m0 = N → AX h S → zJ p l e room_1 s m #[Value.ref b] below meth c (lA s) (lw_Z below #[Value.ref b] s) w.1 10 243 [(6, .int (nI y)), (5, .int (nI ((N - 1) * K))), (4, .int (nI (7 - N))), (0, .ref b), (1, .ref (w.2.2 0)), (2, .int (nI N)), (3, .int (nI K))] [] (gws w h ++ []) (600000) (7302250) := by
  have hN2 : N < 7 := hN.2.1
  intro m0
  induction m0 with
  | zero =>
    intro y h hy HA
    have ey : y = N := by omega
    rw [ey]
    refine Z_iload 0 X (gxd kLw5 8 rfl) rfl ?_
    refine Z_iload_n 5 X (gxd kLw5 9 rfl) rfl rfl ?_
    refine Z_icmp_ge (tgt := 352) X (gxd kLw5 10 rfl) rfl (fun _ => ?_) (fun z => absurd z (nI_nlt (Nat.le_refl _) (by omega)))
    exact kk h HA
  | succ m0 ih =>
    intro y h hy HA
    obtain ⟨ho1, ho2, ho3, ho4⟩ := okD_at (hd y (by omega))
    obtain ⟨m1, m2⟩ := mul_le9 hN h9 (show y < N by omega)
    refine Z_iload 0 X (gxd kLw5 8 rfl) rfl ?_
    refine Z_iload_n 5 X (gxd kLw5 9 rfl) rfl rfl ?_
    refine Z_icmp_ge (tgt := 352) X (gxd kLw5 10 rfl) rfl (fun z => absurd (nI_lt (a := y) (b := N) (by omega) (by omega)) z) (fun _ => ?_)
    refine Z_iload 0 X (gxd kLw5 11 rfl) rfl ?_
    refine Z_iload_n 6 X (gxd kLw5 12 rfl) rfl rfl ?_
    refine Z_imul (v := nI (y * K)) X (gxd kLw5 13 rfl) (nmul _ _) ?_
    refine Z_istore (la2 := [(7, .int (nI (y * K))), (6, .int (nI y)), (5, .int (nI ((N - 1) * K))), (4, .int (nI (7 - N))), (0, .ref b), (1, .ref (w.2.2 0)), (2, .int (nI N)), (3, .int (nI K))]) X (gxd kLw5 14 rfl) (by decide) rfl ?_
    refine Z_bipush (v := 9) X (gxd kLw5 15 rfl) (by decide) ?_
    refine Z_iload_n 6 X (gxd kLw5 16 rfl) rfl rfl ?_
    refine Z_iconst (v := 1) X (gxd kLw5 17 rfl) (by decide) ?_
    refine Z_isub (v := nI (N - 1)) X (gxd kLw5 18 rfl) (nsub (a := N) (b := 1) (by omega)) ?_
    refine Z_iload 1 X (gxd kLw5 19 rfl) rfl ?_
    refine Z_isub (v := nI (N - 1 - y)) X (gxd kLw5 20 rfl) (nsub (by omega)) ?_
    refine Z_iload_n 7 X (gxd kLw5 21 rfl) rfl rfl ?_
    refine Z_imul (v := nI ((N - 1 - y) * K)) X (gxd kLw5 22 rfl) (nmul _ _) ?_
    refine Z_isub (v := nI (9 - (N - 1 - y) * K)) X (gxd kLw5 23 rfl) (nsub (a := 9) m2) ?_
    refine Z_istore (la2 := [(8, .int (nI (9 - (N - 1 - y) * K))), (7, .int (nI (y * K))), (6, .int (nI y)), (5, .int (nI ((N - 1) * K))), (4, .int (nI (7 - N))), (0, .ref b), (1, .ref (w.2.2 0)), (2, .int (nI N)), (3, .int (nI K))]) X (gxd kLw5 24 rfl) (by decide) rfl ?_
    refine Z_aload_n 6 X (gxd kLw6 0 rfl) rfl rfl ?_
    refine Z_iload 2 X (gxd kLw6 1 rfl) rfl ?_
    refine Z_domain (S := S) (v1 := nI y) X Y rm45 rmK HA HC.1 (gxd kLw6 2 rfl) iv_RL_91 (Nat.le_of_ble_eq_true rfl) (fun h1 H1 => ?_)
    rw [cs_domain HC hD (by omega)]
    refine Z_iconst (v := 1) X (gxd kLw6 3 rfl) (by decide) ?_
    refine Z_iload 0 X (gxd kLw6 4 rfl) rfl ?_
    refine Z_iconst (v := 1) X (gxd kLw6 5 rfl) (by decide) ?_
    refine Z_iadd (v := nI (9 - (N - 1 - y) * K) + 1) X (gxd kLw6 6 rfl) rfl ?_
    refine Z_ishl (v := 1 <<< ((nI (9 - (N - 1 - y) * K) + 1) &&& 31)) X (gxd kLw6 7 rfl) rfl ?_
    refine Z_iconst (v := 1) X (gxd kLw6 8 rfl) (by decide) ?_
    refine Z_isub (v := 1 <<< ((nI (9 - (N - 1 - y) * K) + 1) &&& 31) - 1) X (gxd kLw6 9 rfl) rfl ?_
    refine Z_iconst (v := 1) X (gxd kLw6 10 rfl) (by decide) ?_
    refine Z_iload 1 X (gxd kLw6 11 rfl) rfl ?_
    refine Z_ishl (v := 1 <<< (nI (y * K) &&& 31)) X (gxd kLw6 12 rfl) rfl ?_
    refine Z_iconst (v := 1) X (gxd kLw6 13 rfl) (by decide) ?_
    refine Z_isub (v := 1 <<< (nI (y * K) &&& 31) - 1) X (gxd kLw6 14 rfl) rfl ?_
    refine Z_iconst (v := (-1)) X (gxd kLw6 15 rfl) (by decide) ?_
    refine Z_ixor (v := (1 <<< (nI (y * K) &&& 31) - 1) ^^^ (-1)) X (gxd kLw6 16 rfl) rfl ?_
    refine Z_iand (v := lset (nI (y * K)) (nI (9 - (N - 1 - y) * K))) X (gxd kLw6 17 rfl) rfl ?_
    refine Z_icmp_eq (tgt := 296) X (gxd kLw6 18 rfl) rfl (fun _ => ?_) (fun z => absurd ho1.symm z)
    have tail : ∀ h5, AX h5 S → zJ p l e room_1 s m #[Value.ref b] below meth c (lA s) (lw_Z below #[Value.ref b] s) w.1 10 320 [(8, .int (nI (9 - (N - 1 - y) * K))), (7, .int (nI (y * K))), (6, .int (nI y)), (5, .int (nI ((N - 1) * K))), (4, .int (nI (7 - N))), (0, .ref b), (1, .ref (w.2.2 0)), (2, .int (nI N)), (3, .int (nI K))] [] (gws w h5 ++ []) (600000) (7302250) := by
      intro h5 H5
      refine Z_aload_n 6 X (gxd kLw7 9 rfl) rfl rfl ?_
      refine Z_iload 2 X (gxd kLw7 10 rfl) rfl ?_
      refine Z_iconst (v := 0) X (gxd kLw7 11 rfl) (by decide) ?_
      refine Z_reach (S := S) (v1 := nI y) (v2 := nI 0) X Y rm45 rmK H5 HC.1 (gxd kLw7 12 rfl) iv_RL_97 (Nat.le_of_ble_eq_true rfl) (fun h6 H6 => ?_)
      rw [cs_reach HC hD (by omega) (w := 0) (by decide) (by rw [ho3]; exact ne99 _ (by omega)), ho3]
      refine Z_iload 1 X (gxd kLw7 13 rfl) rfl ?_
      refine Z_icmp_ne (tgt := 344) X (gxd kLw7 14 rfl) rfl (fun z => absurd rfl z) (fun _ => ?_)
      refine Z_aload_n 6 X (gxd kLw7 15 rfl) rfl rfl ?_
      refine Z_iload 2 X (gxd kLw7 16 rfl) rfl ?_
      refine Z_iconst (v := 1) X (gxd kLw7 17 rfl) (by decide) ?_
      refine Z_reach (S := S) (v1 := nI y) (v2 := nI 1) X Y rm45 rmK H6 HC.1 (gxd kLw7 18 rfl) iv_RL_97 (Nat.le_of_ble_eq_true rfl) (fun h7 H7 => ?_)
      rw [cs_reach HC hD (by omega) (w := 1) (by decide) (by rw [ho4]; exact ne99 _ (by omega)), ho4]
      refine Z_iload 0 X (gxd kLw7 19 rfl) rfl ?_
      refine Z_icmp_eq (tgt := 346) X (gxd kLw7 20 rfl) rfl (fun _ => ?_) (fun z => absurd rfl z)
      refine Z_iinc 2 (v := nI (y + 1)) (la2 := [(6, .int (nI (y + 1))), (8, .int (nI (9 - (N - 1 - y) * K))), (7, .int (nI (y * K))), (5, .int (nI ((N - 1) * K))), (4, .int (nI (7 - N))), (0, .ref b), (1, .ref (w.2.2 0)), (2, .int (nI N)), (3, .int (nI K))]) X (gxd kLw7 23 rfl) rfl (nI_add y 1) (by decide) rfl ?_
      refine Z_goto (tgt := 243) X (gxd kLw7 24 rfl) rfl ?_
      refine zJ_pick (la2 := [(6, .int (nI (y + 1))), (5, .int (nI ((N - 1) * K))), (4, .int (nI (7 - N))), (0, .ref b), (1, .ref (w.2.2 0)), (2, .int (nI N)), (3, .int (nI K))]) [0, 3, 4, 5, 6, 7, 8] rfl ?_
      exact ih (y + 1) h7 (by omega) H7
    refine Z_iload 1 X (gxd kLw6 21 rfl) rfl ?_
    refine Z_if_le (tgt := 320) X (gxd kLw6 22 rfl) rfl (fun _ => tail h1 H1) (fun zz => ?_)
    refine Z_aload_n 6 X (gxd kLw6 23 rfl) rfl rfl ?_
    refine Z_iconst (v := 0) X (gxd kLw6 24 rfl) (by decide) ?_
    refine Z_sipush (v := 1000) X (gxd kLw7 0 rfl) (by decide) ?_
    refine Z_bipush (v := 10) X (gxd kLw7 1 rfl) (by decide) ?_
    refine Z_iload 2 X (gxd kLw7 2 rfl) rfl ?_
    refine Z_imul (v := nI (10 * y)) X (gxd kLw7 3 rfl) (nmul 10 y) ?_
    refine Z_iadd (v := nI (1000 + 10 * y)) X (gxd kLw7 4 rfl) (nI_add 1000 _) ?_
    refine Z_trail (S := S) (v1 := 0) (v2 := nI (1000 + 10 * y)) X Y rm45 rmK H1 HC.1 (gxd kLw7 5 rfl) iv_RL_94 (Nat.le_of_ble_eq_true rfl) (fun h2 H2 => ?_)
    refine Z_if_ge (tgt := 320) X (gxd kLw7 6 rfl) rfl (fun _ => ?_) (fun z => absurd z (cs_trail HC hD (by omega) (ho2 (pos_of_nI zz))))
    exact tail h2 H2
theorem wAsk {p : Program} {l : Launch} {e : Env} {s : State} {m : MethodId} {below : List Frame} {meth : Method} {c : Code} {w : gw} {b : Nat} {x : iO} {N K D F : Nat} {h : gH} {S : qW} (X : zX R_law code 10 p s m #[Value.ref b] meth c w.1 w.2.1 x (lA s)) (Y : zW w s (lA s)) (hN : lawN N K) (HA : AX h S) (HC : CS S N K (D, 0) (dsB N 7) 0) (hD : ¬ D = 0) (h7 : dm D 7 = 3) (hw : cwhy N K (dsB N 7) 0 9 = 0) (f1 : (csr N K 0 0 100 false 9 D 0 0).1 = 1) (f2 : cfind N K 0 0 D 0 = nI F) (f3 : F < 2 ^ 31) (kk : ∀ h, AX h S → zJ p l e room_1 s m #[Value.ref b] below meth c (lA s) (lw_Z below #[Value.ref b] s) w.1 10 415 [(8, .int (nI 7 - 1)), (7, .int (nI (F / 10))), (6, .int (nI F)), (5, .int (nI ((N - 1) * K))), (4, .int (nI (7 - N))), (0, .ref b), (1, .ref (w.2.2 0)), (2, .int (nI N)), (3, .int (nI K))] [] (gws w h ++ []) (600000) (7302250)) : zJ p l e room_1 s m #[Value.ref b] below meth c (lA s) (lw_Z below #[Value.ref b] s) w.1 10 352 [(6, .int (nI N)), (5, .int (nI ((N - 1) * K))), (4, .int (nI (7 - N))), (0, .ref b), (1, .ref (w.2.2 0)), (2, .int (nI N)), (3, .int (nI K))] [] (gws w h ++ []) (600000) (7302250) := by
  have hN2 : N < 7 := hN.2.1
  refine Z_aload_n 4 X (gxd kLw8 0 rfl) rfl rfl ?_
  refine Z_bipush (v := 7) X (gxd kLw8 1 rfl) (by decide) ?_
  refine Z_domain (S := S) (v1 := nI 7) X Y rm45 rmK HA HC.1 (gxd kLw8 2 rfl) iv_RL_91 (Nat.le_of_ble_eq_true rfl) (fun h1 H1 => ?_)
  rw [cs_domain HC hD (by decide), h7]
  refine Z_iload 1 X (gxd kLw8 3 rfl) rfl ?_
  refine Z_bipush (v := 9) X (gxd kLw8 4 rfl) (by decide) ?_
  refine Z_icmp_ne (tgt := 369) X (gxd kLw8 5 rfl) rfl (fun _ => ?_) (fun z => absurd z (law_ne9 hN))
  refine Z_iconst (v := 3) X (gxd kLw8 8 rfl) (by decide) ?_
  refine Z_icmp_ne (tgt := 392) X (gxd kLw8 9 rfl) rfl (fun z => absurd rfl z) (fun _ => ?_)
  refine Z_aload_n 4 X (gxd kLw8 10 rfl) rfl rfl ?_
  refine Z_bipush (v := 8) X (gxd kLw8 11 rfl) (by decide) ?_
  refine Z_count (S := S) (v1 := 8) X Y rm45 rmK H1 HC.1 (gxd kLw8 12 rfl) iv_RL_71 (Nat.le_of_ble_eq_true rfl) (fun h2 H2 => ?_)
  rw [cs_failed HC, if_neg hD]
  refine Z_if_ne (tgt := 392) X (gxd kLw8 13 rfl) rfl (fun z => absurd rfl z) (fun _ => ?_)
  refine Z_aload_n 4 X (gxd kLw8 14 rfl) rfl rfl ?_
  refine Z_iconst (v := 0) X (gxd kLw8 15 rfl) (by decide) ?_
  refine Z_bipush (v := 9) X (gxd kLw8 16 rfl) (by decide) ?_
  refine Z_why (S := S) (v1 := nI 0) (v2 := nI 9) X Y rm45 rmK H2 HC.1 (gxd kLw8 17 rfl) iv_RL_85 (Nat.le_of_ble_eq_true rfl) (fun h3 H3 => ?_)
  rw [cs_why1 HC (by rw [dsB_len (by omega)]; omega) (u := 0) (v := 9) (by decide) (by decide) (by rw [hw]; decide), hw]
  refine Z_if_eq (tgt := 394) X (gxd kLw8 18 rfl) rfl (fun _ => ?_) (fun z => absurd rfl z)
  refine Z_aload_n 4 X (gxd kLw8 21 rfl) rfl rfl ?_
  refine Z_iconst (v := 0) X (gxd kLw8 22 rfl) (by decide) ?_
  refine Z_iconst (v := 0) X (gxd kLw8 23 rfl) (by decide) ?_
  refine Z_iconst (v := 0) X (gxd kLw8 24 rfl) (by decide) ?_
  refine Z_iconst (v := 0) X (gxd kLw9 0 rfl) (by decide) ?_
  refine Z_search (S := S) (v1 := nI 0) (v2 := nI 0) (v3 := 0) (v4 := 0) X Y rm45 rmK H3 HC.1 (gxd kLw9 1 rfl) iv_RL_77 (Nat.le_of_ble_eq_true rfl) (fun h4 H4 => ?_)
  rw [cs_search0 HC 0 0 0 (by decide) (by decide) (by decide) (by rw [f1]; decide), f2]
  refine Z_istore (la2 := [(6, .int (nI F)), (5, .int (nI ((N - 1) * K))), (4, .int (nI (7 - N))), (0, .ref b), (1, .ref (w.2.2 0)), (2, .int (nI N)), (3, .int (nI K))]) X (gxd kLw9 2 rfl) (by decide) rfl ?_
  refine Z_iload 0 X (gxd kLw9 3 rfl) rfl ?_
  refine Z_bipush (v := 10) X (gxd kLw9 4 rfl) (by decide) ?_
  refine Z_idiv (v := nI (F / 10)) X (gxd kLw9 5 rfl) (by decide) (pk_div (d := 10) f3 (by decide) (by decide)) ?_
  refine Z_istore (la2 := [(7, .int (nI (F / 10))), (6, .int (nI F)), (5, .int (nI ((N - 1) * K))), (4, .int (nI (7 - N))), (0, .ref b), (1, .ref (w.2.2 0)), (2, .int (nI N)), (3, .int (nI K))]) X (gxd kLw9 6 rfl) (by decide) rfl ?_
  refine Z_bipush (v := 6) X (gxd kLw9 7 rfl) (by decide) ?_
  refine Z_istore (la2 := [(8, .int 6), (7, .int (nI (F / 10))), (6, .int (nI F)), (5, .int (nI ((N - 1) * K))), (4, .int (nI (7 - N))), (0, .ref b), (1, .ref (w.2.2 0)), (2, .int (nI N)), (3, .int (nI K))]) X (gxd kLw9 8 rfl) (by decide) rfl ?_
  refine zJ_loc (la2 := [(8, .int (nI 7 - 1)), (7, .int (nI (F / 10))), (6, .int (nI F)), (5, .int (nI ((N - 1) * K))), (4, .int (nI (7 - N))), (0, .ref b), (1, .ref (w.2.2 0)), (2, .int (nI N)), (3, .int (nI K))]) (by rw [show (nI 7 - 1 : Int32) = 6 from by decide]) ?_
  exact kk h4 H4
theorem wL4 {p : Program} {l : Launch} {e : Env} {s : State} {m : MethodId} {below : List Frame} {meth : Method} {c : Code} {w : gw} {b : Nat} {x : iO} {N K F : Nat} {h : gH} (X : zX R_law code 10 p s m #[Value.ref b] meth c w.1 w.2.1 x (lA s)) (Y : zW w s (lA s)) (hN : lawN N K) (kk : ∀ lf, zJ p l e room_1 s m #[Value.ref b] below meth c (lA s) (lw_Z below #[Value.ref b] s) w.1 10 457 [(8, .int (nI 0 - 1)), (7, .int (nI (lf))), (6, .int (nI F)), (5, .int (nI ((N - 1) * K))), (4, .int (nI (7 - N))), (0, .ref b), (1, .ref (w.2.2 0)), (2, .int (nI N)), (3, .int (nI K))] [] (gws w h ++ []) (600000) (7302250)) : ∀ (m0 lf : Nat), m0 < 8 → lf < 2 ^ 31 → okG N K m0 lf = true → zJ p l e room_1 s m #[Value.ref b] below meth c (lA s) (lw_Z below #[Value.ref b] s) w.1 10 415 [(8, .int (nI m0 - 1)), (7, .int (nI (lf))), (6, .int (nI F)), (5, .int (nI ((N - 1) * K))), (4, .int (nI (7 - N))), (0, .ref b), (1, .ref (w.2.2 0)), (2, .int (nI N)), (3, .int (nI K))] [] (gws w h ++ []) (600000) (7302250) := by
  have hN2 : N < 7 := hN.2.1
  intro m0
  induction m0 with
  | zero =>
    intro lf hm hl hk
    refine Z_iload 0 X (gxd kLw9 9 rfl) rfl ?_
    refine Z_if_lt (tgt := 457) X (gxd kLw9 10 rfl) rfl (fun _ => ?_) (fun z => absurd (by decide) z)
    exact kk lf
  | succ m0 ih =>
    intro lf hm hl hk
    obtain ⟨o1, o2⟩ := okG_at hk
    rw [nI_pred]
    refine Z_iload 0 X (gxd kLw9 9 rfl) rfl ?_
    refine Z_if_lt (tgt := 457) X (gxd kLw9 10 rfl) rfl (fun z => absurd z (nI_pos (by omega))) (fun _ => ?_)
    refine Z_iload 1 X (gxd kLw9 11 rfl) rfl ?_
    refine Z_bipush (v := 10) X (gxd kLw9 12 rfl) (by decide) ?_
    refine Z_irem (v := nI (lf % 10)) X (gxd kLw9 13 rfl) (by decide) (pk_rem (d := 10) hl (by decide) (by decide)) ?_
    have tail : zJ p l e room_1 s m #[Value.ref b] below meth c (lA s) (lw_Z below #[Value.ref b] s) w.1 10 444 [(8, .int (nI m0)), (7, .int (nI (lf))), (6, .int (nI F)), (5, .int (nI ((N - 1) * K))), (4, .int (nI (7 - N))), (0, .ref b), (1, .ref (w.2.2 0)), (2, .int (nI N)), (3, .int (nI K))] [] (gws w h ++ []) (600000) (7302250) := by
      refine Z_iload 1 X (gxd kLw10 0 rfl) rfl ?_
      refine Z_bipush (v := 10) X (gxd kLw10 1 rfl) (by decide) ?_
      refine Z_idiv (v := nI (lf / 10)) X (gxd kLw10 2 rfl) (by decide) (pk_div (d := 10) hl (by decide) (by decide)) ?_
      refine Z_istore (la2 := [(7, .int (nI (lf / 10))), (8, .int (nI m0)), (6, .int (nI F)), (5, .int (nI ((N - 1) * K))), (4, .int (nI (7 - N))), (0, .ref b), (1, .ref (w.2.2 0)), (2, .int (nI N)), (3, .int (nI K))]) X (gxd kLw10 3 rfl) (by decide) rfl ?_
      refine Z_iinc 1 (v := nI m0 - 1) (la2 := [(8, .int (nI m0 - 1)), (7, .int (nI (lf / 10))), (6, .int (nI F)), (5, .int (nI ((N - 1) * K))), (4, .int (nI (7 - N))), (0, .ref b), (1, .ref (w.2.2 0)), (2, .int (nI N)), (3, .int (nI K))]) X (gxd kLw10 4 rfl) rfl (dec1 _) (by decide) rfl ?_
      refine Z_goto (tgt := 415) X (gxd kLw10 5 rfl) rfl ?_
      refine zJ_pick (la2 := [(8, .int (nI m0 - 1)), (7, .int (nI (lf / 10))), (6, .int (nI F)), (5, .int (nI ((N - 1) * K))), (4, .int (nI (7 - N))), (0, .ref b), (1, .ref (w.2.2 0)), (2, .int (nI N)), (3, .int (nI K))]) [0, 1, 2, 3, 4, 5, 6, 7, 8] rfl ?_
      exact ih (lf / 10) (by omega) (by omega) o2
    refine Z_iload 0 X (gxd kLw9 14 rfl) rfl ?_
    refine Z_iload_n 7 X (gxd kLw9 15 rfl) rfl rfl ?_
    refine Z_icmp_ge (tgt := 438) X (gxd kLw9 16 rfl) rfl (fun zz => ?_) (fun zz => ?_)
    · refine Z_iconst (v := 0) X (gxd kLw9 21 rfl) (by decide) ?_
      refine Z_icmp_eq (tgt := 444) X (gxd kLw9 22 rfl) rfl (fun _ => ?_) (fun z => absurd (show nI (lf % 10) = 0 by rw [o1, if_neg (fun q => zz (nI_lt q (by omega)))]; rfl) z)
      exact tail
    · refine Z_iload 0 X (gxd kLw9 17 rfl) rfl ?_
      refine Z_iload_n 8 X (gxd kLw9 18 rfl) rfl rfl ?_
      refine Z_imul (v := nI (m0 * K)) X (gxd kLw9 19 rfl) (nmul _ _) ?_
      refine Z_goto (tgt := 439) X (gxd kLw9 20 rfl) rfl ?_
      refine Z_icmp_eq (tgt := 444) X (gxd kLw9 22 rfl) rfl (fun _ => ?_) (fun z => absurd (show nI (lf % 10) = nI (m0 * K) by rw [o1, if_pos (lt_of_nI (by omega) zz)]) z)
      exact tail
theorem wUp {p : Program} {l : Launch} {e : Env} {s : State} {m : MethodId} {below : List Frame} {meth : Method} {c : Code} {w : gw} {b : Nat} {x : iO} {N K F F2 lf L : Nat} {xs : Nat → Int32} {h : gH} {S : qW} (X : zX R_law code 10 p s m #[Value.ref b] meth c w.1 w.2.1 x (lA s)) (Y : zW w s (lA s)) (hqs : x.2.2[0]? = some (b, L, xs)) (hL : L < 2 ^ 31) (hN : lawN N K) (HA : AX h S) (HC : CS S N K ((pCr N K).1, 0) (dsB N 7) 0) (hD : ¬ (pCr N K).1 = 0) (h9 : (N - 1) * K ≤ 9) (f3 : F < 2 ^ 31) (f4 : F % 10 = 0) (g1 : (csr N K 1 0 100 false 9 (pCr N K).1 0 0).1 = 1) (g2 : cfind N K 1 0 (pCr N K).1 0 = nI F2) (g3 : F2 < 2 ^ 31) (kk : ∀ U h1 S1, U < 10 - (N - 1) * K → AX h1 S1 → CS S1 N K (pD2 N K U) (ds1 N U) 1 → FR (s_level S).2 S1 → zJ p l e room_1 s m #[Value.ref b] below meth c (lA s) (lw_Z below #[Value.ref b] s) w.1 10 562 [(9, .int 0), (8, .int (nI U)), (5, .int (nI ((N - 1) * K))), (4, .int (nI (7 - N))), (0, .ref b), (1, .ref (w.2.2 0)), (2, .int (nI N)), (3, .int (nI K))] [] (gws w h1 ++ []) (600000) (7302250)) : zJ p l e room_1 s m #[Value.ref b] below meth c (lA s) (lw_Z below #[Value.ref b] s) w.1 10 457 [(8, .int (nI 0 - 1)), (7, .int (nI (lf))), (6, .int (nI F)), (5, .int (nI ((N - 1) * K))), (4, .int (nI (7 - N))), (0, .ref b), (1, .ref (w.2.2 0)), (2, .int (nI N)), (3, .int (nI K))] [] (gws w h ++ []) (600000) (7302250) := by
  have hN2 : N < 7 := hN.2.1
  refine Z_iload 2 X (gxd kLw10 6 rfl) rfl ?_
  refine Z_bipush (v := 10) X (gxd kLw10 7 rfl) (by decide) ?_
  refine Z_irem (v := nI (F % 10)) X (gxd kLw10 8 rfl) (by decide) (pk_rem (d := 10) f3 (by decide) (by decide)) ?_
  refine Z_if_ne (tgt := 476) X (gxd kLw10 9 rfl) rfl (fun z => absurd (show nI (F % 10) = 0 by rw [f4]; rfl) z) (fun _ => ?_)
  refine Z_aload_n 6 X (gxd kLw10 10 rfl) rfl rfl ?_
  refine Z_iconst (v := 1) X (gxd kLw10 11 rfl) (by decide) ?_
  refine Z_iconst (v := 0) X (gxd kLw10 12 rfl) (by decide) ?_
  refine Z_iconst (v := 1) X (gxd kLw10 13 rfl) (by decide) ?_
  refine Z_iconst (v := 0) X (gxd kLw10 14 rfl) (by decide) ?_
  refine Z_search (S := S) (v1 := nI 1) (v2 := nI 0) (v3 := 1) (v4 := 0) X Y rm45 rmK HA HC.1 (gxd kLw10 15 rfl) iv_RL_77 (Nat.le_of_ble_eq_true rfl) (fun h1 H1 => ?_)
  rw [cs_search0 HC 1 0 1 (by decide) (by decide) (by decide) (by rw [g1]; decide), g2]
  refine Z_if_ge (tgt := 478) X (gxd kLw10 16 rfl) rfl (fun _ => ?_) (fun z => absurd z (nI_pos g3))
  refine Z_iload 3 X (gxd kLw10 19 rfl) rfl ?_
  refine Z_bipush (v := 9) X (gxd kLw10 20 rfl) (by decide) ?_
  refine Z_icmp_ne (tgt := 520) X (gxd kLw10 21 rfl) rfl (fun _ => ?_) (fun z => absurd z (law_ne9 hN))
  refine Z_aload_n 5 X (gxd kLw11 17 rfl) rfl rfl ?_
  refine Z_iconst (v := 2) X (gxd kLw11 18 rfl) (by decide) ?_
  refine Z_bipush (v := 10) X (gxd kLw11 19 rfl) (by decide) ?_
  refine Z_iload 3 X (gxd kLw11 20 rfl) rfl ?_
  refine Z_isub (v := nI (10 - (N - 1) * K)) X (gxd kLw11 21 rfl) (nsub (a := 10) (by omega)) ?_
  refine Z_callS (As := [.ref b, .int 2, .int (nI (10 - (N - 1) * K))]) (rest := []) (W0 := gws w h1) (es := []) (wc := []) (wr := []) (a0 := 65) [] [] X (gxd kLw11 22 rfl) is_RL_33 iw_L_some rfl rfl (Nat.le_of_ble_eq_true rfl) ⟨(Nat.le_of_ble_eq_true rfl), (Nat.le_of_ble_eq_true rfl)⟩ rfl rfl (by exact rmK) (i_some (q := (b, L, xs)) (j := 2) (N := 10 - (N - 1) * K) (by decide) hL (by omega) (by omega)) (xsub_sc 0 hqs) (gws_len w h1) ⟨rfl, rfl, by decide, by decide +kernel, by decide +kernel⟩ ?_
  rintro _ _ ⟨⟨U, hU, rfl⟩, rfl⟩
  show zJ p l e room_1 s m #[Value.ref b] below meth c (lA s) (lw_Z below #[Value.ref b] s) w.1 10 530 [(8, .int (nI 0 - 1)), (7, .int (nI (lf))), (6, .int (nI F)), (5, .int (nI ((N - 1) * K))), (4, .int (nI (7 - N))), (0, .ref b), (1, .ref (w.2.2 0)), (2, .int (nI N)), (3, .int (nI K))] [.int (nI U)] (gws w h1 ++ []) (600000) (7302250)
  refine Z_istore (la2 := [(8, .int (nI U)), (7, .int (nI (lf))), (6, .int (nI F)), (5, .int (nI ((N - 1) * K))), (4, .int (nI (7 - N))), (0, .ref b), (1, .ref (w.2.2 0)), (2, .int (nI N)), (3, .int (nI K))]) X (gxd kLw11 23 rfl) (by decide) rfl ?_
  refine zJ_pick (la2 := [(8, .int (nI U)), (5, .int (nI ((N - 1) * K))), (4, .int (nI (7 - N))), (0, .ref b), (1, .ref (w.2.2 0)), (2, .int (nI N)), (3, .int (nI K))]) [0, 3, 4, 5, 6, 7, 8] rfl ?_
  obtain ⟨b1, b2, -, -⟩ := B1_at hN hU
  refine Z_aload_n 4 X (gxd kLw11 24 rfl) rfl rfl ?_
  refine Z_level (S := S)  X Y rm45 rmK H1 HC.1 (gxd kLw12 0 rfl) iv_RL_88 (Nat.le_of_ble_eq_true rfl) (fun h2 H2 => ?_)
  obtain ⟨e1, C1⟩ := cs_level HC hD (by decide)
  rw [e1]
  obtain ⟨S1, hS1⟩ : ∃ S1, S1 = (s_level S).2 := ⟨_, rfl⟩
  rw [← hS1] at H2 C1 kk
  have C1 : CS S1 N K ((pCr N K).1, 0) (dsB N 7) 1 := C1
  refine Z_iconst (v := 1) X (gxd kLw12 1 rfl) (by decide) ?_
  refine Z_icmp_ne (tgt := 552) X (gxd kLw12 2 rfl) rfl (fun z => absurd rfl z) (fun _ => ?_)
  refine Z_aload_n 4 X (gxd kLw12 3 rfl) rfl rfl ?_
  refine Z_iconst (v := 0) X (gxd kLw12 4 rfl) (by decide) ?_
  refine Z_iconst (v := 1) X (gxd kLw12 5 rfl) (by decide) ?_
  refine Z_iload 0 X (gxd kLw12 6 rfl) rfl ?_
  refine Z_ishl (v := nI (2 ^ U)) X (gxd kLw12 7 rfl) (shl1 U (by omega)) ?_
  refine Z_tell (S := S1) (v1 := nI 0) (v2 := nI (2 ^ U)) X Y rm45 rmK H2 C1.1 (gxd kLw12 8 rfl) iv_RL_67 (Nat.le_of_ble_eq_true rfl) (fun h3 H3 => ?_)
  obtain ⟨e2, C2, R2⟩ := cs_tell (m := 2 ^ U) C1 hD (show 0 < 8 by decide) (pow10 U (by omega)) (by rw [dsB_len (by omega)]; omega)
  rw [e2]
  refine Z_if_ge (tgt := 554) X (gxd kLw12 9 rfl) rfl (fun _ => ?_) (fun z => absurd z (cnf_pos _))
  generalize (s_tell S1 (nI 0) (nI (2 ^ U))).2 = S2 at H3 C2 R2
  have C2 : CS S2 N K ((pD1 N K U).1, (pD1 N K U).2) (ds1 N U) 1 := by
    rw [pD1_eq]
    generalize cst N (pCr N K).1 0 0 (2 ^ U) = c0 at C2 ⊢
    exact C2
  refine Z_aload_n 4 X (gxd kLw12 12 rfl) rfl rfl ?_
  refine Z_run (S := S2)  X Y rm45 rmK H3 C2.1 (gxd kLw12 13 rfl) iv_RL_74 (Nat.le_of_ble_eq_true rfl) (fun h4 H4 => ?_)
  obtain ⟨C3, R3⟩ := cs_run C2
  refine Z_pop X (gxd kLw12 14 rfl) rfl ?_
  generalize (s_run S2).2 = S3 at H4 C3 R3
  rw [← pD2_eq] at C3
  refine Z_iconst (v := 0) X (gxd kLw12 15 rfl) (by decide) ?_
  refine Z_istore (la2 := [(9, .int 0), (8, .int (nI U)), (5, .int (nI ((N - 1) * K))), (4, .int (nI (7 - N))), (0, .ref b), (1, .ref (w.2.2 0)), (2, .int (nI N)), (3, .int (nI K))]) X (gxd kLw12 16 rfl) (by decide) rfl ?_
  exact kk U h4 S3 hU H4 C3 (FR_tr R2 R3)
theorem wL5 {p : Program} {l : Launch} {e : Env} {s : State} {m : MethodId} {below : List Frame} {meth : Method} {c : Code} {w : gw} {b : Nat} {x : iO} {N K D Q U lv : Nat} {ds : List (Nat × Nat)} {S : qW} (X : zX R_law code 10 p s m #[Value.ref b] meth c w.1 w.2.1 x (lA s)) (Y : zW w s (lA s)) (hN2 : N < 7) (HC : CS S N K (D, Q) ds lv) (hD : ¬ D = 0) (hc : ∀ y, y < N → cmn (dm D y) = U + y * K) (kk : ∀ h, AX h S → zJ p l e room_1 s m #[Value.ref b] below meth c (lA s) (lw_Z below #[Value.ref b] s) w.1 10 595 [(9, .int (nI N)), (8, .int (nI U)), (5, .int (nI ((N - 1) * K))), (4, .int (nI (7 - N))), (0, .ref b), (1, .ref (w.2.2 0)), (2, .int (nI N)), (3, .int (nI K))] [] (gws w h ++ []) (600000) (7302250)) : ∀ (m0 y : Nat) (h : gH), y + m0 = N → AX h S → zJ p l e room_1 s m #[Value.ref b] below meth c (lA s) (lw_Z below #[Value.ref b] s) w.1 10 562 [(9, .int (nI y)), (8, .int (nI U)), (5, .int (nI ((N - 1) * K))), (4, .int (nI (7 - N))), (0, .ref b), (1, .ref (w.2.2 0)), (2, .int (nI N)), (3, .int (nI K))] [] (gws w h ++ []) (600000) (7302250) := by
  intro m0
  induction m0 with
  | zero =>
    intro y h hy HA
    have ey : y = N := by omega
    rw [ey]
    refine Z_iload 0 X (gxd kLw12 17 rfl) rfl ?_
    refine Z_iload_n 6 X (gxd kLw12 18 rfl) rfl rfl ?_
    refine Z_icmp_ge (tgt := 595) X (gxd kLw12 19 rfl) rfl (fun _ => ?_) (fun z => absurd z (nI_nlt (Nat.le_refl _) (by omega)))
    exact kk h HA
  | succ m0 ih =>
    intro y h hy HA
    refine Z_iload 0 X (gxd kLw12 17 rfl) rfl ?_
    refine Z_iload_n 6 X (gxd kLw12 18 rfl) rfl rfl ?_
    refine Z_icmp_ge (tgt := 595) X (gxd kLw12 19 rfl) rfl (fun z => absurd (nI_lt (a := y) (b := N) (by omega) (by omega)) z) (fun _ => ?_)
    refine Z_aload_n 5 X (gxd kLw12 20 rfl) rfl rfl ?_
    refine Z_iload 0 X (gxd kLw12 21 rfl) rfl ?_
    refine Z_domain (S := S) (v1 := nI y) X Y rm45 rmK HA HC.1 (gxd kLw12 22 rfl) iv_RL_91 (Nat.le_of_ble_eq_true rfl) (fun h1 H1 => ?_)
    rw [cs_domain HC hD (by omega)]
    refine Z_callS (As := [.int (nI (dm D y))]) (rest := []) (W0 := gws w h1) (es := []) (wc := []) (wr := []) (a0 := 65) [] [] X (gxd kLw12 23 rfl) is_RL_100 iw_J6_numberOfTrailingZeros_0f7a4 rfl rfl (Nat.le_of_ble_eq_true rfl) ⟨(Nat.le_of_ble_eq_true rfl), (Nat.le_of_ble_eq_true rfl)⟩ rfl rfl (by exact rmK) (i_ntz (m := dm D y) (dm_lt D y) ((HC.2.2.2.1.2.1 hD).2.2 y (by omega))) (xsub_nil _) (gws_len w h1) ⟨rfl, rfl, by decide, by decide +kernel, by decide +kernel⟩ ?_
    rintro _ _ ⟨rfl, rfl⟩
    show zJ p l e room_1 s m #[Value.ref b] below meth c (lA s) (lw_Z below #[Value.ref b] s) w.1 10 577 [(9, .int (nI y)), (8, .int (nI U)), (5, .int (nI ((N - 1) * K))), (4, .int (nI (7 - N))), (0, .ref b), (1, .ref (w.2.2 0)), (2, .int (nI N)), (3, .int (nI K))] [.int (nI (cmn (dm D y)))] (gws w h1 ++ []) (600000) (7302250)
    refine Z_iload 1 X (gxd kLw12 24 rfl) rfl ?_
    refine Z_iload 0 X (gxd kLw13 0 rfl) rfl ?_
    refine Z_iload_n 7 X (gxd kLw13 1 rfl) rfl rfl ?_
    refine Z_imul (v := nI (y * K)) X (gxd kLw13 2 rfl) (nmul _ _) ?_
    refine Z_iadd (v := nI (U + y * K)) X (gxd kLw13 3 rfl) (nI_add U _) ?_
    refine Z_icmp_eq (tgt := 589) X (gxd kLw13 4 rfl) rfl (fun _ => ?_) (fun z => absurd (show nI (cmn (dm D y)) = nI (U + y * K) by rw [hc y (by omega)]) z)
    refine Z_iinc 0 (v := nI (y + 1)) (la2 := [(9, .int (nI (y + 1))), (8, .int (nI U)), (5, .int (nI ((N - 1) * K))), (4, .int (nI (7 - N))), (0, .ref b), (1, .ref (w.2.2 0)), (2, .int (nI N)), (3, .int (nI K))]) X (gxd kLw13 7 rfl) rfl (nI_add y 1) (by decide) rfl ?_
    refine Z_goto (tgt := 562) X (gxd kLw13 8 rfl) rfl ?_
    exact ih (y + 1) h1 (by omega) H1
theorem wWhy {p : Program} {l : Launch} {e : Env} {s : State} {m : MethodId} {below : List Frame} {meth : Method} {c : Code} {w : gw} {b : Nat} {x : iO} {N K U : Nat} {c0 : Nat × Nat} {h : gH} {S : qW} (X : zX R_law code 10 p s m #[Value.ref b] meth c w.1 w.2.1 x (lA s)) (Y : zW w s (lA s)) (hN : lawN N K) (h9 : (N - 1) * K ≤ 9) (HA : AX h S) (HC : CS S N K c0 (ds1 N U) 1) (hw : 0 < U → cwhy N K (ds1 N U) (N - 1) ((N - 1) * K) = 2 ^ (7 - N)) (kk : ∀ h, AX h S → zJ p l e room_1 s m #[Value.ref b] below meth c (lA s) (lw_Z below #[Value.ref b] s) w.1 10 622 [(8, .int (nI U)), (5, .int (nI ((N - 1) * K))), (4, .int (nI (7 - N))), (0, .ref b), (1, .ref (w.2.2 0)), (2, .int (nI N)), (3, .int (nI K))] [] (gws w h ++ []) (600000) (7302250)) : zJ p l e room_1 s m #[Value.ref b] below meth c (lA s) (lw_Z below #[Value.ref b] s) w.1 10 595 [(9, .int (nI N)), (8, .int (nI U)), (5, .int (nI ((N - 1) * K))), (4, .int (nI (7 - N))), (0, .ref b), (1, .ref (w.2.2 0)), (2, .int (nI N)), (3, .int (nI K))] [] (gws w h ++ []) (600000) (7302250) := by
  have hN2 : N < 7 := hN.2.1
  have hN3 : 3 ≤ N := hN.1
  refine Z_iload 1 X (gxd kLw13 9 rfl) rfl ?_
  refine Z_if_le (tgt := 622) X (gxd kLw13 10 rfl) rfl (fun _ => ?_) (fun zz => ?_)
  · refine zJ_pick (la2 := [(8, .int (nI U)), (5, .int (nI ((N - 1) * K))), (4, .int (nI (7 - N))), (0, .ref b), (1, .ref (w.2.2 0)), (2, .int (nI N)), (3, .int (nI K))]) [1, 2, 3, 4, 5, 6, 7] rfl ?_
    exact kk h HA
  · have hw := hw (pos_of_nI zz)
    refine Z_aload_n 5 X (gxd kLw13 11 rfl) rfl rfl ?_
    refine Z_iload_n 6 X (gxd kLw13 12 rfl) rfl rfl ?_
    refine Z_iconst (v := 1) X (gxd kLw13 13 rfl) (by decide) ?_
    refine Z_isub (v := nI (N - 1)) X (gxd kLw13 14 rfl) (nsub (a := N) (b := 1) (by omega)) ?_
    refine Z_iload 2 X (gxd kLw13 15 rfl) rfl ?_
    refine Z_why (S := S) (v1 := nI (N - 1)) (v2 := nI ((N - 1) * K)) X Y rm45 rmK HA HC.1 (gxd kLw13 16 rfl) iv_RL_85 (Nat.le_of_ble_eq_true rfl) (fun h1 H1 => ?_)
    rw [cs_why1 HC (by unfold ds1; rw [List.length_append, dsB_len (by omega)]; show 7 - N + 1 < 13; omega) (show N - 1 < 8 by omega) (show (N - 1) * K < 10 by omega) (by rw [hw]; exact Nat.ne_of_lt (Nat.lt_of_lt_of_le (pow10 (7 - N) (by omega)) (by decide))), hw]
    refine Z_istore (la2 := [(9, .int (nI (2 ^ (7 - N)))), (8, .int (nI U)), (5, .int (nI ((N - 1) * K))), (4, .int (nI (7 - N))), (0, .ref b), (1, .ref (w.2.2 0)), (2, .int (nI N)), (3, .int (nI K))]) X (gxd kLw13 17 rfl) (by decide) rfl ?_
    refine Z_iload 0 X (gxd kLw13 18 rfl) rfl ?_
    refine Z_iconst (v := 1) X (gxd kLw13 19 rfl) (by decide) ?_
    refine Z_iload 3 X (gxd kLw13 20 rfl) rfl ?_
    refine Z_ishl (v := nI (2 ^ (7 - N))) X (gxd kLw13 21 rfl) (shl1 (7 - N) (by omega)) ?_
    refine Z_icmp_eq (tgt := 622) X (gxd kLw13 22 rfl) rfl (fun _ => ?_) (fun z => absurd rfl z)
    refine zJ_pick (la2 := [(8, .int (nI U)), (5, .int (nI ((N - 1) * K))), (4, .int (nI (7 - N))), (0, .ref b), (1, .ref (w.2.2 0)), (2, .int (nI N)), (3, .int (nI K))]) [1, 2, 3, 4, 5, 6, 7] rfl ?_
    exact kk h1 H1
theorem wTop {p : Program} {l : Launch} {e : Env} {s : State} {m : MethodId} {below : List Frame} {meth : Method} {c : Code} {w : gw} {b : Nat} {x : iO} {N K U : Nat} {h : gH} {S : qW} (X : zX R_law code 10 p s m #[Value.ref b] meth c w.1 w.2.1 x (lA s)) (Y : zW w s (lA s)) (hN : lawN N K) (hU : U < 10 - (N - 1) * K) (HA : AX h S) (HC : CS S N K ((pD2 N K U).1, (pD2 N K U).2) (ds1 N U) 1) (hD : ¬ (pD2 N K U).1 = 0) (kk : ∀ h1 S1, AX h1 S1 → CS S1 N K (pD4 N K U) (ds2 N K U) 1 → FR S S1 → zJ p l e room_1 s m #[Value.ref b] below meth c (lA s) (lw_Z below #[Value.ref b] s) w.1 10 653 [(9, .int 0), (8, .int (nI U)), (5, .int (nI ((N - 1) * K))), (4, .int (nI (7 - N))), (0, .ref b), (1, .ref (w.2.2 0)), (2, .int (nI N)), (3, .int (nI K))] [] (gws w h1 ++ []) (600000) (7302250)) : zJ p l e room_1 s m #[Value.ref b] below meth c (lA s) (lw_Z below #[Value.ref b] s) w.1 10 622 [(8, .int (nI U)), (5, .int (nI ((N - 1) * K))), (4, .int (nI (7 - N))), (0, .ref b), (1, .ref (w.2.2 0)), (2, .int (nI N)), (3, .int (nI K))] [] (gws w h ++ []) (600000) (7302250) := by
  have hN2 : N < 7 := hN.2.1
  have hN3 : 3 ≤ N := hN.1
  refine Z_aload_n 4 X (gxd kLw14 0 rfl) rfl rfl ?_
  refine Z_iload_n 5 X (gxd kLw14 1 rfl) rfl rfl ?_
  refine Z_iconst (v := 1) X (gxd kLw14 2 rfl) (by decide) ?_
  refine Z_isub (v := nI (N - 1)) X (gxd kLw14 3 rfl) (nsub (a := N) (b := 1) (by omega)) ?_
  refine Z_iconst (v := 1) X (gxd kLw14 4 rfl) (by decide) ?_
  refine Z_iload 0 X (gxd kLw14 5 rfl) rfl ?_
  refine Z_iload 1 X (gxd kLw14 6 rfl) rfl ?_
  refine Z_iadd (v := nI (U + (N - 1) * K)) X (gxd kLw14 7 rfl) (nI_add U _) ?_
  refine Z_iconst (v := 1) X (gxd kLw14 8 rfl) (by decide) ?_
  refine Z_iadd (v := nI (U + (N - 1) * K + 1)) X (gxd kLw14 9 rfl) (nI_add _ 1) ?_
  refine Z_ishl (v := nI (2 ^ (U + (N - 1) * K + 1))) X (gxd kLw14 10 rfl) (shl1 _ (by omega)) ?_
  refine Z_iconst (v := 1) X (gxd kLw14 11 rfl) (by decide) ?_
  refine Z_isub (v := nI (2 ^ (U + (N - 1) * K + 1) - 1)) X (gxd kLw14 12 rfl) (nsub (b := 1) Nat.one_le_two_pow) ?_
  refine Z_tell (S := S) (v1 := nI (N - 1)) (v2 := nI (2 ^ (U + (N - 1) * K + 1) - 1)) X Y rm45 rmK HA HC.1 (gxd kLw14 13 rfl) iv_RL_67 (Nat.le_of_ble_eq_true rfl) (fun h1 H1 => ?_)
  obtain ⟨e2, C2, R2⟩ := cs_tell (m := 2 ^ (U + (N - 1) * K + 1) - 1) HC hD (show N - 1 < 8 by omega) (pow11 _ (by omega)) (by unfold ds1; rw [List.length_append, dsB_len (by omega)]; show 7 - N + 1 < 12; omega)
  rw [e2]
  refine Z_if_ge (tgt := 645) X (gxd kLw14 14 rfl) rfl (fun _ => ?_) (fun z => absurd z (cnf_pos _))
  generalize (s_tell S (nI (N - 1)) (nI (2 ^ (U + (N - 1) * K + 1) - 1))).2 = S2 at H1 C2 R2
  have C2 : CS S2 N K ((pD3 N K U).1, (pD3 N K U).2) (ds2 N K U) 1 := by
    rw [pD3_eq]
    generalize cst N (pD2 N K U).1 (pD2 N K U).2 (N - 1) (2 ^ (U + (N - 1) * K + 1) - 1) = c0 at C2 ⊢
    exact C2
  refine Z_aload_n 4 X (gxd kLw14 17 rfl) rfl rfl ?_
  refine Z_run (S := S2)  X Y rm45 rmK H1 C2.1 (gxd kLw14 18 rfl) iv_RL_74 (Nat.le_of_ble_eq_true rfl) (fun h2 H2 => ?_)
  obtain ⟨C3, R3⟩ := cs_run C2
  refine Z_pop X (gxd kLw14 19 rfl) rfl ?_
  generalize (s_run S2).2 = S3 at H2 C3 R3
  rw [← pD4_eq] at C3
  refine Z_iconst (v := 0) X (gxd kLw14 20 rfl) (by decide) ?_
  refine Z_istore (la2 := [(9, .int 0), (8, .int (nI U)), (5, .int (nI ((N - 1) * K))), (4, .int (nI (7 - N))), (0, .ref b), (1, .ref (w.2.2 0)), (2, .int (nI N)), (3, .int (nI K))]) X (gxd kLw14 21 rfl) (by decide) rfl ?_
  exact kk h2 S3 H2 C3 (FR_tr R2 R3)
theorem wL6 {p : Program} {l : Launch} {e : Env} {s : State} {m : MethodId} {below : List Frame} {meth : Method} {c : Code} {w : gw} {b : Nat} {x : iO} {N K D Q U lv : Nat} {ds : List (Nat × Nat)} {S : qW} (X : zX R_law code 10 p s m #[Value.ref b] meth c w.1 w.2.1 x (lA s)) (Y : zW w s (lA s)) (hN2 : N < 7) (hU : U < 10 - (N - 1) * K) (HC : CS S N K (D, Q) ds lv) (hD : ¬ D = 0) (hc : ∀ y, y < N → dm D y = 2 ^ (U + y * K)) (kk : ∀ h, AX h S → zJ p l e room_1 s m #[Value.ref b] below meth c (lA s) (lw_Z below #[Value.ref b] s) w.1 10 685 [(9, .int (nI N)), (8, .int (nI U)), (5, .int (nI ((N - 1) * K))), (4, .int (nI (7 - N))), (0, .ref b), (1, .ref (w.2.2 0)), (2, .int (nI N)), (3, .int (nI K))] [] (gws w h ++ []) (600000) (7302250)) : ∀ (m0 y : Nat) (h : gH), y + m0 = N → AX h S → zJ p l e room_1 s m #[Value.ref b] below meth c (lA s) (lw_Z below #[Value.ref b] s) w.1 10 653 [(9, .int (nI y)), (8, .int (nI U)), (5, .int (nI ((N - 1) * K))), (4, .int (nI (7 - N))), (0, .ref b), (1, .ref (w.2.2 0)), (2, .int (nI N)), (3, .int (nI K))] [] (gws w h ++ []) (600000) (7302250) := by
  intro m0
  induction m0 with
  | zero =>
    intro y h hy HA
    have ey : y = N := by omega
    rw [ey]
    refine Z_iload 0 X (gxd kLw14 22 rfl) rfl ?_
    refine Z_iload_n 6 X (gxd kLw14 23 rfl) rfl rfl ?_
    refine Z_icmp_ge (tgt := 685) X (gxd kLw14 24 rfl) rfl (fun _ => ?_) (fun z => absurd z (nI_nlt (Nat.le_refl _) (by omega)))
    exact kk h HA
  | succ m0 ih =>
    intro y h hy HA
    have hyK : y * K ≤ (N - 1) * K := Nat.mul_le_mul_right K (by omega)
    refine Z_iload 0 X (gxd kLw14 22 rfl) rfl ?_
    refine Z_iload_n 6 X (gxd kLw14 23 rfl) rfl rfl ?_
    refine Z_icmp_ge (tgt := 685) X (gxd kLw14 24 rfl) rfl (fun z => absurd (nI_lt (a := y) (b := N) (by omega) (by omega)) z) (fun _ => ?_)
    refine Z_aload_n 5 X (gxd kLw15 0 rfl) rfl rfl ?_
    refine Z_iload 0 X (gxd kLw15 1 rfl) rfl ?_
    refine Z_domain (S := S) (v1 := nI y) X Y rm45 rmK HA HC.1 (gxd kLw15 2 rfl) iv_RL_91 (Nat.le_of_ble_eq_true rfl) (fun h1 H1 => ?_)
    rw [cs_domain HC hD (by omega), hc y (by omega)]
    refine Z_iconst (v := 1) X (gxd kLw15 3 rfl) (by decide) ?_
    refine Z_iload 1 X (gxd kLw15 4 rfl) rfl ?_
    refine Z_iload 0 X (gxd kLw15 5 rfl) rfl ?_
    refine Z_iload_n 7 X (gxd kLw15 6 rfl) rfl rfl ?_
    refine Z_imul (v := nI (y * K)) X (gxd kLw15 7 rfl) (nmul _ _) ?_
    refine Z_iadd (v := nI (U + y * K)) X (gxd kLw15 8 rfl) (nI_add U _) ?_
    refine Z_ishl (v := nI (2 ^ (U + y * K))) X (gxd kLw15 9 rfl) (shl1 _ (by omega)) ?_
    refine Z_icmp_eq (tgt := 679) X (gxd kLw15 10 rfl) rfl (fun _ => ?_) (fun z => absurd rfl z)
    refine Z_iinc 0 (v := nI (y + 1)) (la2 := [(9, .int (nI (y + 1))), (8, .int (nI U)), (5, .int (nI ((N - 1) * K))), (4, .int (nI (7 - N))), (0, .ref b), (1, .ref (w.2.2 0)), (2, .int (nI N)), (3, .int (nI K))]) X (gxd kLw15 13 rfl) rfl (nI_add y 1) (by decide) rfl ?_
    refine Z_goto (tgt := 653) X (gxd kLw15 14 rfl) rfl ?_
    exact ih (y + 1) h1 (by omega) H1
theorem wBack {p : Program} {l : Launch} {e : Env} {s : State} {m : MethodId} {below : List Frame} {meth : Method} {c : Code} {w : gw} {b : Nat} {x : iO} {N K U : Nat} {h : gH} {S0 S : qW} (X : zX R_law code 10 p s m #[Value.ref b] meth c w.1 w.2.1 x (lA s)) (Y : zW w s (lA s)) (hr : meth.sig.returnType = ret) (hN : lawN N K) (hU : U < 10 - (N - 1) * K) (hk9 : (N - 1) * K ≤ 9) (HA : AX h S) (HC : CS S N K ((pD4 N K U).1, (pD4 N K U).2) (ds2 N K U) 1) (HC0 : CS S0 N K ((pCr N K).1, 0) (dsB N 7) 0) (hD0 : ¬ (pCr N K).1 = 0) (HF : FR (s_level S0).2 S) : zJ p l e room_1 s m #[Value.ref b] below meth c (lA s) (lw_Z below #[Value.ref b] s) w.1 10 685 [(9, .int (nI N)), (8, .int (nI U)), (5, .int (nI ((N - 1) * K))), (4, .int (nI (7 - N))), (0, .ref b), (1, .ref (w.2.2 0)), (2, .int (nI N)), (3, .int (nI K))] [] (gws w h ++ []) (600000) (7302250) := by
  have hN2 : N < 7 := hN.2.1
  have hN3 : 3 ≤ N := hN.1
  obtain ⟨-, hD, -, b7, b8, ⟨b9, b10⟩, b11, b12⟩ := B2_at hN hU
  obtain ⟨z0, zw⟩ := B3_at hN hU
  refine Z_aload_n 5 X (gxd kLw15 15 rfl) rfl rfl ?_
  refine Z_bipush (v := 7) X (gxd kLw15 16 rfl) (by decide) ?_
  refine Z_domain (S := S) (v1 := nI 7) X Y rm45 rmK HA HC.1 (gxd kLw15 17 rfl) iv_RL_91 (Nat.le_of_ble_eq_true rfl) (fun h1 H1 => ?_)
  rw [cs_domain HC hD (by decide), b7]
  refine Z_iconst (v := 1) X (gxd kLw15 18 rfl) (by decide) ?_
  refine Z_icmp_ne (tgt := 726) X (gxd kLw15 19 rfl) rfl (fun z => absurd rfl z) (fun _ => ?_)
  refine Z_aload_n 5 X (gxd kLw15 20 rfl) rfl rfl ?_
  refine Z_bipush (v := 6) X (gxd kLw15 21 rfl) (by decide) ?_
  refine Z_count (S := S) (v1 := 6) X Y rm45 rmK H1 HC.1 (gxd kLw15 22 rfl) iv_RL_71 (Nat.le_of_ble_eq_true rfl) (fun h2 H2 => ?_)
  rw [cs_settled HC hD, b8]
  refine Z_bipush (v := 8) X (gxd kLw15 23 rfl) (by decide) ?_
  refine Z_icmp_ne (tgt := 726) X (gxd kLw15 24 rfl) rfl (fun z => absurd rfl z) (fun _ => ?_)
  refine Z_aload_n 5 X (gxd kLw16 0 rfl) rfl rfl ?_
  refine Z_solutions (S := S)  X Y rm45 rmK H2 HC.1 (gxd kLw16 1 rfl) iv_RL_81 (Nat.le_of_ble_eq_true rfl) (fun h3 H3 => ?_)
  rw [cs_solutions HC (by rw [b9]; decide) (by rw [b9]; decide), b10]
  refine Z_lconst (v := 1) X (gxd kLw16 2 rfl) (by decide) ?_
  refine Z_lcmp X (gxd kLw16 3 rfl) ?_
  rw [show lg_cmp (nI 1).toInt64 1 = 0 from by decide]
  refine Z_if_ne (tgt := 726) X (gxd kLw16 4 rfl) rfl (fun z => absurd rfl z) (fun _ => ?_)
  refine Z_aload_n 5 X (gxd kLw16 5 rfl) rfl rfl ?_
  refine Z_iconst (v := 2) X (gxd kLw16 6 rfl) (by decide) ?_
  refine Z_iconst (v := 2) X (gxd kLw16 7 rfl) (by decide) ?_
  refine Z_iconst (v := 1) X (gxd kLw16 8 rfl) (by decide) ?_
  refine Z_iconst (v := 1) X (gxd kLw16 9 rfl) (by decide) ?_
  refine Z_search (S := S) (v1 := nI 2) (v2 := nI 2) (v3 := 1) (v4 := 1) X Y rm45 rmK H3 HC.1 (gxd kLw16 10 rfl) iv_RL_77 (Nat.le_of_ble_eq_true rfl) (fun h4 H4 => ?_)
  rw [cs_search1 HC 2 2 1 (by decide) (by decide) (by decide) (by rw [b11]; decide) (by rw [b11]; decide), b12]
  refine Z_if_eq (tgt := 728) X (gxd kLw16 11 rfl) rfl (fun _ => ?_) (fun z => absurd rfl z)
  have h0l : 0 < (N - 1) * K := Nat.mul_pos (by omega) (by have := hN.2.2.1; omega)
  refine Z_iload 1 X (gxd kLw16 14 rfl) rfl ?_
  refine Z_iload 2 X (gxd kLw16 15 rfl) rfl ?_
  refine Z_iadd (v := nI (U + (N - 1) * K)) X (gxd kLw16 16 rfl) (nI_add U _) ?_
  refine Z_if_le (tgt := 774) X (gxd kLw16 17 rfl) rfl (fun z => absurd (show 0 < nI (U + (N - 1) * K) from nI_lt (a := 0) (by omega) (by omega)) z) (fun _ => ?_)
  refine Z_aload_n 5 X (gxd kLw16 18 rfl) rfl rfl ?_
  refine Z_iload_n 6 X (gxd kLw16 19 rfl) rfl rfl ?_
  refine Z_iconst (v := 1) X (gxd kLw16 20 rfl) (by decide) ?_
  refine Z_isub (v := nI (N - 1)) X (gxd kLw16 21 rfl) (nsub (a := N) (b := 1) (by omega)) ?_
  refine Z_iconst (v := 1) X (gxd kLw16 22 rfl) (by decide) ?_
  refine Z_iload 1 X (gxd kLw16 23 rfl) rfl ?_
  refine Z_iload 2 X (gxd kLw16 24 rfl) rfl ?_
  refine Z_iadd (v := nI (U + (N - 1) * K)) X (gxd kLw17 0 rfl) (nI_add U _) ?_
  refine Z_ishl (v := nI (2 ^ (U + (N - 1) * K))) X (gxd kLw17 1 rfl) (shl1 _ (by omega)) ?_
  refine Z_iconst (v := 1) X (gxd kLw17 2 rfl) (by decide) ?_
  refine Z_isub (v := nI (2 ^ (U + (N - 1) * K) - 1)) X (gxd kLw17 3 rfl) (nsub (b := 1) Nat.one_le_two_pow) ?_
  refine Z_tell (S := S) (v1 := nI (N - 1)) (v2 := nI (2 ^ (U + (N - 1) * K) - 1)) X Y rm45 rmK H4 HC.1 (gxd kLw17 4 rfl) iv_RL_67 (Nat.le_of_ble_eq_true rfl) (fun h5 H5 => ?_)
  obtain ⟨-, C2, R2⟩ := cs_tell (m := 2 ^ (U + (N - 1) * K) - 1) HC hD (show N - 1 < 8 by omega) (pow11 _ (by omega)) (by unfold ds2 ds1; rw [List.length_append, List.length_append, dsB_len (by omega)]; show 7 - N + 1 + 1 < 12; omega)
  refine Z_pop X (gxd kLw17 5 rfl) rfl ?_
  generalize (s_tell S (nI (N - 1)) (nI (2 ^ (U + (N - 1) * K) - 1))).2 = S2 at H5 C2 R2
  have C2 : CS S2 N K ((pD5 N K U).1, (pD5 N K U).2) (ds3 N K U) 1 := by
    rw [pD5_eq]
    generalize cst N (pD4 N K U).1 (pD4 N K U).2 (N - 1) (2 ^ (U + (N - 1) * K) - 1) = c0 at C2 ⊢
    exact C2
  refine Z_aload_n 5 X (gxd kLw17 6 rfl) rfl rfl ?_
  refine Z_bipush (v := 8) X (gxd kLw17 7 rfl) (by decide) ?_
  refine Z_count (S := S2) (v1 := 8) X Y rm45 rmK H5 C2.1 (gxd kLw17 8 rfl) iv_RL_71 (Nat.le_of_ble_eq_true rfl) (fun h6 H6 => ?_)
  rw [cs_failed C2, if_pos z0]
  refine Z_iconst (v := 1) X (gxd kLw17 9 rfl) (by decide) ?_
  refine Z_icmp_ne (tgt := 772) X (gxd kLw17 10 rfl) rfl (fun z => absurd rfl z) (fun _ => ?_)
  refine Z_aload_n 5 X (gxd kLw17 11 rfl) rfl rfl ?_
  refine Z_iconst (v := (-1)) X (gxd kLw17 12 rfl) (by decide) ?_
  refine Z_iconst (v := 0) X (gxd kLw17 13 rfl) (by decide) ?_
  refine Z_why (S := S2) (v1 := (-1)) (v2 := 0) X Y rm45 rmK H6 C2.1 (gxd kLw17 14 rfl) iv_RL_85 (Nat.le_of_ble_eq_true rfl) (fun h7 H7 => ?_)
  rw [cs_why2 C2 (by unfold ds3 ds2 ds1; rw [List.length_append, List.length_append, List.length_append, dsB_len (by omega)]; show 7 - N + 1 + 1 + 1 < 13; omega) 0 (Nat.ne_of_lt zw)]
  refine Z_if_ge (tgt := 774) X (gxd kLw17 15 rfl) rfl (fun _ => ?_) (fun z => absurd z (nI_pos (Nat.lt_of_lt_of_le zw (by decide))))
  obtain ⟨u1, C3⟩ := cs_undo HC0 hD0 (by decide) (FR_tr HF R2) C2
  refine Z_aload_n 5 X (gxd kLw17 18 rfl) rfl rfl ?_
  refine Z_undo (S := S2)  X Y rm45 rmK H7 C2.1 (gxd kLw17 19 rfl) iv_RL_105 (Nat.le_of_ble_eq_true rfl) (fun h8 H8 => ?_)
  generalize (s_undo S2).1 = u0 at u1 ⊢
  generalize (s_undo S2).2 = S3 at H8 C3
  refine Z_istore (la2 := [(9, .int u0), (8, .int (nI U)), (5, .int (nI ((N - 1) * K))), (4, .int (nI (7 - N))), (0, .ref b), (1, .ref (w.2.2 0)), (2, .int (nI N)), (3, .int (nI K))]) X (gxd kLw17 20 rfl) (by decide) rfl ?_
  refine Z_iload 0 X (gxd kLw17 21 rfl) rfl ?_
  refine Z_if_lt (tgt := 822) X (gxd kLw17 22 rfl) rfl (fun z => absurd z u1) (fun _ => ?_)
  refine Z_aload_n 5 X (gxd kLw17 23 rfl) rfl rfl ?_
  refine Z_bipush (v := 8) X (gxd kLw17 24 rfl) (by decide) ?_
  refine Z_count (S := S3) (v1 := 8) X Y rm45 rmK H8 C3.1 (gxd kLw18 0 rfl) iv_RL_71 (Nat.le_of_ble_eq_true rfl) (fun h9 H9 => ?_)
  rw [cs_failed C3, if_neg hD0]
  refine Z_if_ne (tgt := 822) X (gxd kLw18 1 rfl) rfl (fun z => absurd rfl z) (fun _ => ?_)
  refine Z_aload_n 5 X (gxd kLw18 2 rfl) rfl rfl ?_
  refine Z_iconst (v := 2) X (gxd kLw18 3 rfl) (by decide) ?_
  refine Z_count (S := S3) (v1 := 2) X Y rm45 rmK H9 C3.1 (gxd kLw18 4 rfl) iv_RL_71 (Nat.le_of_ble_eq_true rfl) (fun h10 H10 => ?_)
  rw [cs_decided C3, dsB_len (by omega)]
  refine Z_iload 3 X (gxd kLw18 5 rfl) rfl ?_
  refine Z_icmp_ne (tgt := 822) X (gxd kLw18 6 rfl) rfl (fun z => absurd rfl z) (fun _ => ?_)
  have b4 := B4_at hN hk9
  refine Z_aload_n 5 X (gxd kLw18 7 rfl) rfl rfl ?_
  refine Z_iconst (v := 0) X (gxd kLw18 8 rfl) (by decide) ?_
  refine Z_iconst (v := 1) X (gxd kLw18 9 rfl) (by decide) ?_
  refine Z_reach (S := S3) (v1 := nI 0) (v2 := nI 1) X Y rm45 rmK H10 C3.1 (gxd kLw18 10 rfl) iv_RL_97 (Nat.le_of_ble_eq_true rfl) (fun h11 H11 => ?_)
  rw [cs_reach C3 hD0 (by decide) (w := 1) (by decide) (by rw [b4]; exact ne99 _ (by omega)), b4]
  refine Z_bipush (v := 9) X (gxd kLw18 11 rfl) (by decide) ?_
  refine Z_iload 2 X (gxd kLw18 12 rfl) rfl ?_
  refine Z_isub (v := nI (9 - (N - 1) * K)) X (gxd kLw18 13 rfl) (nsub (a := 9) (by omega)) ?_
  refine Z_icmp_ne (tgt := 822) X (gxd kLw18 14 rfl) rfl (fun z => absurd rfl z) (fun _ => ?_)
  refine Z_iconst (v := 1) X (gxd kLw18 15 rfl) (by decide) ?_
  refine Z_goto (tgt := 823) X (gxd kLw18 16 rfl) rfl ?_
  exact Z_end X hr (Nat.le_refl _) (Nat.le_refl _) (gxd kLw18 18 rfl)
theorem lw_walk7 {p : Program} {l : Launch} {e : Env} {s : State} {m : MethodId} {below : List Frame} {meth : Method} {c : Code} {w : gw} {b : Nat} {x : iO} {t0 u0 t1 u1 : Nat} {g0 g1 : Nat → Int32} {t2 u2 : Nat} {g2 : Nat → Int32} {L : Nat} {xs : Nat → Int32} {h : gH} {k n : Nat} (X : zX R_law code 10 p s m #[Value.ref b] meth c w.1 w.2.1 x (lA s)) (Y : zW w s (lA s)) (hr : meth.sig.returnType = ret) (hqs : x.2.2[0]? = some (b, L, xs)) (hL : L < 2 ^ 31) (hq0 : x.2.1[0]? = some (t0, u0, 1, g0)) (hq1 : x.2.1[1]? = some (t1, u1, 1, g1)) (hv0 : vk_R R_law 47 ">" t0 s) (hv1 : vk_R R_law 52 "+" t1 s) (h0 : g0 0 = nI 62) (h1 : g1 0 = nI 43) (hq2 : x.2.1[2]? = some (t2, u2, 6, g2)) (hv2 : vk_R R_law 65 "h:b>a+" t2 s) (h2 : ∀ i, i < 6 → g2 i = nI ([104, 58, 98, 62, 97, 43].getD i 0)) (hk : k ≤ 90000) (hn : n ≤ 1000000) (HA : AX h S00) : zJ p l e room_1 s m #[Value.ref b] below meth c (lA s) (lw_Z below #[Value.ref b] s) w.1 10 7 [(0, .ref b)] [.ref (w.2.2 0)] (gws w h ++ []) (k) (n) := by
  refine wSt X Y hqs hL (by omega) (by omega) (fun N K hN => ?_)
  have hN2 : N < 7 := hN.2.1
  have hN3 : 3 ≤ N := hN.1
  refine zJ_widen (k2 := 90000 * (0 + 1)) (n2 := 1000000 * (0 + 1)) (by omega) (by omega) ?_
  refine wL1 X Y hq0 hq1 hv0 hv1 h0 h1 hN (fun h S HA HB => ?_) (N - 1) 0 h S00 (by omega) HA (BS0 K)
  refine wTx2 X Y hq2 hv2 h2 hN HA HB (by omega) (by omega) (fun h S HA HC => ?_)
  refine wL2 X Y hN (fun h S HA HC => ?_) (7 - N) N h S cfull (2 ^ N - 1) (by omega) (Nat.le_refl _) HA (by rw [dsB_0]; exact HC) (A0_at hN3 hN2) rfl
  refine wCut X Y hN HA HC (fun h S HA HC h9 => wBad X Y hr hN HA HC h9) (fun h S HA HC h9 => ?_)
  obtain ⟨hD, hQ, hd, h7, hw, ⟨F, f1, f2, f3, f4, f5⟩, g1, F2, g2, g3⟩ := A2_at hN h9
  have HC : CS S N K ((pCr N K).1, (pCr N K).2) (dsB N 7) 0 := HC
  rw [hQ] at HC
  refine Z_iconst (v := 0) X (gxd kLw5 6 rfl) (by decide) ?_
  refine Z_istore (la2 := [(6, .int 0), (5, .int (nI ((N - 1) * K))), (4, .int (nI (7 - N))), (0, .ref b), (1, .ref (w.2.2 0)), (2, .int (nI N)), (3, .int (nI K))]) X (gxd kLw5 7 rfl) (by decide) rfl ?_
  refine wL3 X Y hN HC hD h9 hd (fun h HA => ?_) N 0 h (by omega) HA
  refine wAsk X Y hN HA HC hD h7 hw f1 f2 f3 (fun h HA => ?_)
  refine wL4 X Y hN (fun lf => ?_) 7 (F / 10) (by decide) (by omega) f5
  refine wUp X Y hqs hL hN HA HC hD h9 f3 f4 g1 g2 g3 (fun U h S1 hU HA C1 R1 => ?_)
  obtain ⟨-, b2, b3, b4⟩ := B1_at hN hU
  refine wL5 X Y hN2 (D := (pD2 N K U).1) (Q := (pD2 N K U).2) C1 b2 b3 (fun h HA => ?_) N 0 h (by omega) HA
  refine wWhy X Y hN h9 HA C1 b4 (fun h HA => ?_)
  refine wTop X Y hN hU HA C1 b2 (fun h S2 HA C2 R2 => ?_)
  obtain ⟨-, d2, d3, -⟩ := B2_at hN hU
  refine wL6 X Y hN2 hU (D := (pD4 N K U).1) (Q := (pD4 N K U).2) C2 d2 d3 (fun h HA => ?_) N 0 h (by omega) HA
  exact wBack X Y hr hN hU h9 HA C2 HC hD (FR_tr R1 R2)
