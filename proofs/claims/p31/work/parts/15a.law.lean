/-! the law: begins with the kit's skeleton -/
def R_law : String := "ValuesGoLaw"
def lw_P (b : Addr) (xs : List Int32) (args : Array Value) (s : State) : Prop := args = #[.ref b] ∧ s.IntsAt b xs ∧ xs.length ≤ 260 ∧ (Jvm.Cond.and given_1 narrow_1).before args s = true
def lw_Q (_ : Array Value) (s : State) (o : Outcome) (t : State) : Prop := o = .returned (some (.int 1)) ∧ Framed s o t [] 600000 7302250
def lw_Z (below : List Frame) (a : Array Value) (s : State) : State → Prop := fun t => ∃ o, t.status = .running ∧ Ended t below o ∧ lw_Q a s o t
/-- the law's own end, with 1 on the stack, nothing written that was there before, its room as the claim has it -/
theorem lw_ret {p : Program} {l : Launch} {e : Env} {s : State} {m : MethodId} {below : List Frame} {meth : Method} {c : Code} {b : Nat} (hx : p.tables.exec = Jvm.exec) (hb : c.code = code) (hr : meth.sig.returnType = ret) (hlocks : meth.locks = false) {pc : Nat} {H : Heap} {ls : Array Slot} (hdg : decode code pc = .ok (.ireturn, 1)) : W p l e room_1 s m #[Value.ref b] below meth c H [] 600000 7302250 (lw_Z below #[Value.ref b] s) (F0 m pc ls [.int 1]) := by
  intro T hT X
  obtain ⟨fs, hret, hrun, hended, hW, hframe⟩ := X.leave (v := some (.int 1)) (hlocks := hlocks) (fun h => by rw [hr] at h; cases h)
  have hmeth' : T.vm.method? m = some meth := X.method'
  refine ⟨T.setFrames fs, ?_, .returned (some (.int 1)), hrun, hended, rfl, ⟨_, rfl⟩, hW, hframe⟩
  jvm_step X.here [X.here.top, hx, hb, hdg, hmeth', hr, ret, narrow_b1]
  (try refine ⟨rfl, ?_⟩); (try refine ⟨rfl, ?_⟩)
  first | (intro acts; rw [hret _ acts rfl rfl rfl]) | rw [hret _ _ rfl rfl rfl]
  exact Steps.refl _
/-- what holds at the law's entry: the machine, the code, the tables' words (any of lw_tbl by 'hts w (by decide +kernel)'), the script of L ints xs at the cell b, what the Statement gives of the start (any of its parts by flat_of_before) -/
def lw_At (p : Program) (s : State) (m : MethodId) (meth : Method) (c : Code) (b L : Nat) (xs : Nat → Int32) : Prop :=
  p.tables.exec = Jvm.exec ∧ c.code = code ∧ meth.sig.returnType = ret ∧ c.maxLocals = 10 ∧ s.vm.findClass R_law = some m.cls ∧ (∀ w ∈ lw_tbl, w.before #[Value.ref b] s = true) ∧ va_X b L xs s s.heap ∧ b < s.heap.size ∧ meth.locks = false ∧ (Jvm.Cond.and given_1 narrow_1).before #[Value.ref b] s = true
def tLw0 : List (Nat × Instr × Nat) := [(0, .new 24, 3), (3, .dup, 1), (4, .invokespecial 32, 3), (7, .astore_n 1, 1), (8, .iconst 3, 1), (9, .aload_n 0, 1), (10, .iconst 0, 1), (11, .iconst 4, 1), (12, .invokestatic 33, 3), (15, .iadd, 1), (16, .istore_n 2, 1), (17, .iconst 1, 1), (18, .aload_n 0, 1), (19, .iconst 1, 1), (20, .iconst 2, 1), (21, .invokestatic 33, 3), (24, .iadd, 1), (25, .istore_n 3, 1), (26, .iconst 1, 1), (27, .istore 4, 2), (29, .iload 4, 2), (31, .iload_n 2, 1), (32, .if_icmp .ge 66, 3), (35, .aload_n 1, 1), (36, .new 37, 3)]
set_option maxRecDepth 100000 in
theorem kLw0 : gchk code tLw0 = true := by decide +kernel
def tLw1 : List (Nat × Instr × Nat) := [(39, .dup, 1), (40, .invokespecial 39, 3), (43, .iload 4, 2), (45, .invokestatic 40, 3), (48, .invokevirtual 43, 3), (51, .ldc 47, 2), (53, .invokevirtual 49, 3), (56, .iload 4, 2), (58, .iconst 1, 1), (59, .isub, 1), (60, .invokestatic 40, 3), (63, .invokevirtual 43, 3), (66, .ldc 52, 2), (68, .invokevirtual 49, 3), (71, .iload_n 3, 1), (72, .iconst 1, 1), (73, .isub, 1), (74, .invokevirtual 54, 3), (77, .invokevirtual 57, 3), (80, .invokestatic 61, 3), (83, .iload 4, 2), (85, .iconst 1, 1), (86, .isub, 1), (87, .if_icmp .eq 5, 3), (90, .iconst 0, 1)]
set_option maxRecDepth 100000 in
theorem kLw1 : gchk code tLw1 = true := by decide +kernel
def tLw2 : List (Nat × Instr × Nat) := [(91, .ireturn, 1), (92, .iinc 4 1, 3), (95, .goto (-66), 3), (98, .aload_n 1, 1), (99, .new 37, 3), (102, .dup, 1), (103, .invokespecial 39, 3), (106, .ldc 65, 2), (108, .invokevirtual 49, 3), (111, .iload_n 3, 1), (112, .invokevirtual 54, 3), (115, .invokevirtual 57, 3), (118, .invokestatic 61, 3), (121, .iload_n 2, 1), (122, .iconst 1, 1), (123, .isub, 1), (124, .if_icmp .eq 5, 3), (127, .iconst 0, 1), (128, .ireturn, 1), (129, .iload_n 2, 1), (130, .istore 4, 2), (132, .iload 4, 2), (134, .bipush 7, 2), (136, .if_icmp .ge 23, 3), (139, .aload_n 1, 1)]
set_option maxRecDepth 100000 in
theorem kLw2 : gchk code tLw2 = true := by decide +kernel
def tLw3 : List (Nat × Instr × Nat) := [(140, .iload 4, 2), (142, .iconst 1, 1), (143, .invokevirtual 67, 3), (146, .bipush 9, 2), (148, .if_icmp .eq 5, 3), (151, .iconst 0, 1), (152, .ireturn, 1), (153, .iinc 4 1, 3), (156, .goto (-24), 3), (159, .aload_n 1, 1), (160, .iconst 2, 1), (161, .invokevirtual 71, 3), (164, .istore 4, 2), (166, .aload_n 1, 1), (167, .invokevirtual 74, 3), (170, .pop, 1), (171, .iload_n 2, 1), (172, .iconst 1, 1), (173, .isub, 1), (174, .iload_n 3, 1), (175, .imul, 1), (176, .istore 5, 2), (178, .iload 5, 2), (180, .bipush 9, 2), (182, .if_icmp .le 58, 3)]
set_option maxRecDepth 100000 in
theorem kLw3 : gchk code tLw3 = true := by decide +kernel
def tLw4 : List (Nat × Instr × Nat) := [(185, .aload_n 1, 1), (186, .bipush 8, 2), (188, .invokevirtual 71, 3), (191, .iconst 1, 1), (192, .if_icmp .ne 46, 3), (195, .aload_n 1, 1), (196, .iconst 0, 1), (197, .iconst 0, 1), (198, .iconst 0, 1), (199, .iconst 0, 1), (200, .invokevirtual 77, 3), (203, .iconst (-1), 1), (204, .if_icmp .ne 34, 3), (207, .aload_n 1, 1), (208, .invokevirtual 81, 3), (211, .lconst 0, 1), (212, .lcmp, 1), (213, .ifCond .ne 25, 3), (216, .aload_n 1, 1), (217, .iconst (-1), 1), (218, .iconst 0, 1), (219, .invokevirtual 85, 3), (222, .ifCond .ne 16, 3), (225, .aload_n 1, 1), (226, .invokevirtual 88, 3)]
set_option maxRecDepth 100000 in
theorem kLw4 : gchk code tLw4 = true := by decide +kernel
def tLw5 : List (Nat × Instr × Nat) := [(229, .bipush (-3), 2), (231, .if_icmp .ne 7, 3), (234, .iconst 1, 1), (235, .goto 4, 3), (238, .iconst 0, 1), (239, .ireturn, 1), (240, .iconst 0, 1), (241, .istore 6, 2), (243, .iload 6, 2), (245, .iload_n 2, 1), (246, .if_icmp .ge 106, 3), (249, .iload 6, 2), (251, .iload_n 3, 1), (252, .imul, 1), (253, .istore 7, 2), (255, .bipush 9, 2), (257, .iload_n 2, 1), (258, .iconst 1, 1), (259, .isub, 1), (260, .iload 6, 2), (262, .isub, 1), (263, .iload_n 3, 1), (264, .imul, 1), (265, .isub, 1), (266, .istore 8, 2)]
set_option maxRecDepth 100000 in
theorem kLw5 : gchk code tLw5 = true := by decide +kernel
def tLw6 : List (Nat × Instr × Nat) := [(268, .aload_n 1, 1), (269, .iload 6, 2), (271, .invokevirtual 91, 3), (274, .iconst 1, 1), (275, .iload 8, 2), (277, .iconst 1, 1), (278, .iadd, 1), (279, .ishl, 1), (280, .iconst 1, 1), (281, .isub, 1), (282, .iconst 1, 1), (283, .iload 7, 2), (285, .ishl, 1), (286, .iconst 1, 1), (287, .isub, 1), (288, .iconst (-1), 1), (289, .ixor, 1), (290, .iand, 1), (291, .if_icmp .eq 5, 3), (294, .iconst 0, 1), (295, .ireturn, 1), (296, .iload 7, 2), (298, .ifCond .le 22, 3), (301, .aload_n 1, 1), (302, .iconst 0, 1)]
set_option maxRecDepth 100000 in
theorem kLw6 : gchk code tLw6 = true := by decide +kernel
def tLw7 : List (Nat × Instr × Nat) := [(303, .sipush 1000, 3), (306, .bipush 10, 2), (308, .iload 6, 2), (310, .imul, 1), (311, .iadd, 1), (312, .invokevirtual 94, 3), (315, .ifCond .ge 5, 3), (318, .iconst 0, 1), (319, .ireturn, 1), (320, .aload_n 1, 1), (321, .iload 6, 2), (323, .iconst 0, 1), (324, .invokevirtual 97, 3), (327, .iload 7, 2), (329, .if_icmp .ne 15, 3), (332, .aload_n 1, 1), (333, .iload 6, 2), (335, .iconst 1, 1), (336, .invokevirtual 97, 3), (339, .iload 8, 2), (341, .if_icmp .eq 5, 3), (344, .iconst 0, 1), (345, .ireturn, 1), (346, .iinc 6 1, 3), (349, .goto (-106), 3)]
set_option maxRecDepth 100000 in
theorem kLw7 : gchk code tLw7 = true := by decide +kernel
def tLw8 : List (Nat × Instr × Nat) := [(352, .aload_n 1, 1), (353, .bipush 7, 2), (355, .invokevirtual 91, 3), (358, .iload 5, 2), (360, .bipush 9, 2), (362, .if_icmp .ne 7, 3), (365, .iconst 1, 1), (366, .goto 4, 3), (369, .iconst 3, 1), (370, .if_icmp .ne 22, 3), (373, .aload_n 1, 1), (374, .bipush 8, 2), (376, .invokevirtual 71, 3), (379, .ifCond .ne 13, 3), (382, .aload_n 1, 1), (383, .iconst 0, 1), (384, .bipush 9, 2), (386, .invokevirtual 85, 3), (389, .ifCond .eq 5, 3), (392, .iconst 0, 1), (393, .ireturn, 1), (394, .aload_n 1, 1), (395, .iconst 0, 1), (396, .iconst 0, 1), (397, .iconst 0, 1)]
set_option maxRecDepth 100000 in
theorem kLw8 : gchk code tLw8 = true := by decide +kernel
def tLw9 : List (Nat × Instr × Nat) := [(398, .iconst 0, 1), (399, .invokevirtual 77, 3), (402, .istore 6, 2), (404, .iload 6, 2), (406, .bipush 10, 2), (408, .idiv, 1), (409, .istore 7, 2), (411, .bipush 6, 2), (413, .istore 8, 2), (415, .iload 8, 2), (417, .ifCond .lt 40, 3), (420, .iload 7, 2), (422, .bipush 10, 2), (424, .irem, 1), (425, .iload 8, 2), (427, .iload_n 2, 1), (428, .if_icmp .ge 10, 3), (431, .iload 8, 2), (433, .iload_n 3, 1), (434, .imul, 1), (435, .goto 4, 3), (438, .iconst 0, 1), (439, .if_icmp .eq 5, 3), (442, .iconst 0, 1), (443, .ireturn, 1)]
set_option maxRecDepth 100000 in
theorem kLw9 : gchk code tLw9 = true := by decide +kernel
def tLw10 : List (Nat × Instr × Nat) := [(444, .iload 7, 2), (446, .bipush 10, 2), (448, .idiv, 1), (449, .istore 7, 2), (451, .iinc 8 (-1), 3), (454, .goto (-39), 3), (457, .iload 6, 2), (459, .bipush 10, 2), (461, .irem, 1), (462, .ifCond .ne 14, 3), (465, .aload_n 1, 1), (466, .iconst 1, 1), (467, .iconst 0, 1), (468, .iconst 1, 1), (469, .iconst 0, 1), (470, .invokevirtual 77, 3), (473, .ifCond .ge 5, 3), (476, .iconst 0, 1), (477, .ireturn, 1), (478, .iload 5, 2), (480, .bipush 9, 2), (482, .if_icmp .ne 38, 3), (485, .aload_n 1, 1), (486, .invokevirtual 81, 3), (489, .lconst 1, 1)]
set_option maxRecDepth 100000 in
theorem kLw10 : gchk code tLw10 = true := by decide +kernel
def tLw11 : List (Nat × Instr × Nat) := [(490, .lcmp, 1), (491, .ifCond .ne 27, 3), (494, .aload_n 1, 1), (495, .iconst 0, 1), (496, .iconst 1, 1), (497, .iconst 0, 1), (498, .iconst 0, 1), (499, .invokevirtual 77, 3), (502, .iload 6, 2), (504, .if_icmp .ne 14, 3), (507, .aload_n 1, 1), (508, .bipush 6, 2), (510, .invokevirtual 71, 3), (513, .bipush 8, 2), (515, .if_icmp .eq 5, 3), (518, .iconst 0, 1), (519, .ireturn, 1), (520, .aload_n 0, 1), (521, .iconst 2, 1), (522, .bipush 10, 2), (524, .iload 5, 2), (526, .isub, 1), (527, .invokestatic 33, 3), (530, .istore 8, 2), (532, .aload_n 1, 1)]
set_option maxRecDepth 100000 in
theorem kLw11 : gchk code tLw11 = true := by decide +kernel
def tLw12 : List (Nat × Instr × Nat) := [(533, .invokevirtual 88, 3), (536, .iconst 1, 1), (537, .if_icmp .ne 15, 3), (540, .aload_n 1, 1), (541, .iconst 0, 1), (542, .iconst 1, 1), (543, .iload 8, 2), (545, .ishl, 1), (546, .invokevirtual 67, 3), (549, .ifCond .ge 5, 3), (552, .iconst 0, 1), (553, .ireturn, 1), (554, .aload_n 1, 1), (555, .invokevirtual 74, 3), (558, .pop, 1), (559, .iconst 0, 1), (560, .istore 9, 2), (562, .iload 9, 2), (564, .iload_n 2, 1), (565, .if_icmp .ge 30, 3), (568, .aload_n 1, 1), (569, .iload 9, 2), (571, .invokevirtual 91, 3), (574, .invokestatic 100, 3), (577, .iload 8, 2)]
set_option maxRecDepth 100000 in
theorem kLw12 : gchk code tLw12 = true := by decide +kernel
def tLw13 : List (Nat × Instr × Nat) := [(579, .iload 9, 2), (581, .iload_n 3, 1), (582, .imul, 1), (583, .iadd, 1), (584, .if_icmp .eq 5, 3), (587, .iconst 0, 1), (588, .ireturn, 1), (589, .iinc 9 1, 3), (592, .goto (-30), 3), (595, .iload 8, 2), (597, .ifCond .le 25, 3), (600, .aload_n 1, 1), (601, .iload_n 2, 1), (602, .iconst 1, 1), (603, .isub, 1), (604, .iload 5, 2), (606, .invokevirtual 85, 3), (609, .istore 9, 2), (611, .iload 9, 2), (613, .iconst 1, 1), (614, .iload 4, 2), (616, .ishl, 1), (617, .if_icmp .eq 5, 3), (620, .iconst 0, 1), (621, .ireturn, 1)]
set_option maxRecDepth 100000 in
theorem kLw13 : gchk code tLw13 = true := by decide +kernel
def tLw14 : List (Nat × Instr × Nat) := [(622, .aload_n 1, 1), (623, .iload_n 2, 1), (624, .iconst 1, 1), (625, .isub, 1), (626, .iconst 1, 1), (627, .iload 8, 2), (629, .iload 5, 2), (631, .iadd, 1), (632, .iconst 1, 1), (633, .iadd, 1), (634, .ishl, 1), (635, .iconst 1, 1), (636, .isub, 1), (637, .invokevirtual 67, 3), (640, .ifCond .ge 5, 3), (643, .iconst 0, 1), (644, .ireturn, 1), (645, .aload_n 1, 1), (646, .invokevirtual 74, 3), (649, .pop, 1), (650, .iconst 0, 1), (651, .istore 9, 2), (653, .iload 9, 2), (655, .iload_n 2, 1), (656, .if_icmp .ge 29, 3)]
set_option maxRecDepth 100000 in
theorem kLw14 : gchk code tLw14 = true := by decide +kernel
def tLw15 : List (Nat × Instr × Nat) := [(659, .aload_n 1, 1), (660, .iload 9, 2), (662, .invokevirtual 91, 3), (665, .iconst 1, 1), (666, .iload 8, 2), (668, .iload 9, 2), (670, .iload_n 3, 1), (671, .imul, 1), (672, .iadd, 1), (673, .ishl, 1), (674, .if_icmp .eq 5, 3), (677, .iconst 0, 1), (678, .ireturn, 1), (679, .iinc 9 1, 3), (682, .goto (-29), 3), (685, .aload_n 1, 1), (686, .bipush 7, 2), (688, .invokevirtual 91, 3), (691, .iconst 1, 1), (692, .if_icmp .ne 34, 3), (695, .aload_n 1, 1), (696, .bipush 6, 2), (698, .invokevirtual 71, 3), (701, .bipush 8, 2), (703, .if_icmp .ne 23, 3)]
set_option maxRecDepth 100000 in
theorem kLw15 : gchk code tLw15 = true := by decide +kernel
def tLw16 : List (Nat × Instr × Nat) := [(706, .aload_n 1, 1), (707, .invokevirtual 81, 3), (710, .lconst 1, 1), (711, .lcmp, 1), (712, .ifCond .ne 14, 3), (715, .aload_n 1, 1), (716, .iconst 2, 1), (717, .iconst 2, 1), (718, .iconst 1, 1), (719, .iconst 1, 1), (720, .invokevirtual 77, 3), (723, .ifCond .eq 5, 3), (726, .iconst 0, 1), (727, .ireturn, 1), (728, .iload 8, 2), (730, .iload 5, 2), (732, .iadd, 1), (733, .ifCond .le 41, 3), (736, .aload_n 1, 1), (737, .iload_n 2, 1), (738, .iconst 1, 1), (739, .isub, 1), (740, .iconst 1, 1), (741, .iload 8, 2), (743, .iload 5, 2)]
set_option maxRecDepth 100000 in
theorem kLw16 : gchk code tLw16 = true := by decide +kernel
def tLw17 : List (Nat × Instr × Nat) := [(745, .iadd, 1), (746, .ishl, 1), (747, .iconst 1, 1), (748, .isub, 1), (749, .invokevirtual 67, 3), (752, .pop, 1), (753, .aload_n 1, 1), (754, .bipush 8, 2), (756, .invokevirtual 71, 3), (759, .iconst 1, 1), (760, .if_icmp .ne 12, 3), (763, .aload_n 1, 1), (764, .iconst (-1), 1), (765, .iconst 0, 1), (766, .invokevirtual 85, 3), (769, .ifCond .ge 5, 3), (772, .iconst 0, 1), (773, .ireturn, 1), (774, .aload_n 1, 1), (775, .invokevirtual 105, 3), (778, .istore 9, 2), (780, .iload 9, 2), (782, .ifCond .lt 40, 3), (785, .aload_n 1, 1), (786, .bipush 8, 2)]
set_option maxRecDepth 100000 in
theorem kLw17 : gchk code tLw17 = true := by decide +kernel
def tLw18 : List (Nat × Instr × Nat) := [(788, .invokevirtual 71, 3), (791, .ifCond .ne 31, 3), (794, .aload_n 1, 1), (795, .iconst 2, 1), (796, .invokevirtual 71, 3), (799, .iload 4, 2), (801, .if_icmp .ne 21, 3), (804, .aload_n 1, 1), (805, .iconst 0, 1), (806, .iconst 1, 1), (807, .invokevirtual 97, 3), (810, .bipush 9, 2), (812, .iload 5, 2), (814, .isub, 1), (815, .if_icmp .ne 7, 3), (818, .iconst 1, 1), (819, .goto 4, 3), (822, .iconst 0, 1), (823, .ireturn, 1)]
set_option maxRecDepth 100000 in
theorem kLw18 : gchk code tLw18 = true := by decide +kernel
def lA (s : State) : Nat → Prop := fun q => s.heap.size ≤ q
theorem xsub_at {x : iO} {q : iT} (i : Nat) (h : x.2.1[i]? = some q) : xsub x (x.1, [q], []) := ⟨rfl, fun z hz => by
  rw [List.mem_singleton] at hz
  rw [hz]; exact List.mem_of_getElem? h, fun z hz => by cases hz⟩
theorem xsub_sc {x : iO} {q : iI} (i : Nat) (h : x.2.2[i]? = some q) : xsub x (x.1, [], [q]) := ⟨rfl, fun z hz => (by cases hz), fun z hz => by
  rw [List.mem_singleton] at hz
  rw [hz]; exact List.mem_of_getElem? h⟩
section
variable {cc : ByteArray} {own : String} {nL : Nat} {p : Program} {l : Launch} {e : Env} {R : Room} {s : State} {m : MethodId} {args : Array Value} {below : List Frame} {meth : Method} {c : Code} {A : Nat → Prop} {Q : State → Prop} {w : gw} {x : iO} {pc : Nat} {la : List (Nat × Value)} {st : List Value} {k n : Nat}
theorem zJ_widen {D : va_G} {ws : va_W} {k2 n2 : Nat} (h1 : k ≤ k2) (h2 : n ≤ n2) (h : zJ p l e R s m args below meth c A Q D nL pc la st ws k2 n2) : zJ p l e R s m args below meth c A Q D nL pc la st ws k n := fun H locs lsA hP hD hS hL => W.widen h1 h2 (h H locs lsA hP hD hS hL)
theorem zJ_pick {D : va_G} {ws : va_W} {la2 : List (Nat × Value)} (ks : List Nat) (he : lv_pick la ks = la2) (h : zJ p l e R s m args below meth c A Q D nL pc la2 st ws k n) : zJ p l e R s m args below meth c A Q D nL pc la st ws k n := fun H locs lsA hP hD hS hL => h H locs lsA hP hD hS (lv_sub hL ks he)
theorem Z_ldcS {D : va_G} {ct : iC3} {ws : va_W} {tx : String} {index q : Nat} (X : zX own cc nL p s m args meth c D ct x A) (hZ : vk_R own index tx q s) (hd : decode cc pc = .ok (.ldc index, 2)) (kk : zJ p l e R s m args below meth c A Q D nL (pc + 2) la (.ref q :: st) ws k n) : zJ p l e R s m args below meth c A Q D nL pc la st ws k n := by
  intro H locs lsA hP hD hS hL
  exact va_ldcS X.1 X.2.1 X.2.2.2.1 hZ hd (kk H locs lsA hP hD hS hL)
/-- a text of the world, told to a callee as one of the outside -/
theorem iS_of (X : zX own cc nL p s m args meth c w.1 w.2.1 x A) {ws : va_W} {H : Heap} {B : Nat → Prop} {i j t u len : Nat} {F : Nat → Int32} (hP : va_P w.1 gcl ws H) (he : ws[i]? = some (t, .inr (7, [.ref u, .int 0, .int 0, .int 0]))) (hu : ws[j]? = some (u, .inl (w.2.1.2.1, len, .inl F))) (hl : len < 2 ^ 31) (ht : ¬ B t) (hu2 : ¬ B u) : iS (t, u, len, F) B s H := by
  obtain ⟨r, hr, cell, c1, c2, c3, c4⟩ := hP i _ he
  cases hr
  have hK := X.2.2.2.2.2.2.1.1 7 _ rfl
  obtain ⟨hKs, hfc, kC, hkC, hkind⟩ := hK
  have fld : ∀ k, k < 4 → va_OF "java/lang/String" (TJ0 k).2.1 (TJ0 k).2.2.1 (vp_V [.ref u, .int 0, .int 0, .int 0] k) t B s H := fun k hk => by
    obtain ⟨cf, kf, fi, fd, g1, g2⟩ := hKs k hk
    have hlay := u_lays (C := RJ0) (T := TJ0) (N := 4) X.2.2.2.2.1 gu_7 hk
    have hO : (TJ0 k).1 = "java/lang/String" := by
      have e : k = 0 ∨ k = 1 ∨ k = 2 ∨ k = 3 := by omega
      rcases e with rfl | rfl | rfl | rfl <;> rfl
    obtain ⟨f1, -, -⟩ := u_facts hfc hkC hlay g1
    rw [hO] at g1
    exact ⟨cf, kf, fi, fd, cell, g1, f1, c1, (by rw [c3]; decide), (by rw [g2]; exact c4 k hk), ht⟩
  have hAr := (X.2.2.2.2.2.2.1.2 1 (w.2.1.2.1, .byte) rfl).1 len (fun j => .int (F j))
  have hcu := hP j _ hu
  have hcu : H[u]? = some (arrV w.2.1.2.1 len (fun j => .int (F j))) := hcu
  exact ⟨⟨cell, c1, (by rw [c3]; rfl), (by rw [c2]; exact hfc), ht⟩, fld 1 (by omega), fld 0 (by omega), ⟨_, hcu, hAr, (by intro q; cases q), (by rw [arrV_size]; exact Nat.le_refl _), (by rw [arrV_size]), fun j hj => arrV_read _ _ hj, hu2⟩⟩
/-- text(o, t) -/
theorem Z_text {idx i j t u len : Nat} {F : Nat → Int32} {es : va_W} {rest : List Value} {S : qW} {h : gH} {tx : List Nat} (X : zX own cc nL p s m args meth c w.1 w.2.1 x A) (Y : zW w s A) (hR : 52 ≤ R.frames ∧ 4000 ≤ R.locals) (hkn : k ≤ R.cells ∧ n ≤ R.slots) (HA : AX h S) (HW : WI S) (hd : decode cc pc = .ok (.invokestatic idx, 3)) (hk : gLS own idx yL_text 2) (hco : Cond.code yL_text cL_text 3 (some .int) ∈ gW) (hcat : (rest.map fun v => v.category).sum ≤ 8) (he : es[i]? = some (t, .inr (7, [.ref u, .int 0, .int 0, .int 0]))) (hu : es[j]? = some (u, .inl (w.2.1.2.1, len, .inl F))) (hlen : len = tx.length) (hl : tx.length < 90) (hb : ∀ i, i < tx.length → tx.getD i 0 < 128) (hqb : ∀ i, i < tx.length → F i = nI (tx.getD i 0)) (kk : ∀ h1, AX h1 (s_rule (sT S tx) Ts0).2 → zJ p l e R s m args below meth c A Q w.1 nL (pc + 3) la (.int (s_rule (sT S tx) Ts0).1 :: rest) (gws w h1 ++ []) k n) : zJ p l e R s m args below meth c A Q w.1 nL pc la (.ref t :: .ref (w.2.2 0) :: rest) (gws w h ++ es) k n := by
  intro H locs lsA hP hD hS hL
  obtain ⟨y1, y2, y3, y4⟩ := id Y
  have hlw : (gws w h).length = 65 := gws_len w h
  have hpre := zpre (es := es) hlw
  have at' : ∀ {a : Nat} {q : Nat × va_E}, es[a]? = some q → (gws w h ++ es)[65 + a]? = some q := fun {a q} ha => by
    rw [List.getElem?_append_right (by omega), show 65 + a - (gws w h).length = a by omega]; exact ha
  have out : ∀ {a : Nat} {q : Nat × va_E}, es[a]? = some q → ¬ va_A (gws w h) H.size q.1 := fun {a q} ha z => by
    rcases z with ⟨k0, e0, z⟩ | z
    · have hk0 : k0 < 65 := by
        have := (List.getElem?_eq_some_iff.mp z).1
        omega
      have := hD.1 k0 (65 + a) (q.1, e0) q (by rw [List.getElem?_append_left (by omega)]; exact z) (at' ha) rfl
      omega
    · have := (hP _ _ (at' ha)).lt
      omega
  have hFc : ∀ q, va_A (gws w h) H.size q → A q := zFree X hD hS _ hpre
  have hPg := hP.sub _ (fm_of hpre)
  have hDg := hD.sub (ws' := gws w h) (List.range 65) (by decide +kernel) hpre
  have hiS : iS (t, u, len, F) (va_A (gws w h) H.size) s H := iS_of X (i := 65 + i) (j := 65 + j) hP (at' he) (at' hu) (by omega) (out he) (out hu)
  have hpreC : ∀ U : State, U.heap = H → s.WarmedH U.vm → tPre w h (x.1, [(t, u, len, F)], []) H.size U := fun U hU hW => by
    have hE := ((X.2.2.2.2.2.2.2.2.1.moved hW.alike).kept hS.2.1).narrow hFc
    refine ⟨⟨by rw [hU], by rw [hU]; exact hPg, va_K.moved hW.alike X.2.2.2.2.2.2.1, fun z hz => iN_warm hz hW (X.2.2.2.2.2.2.2.1 z hz), hDg.weaken (fun _ _ _ _ => trivial), ?_⟩, by rw [hU]; exact gXt_moved hW (fun a ha hna => hS.2.1 a ha (fun z => hna (y3 a ha z))) y2⟩
    rw [hU]
    exact ⟨hE.1, hE.2.1, hE.2.2.1, hE.2.2.2.1, fun q hq => by
      rw [List.mem_singleton] at hq
      rw [hq]; exact iS.moved hW.alike hiS, fun q hq => by cases hq⟩
  have hC := i_text (w := w) (d := x.1) (q := (t, u, len, F)) (l := tx) y1 HA HW hlen hl hb hqb l H.size
  have hps : PreS s H (va_Pc [.ref (w.2.2 0), .ref t] (tPre w h (x.1, [(t, u, len, F)], []) H.size)) [.ref (w.2.2 0), .ref t] := ⟨tPre_blind w h _ H.size _, fun U hU hW => ⟨rfl, hpreC U hU hW⟩⟩
  have hroom : (zr 50 0 0).frames + 1 ≤ R.frames ∧ 8 + (3 + 11) + (zr 50 0 0).locals ≤ R.locals := by
    refine ⟨?_, ?_⟩
    · show 50 + 1 ≤ R.frames
      omega
    · show 8 + (3 + 11) + 64 * 50 ≤ R.locals
      omega
  have hrun : va_Run p l e R s m args below meth c H locs k n 0 0 (F0 m pc lsA (.ref t :: .ref (w.2.2 0) :: rest)) rest (tQ w (s_rule (sT S tx) Ts0).2 (s_rule (sT S tx) Ts0).1 (va_A (gws w h) H.size) [.ref (w.2.2 0), .ref t].toArray) (va_A (gws w h) H.size) := by
    rcases zLink X hk.1 with hl2 | ⟨host, hl2⟩
    · exact va_runS (zFix X) hC ⟨callB_of 2 X.2.2.2.2.1 (gGood hco) rfl rfl rfl (X.2.2.2.2.1 _ hk.1.2.1) hl2 hk.1.2.2 hroom, X.2.2.2.2.1 _ hk.2⟩ hps rfl rfl hL.1 rfl (lv_room hcat) hd hkn
    · exact va_runSN (zFix X) hC ⟨va_cnB 2 X.2.2.2.2.1 (gGood hco) rfl rfl rfl hl2 (X.2.2.2.2.1 _ hk.1.2.1) hk.1.2.2 hroom, X.2.2.2.2.1 _ hk.2, trivial⟩ hps rfl rfl hL.1 rfl (lv_room hcat) hd hkn
  intro T0 hT XX
  obtain ⟨v, st₀, t1, T', L, h0, X', hLs, e1, e2, ⟨⟨h1, hv, hA1, hP1⟩, hz, hk3⟩, st⟩ := hrun T0 hT XX
  cases hv
  rw [h0] at hz hk3
  have K2 := kk h1 hA1
  rw [List.append_nil] at K2
  obtain ⟨t2, a1, b1⟩ := K2 T'.heap (locs ++ L) lsA (by rw [e1]; exact hP1) ((gD_va y1).weaken (fun _ q _ hq => y4 _ hq))
    ⟨Nat.le_trans hS.1 (by rw [e1]; exact hz), fun q g1 g2 => by rw [e1, hk3 q (Nat.lt_of_lt_of_le g1 hS.1) (fun z => g2 (hFc q z))]; exact hS.2.1 q g1 g2, fun q hq => by
      rcases List.mem_append.mp hq with g | g
      · exact hS.2.2 q g
      · exact hFc _ (hLs q g)⟩ hL T' rfl X'
  exact ⟨t2, st t2 a1, b1⟩
end
/-- the law's end -/
theorem Z_end {p : Program} {l : Launch} {e : Env} {s : State} {m : MethodId} {below : List Frame} {meth : Method} {c : Code} {w : gw} {b : Nat} {x : iO} {pc k n : Nat} {la : List (Nat × Value)} {ws : va_W} (X : zX R_law code 10 p s m #[Value.ref b] meth c w.1 w.2.1 x (lA s)) (hr : meth.sig.returnType = ret) (hk : k ≤ 600000) (hn : n ≤ 7302250) (hd : decode code pc = .ok (.ireturn, 1)) : zJ p l e room_1 s m #[Value.ref b] below meth c (lA s) (lw_Z below #[Value.ref b] s) w.1 10 pc la [.int 1] ws k n := by
  intro H locs lsA hP hD hS hL
  refine va_forget (fun q hq => hS.2.2 q hq) ?_
  refine W.widen hk hn ?_
  exact lw_ret X.1 X.2.1 hr X.2.2.2.2.2.1 hd
