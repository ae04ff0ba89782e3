def qL_acts_0 : List (Nat × Instr × Nat) := [(0, .iload 7, 2), (2, .iconst 5, 1), (3, .ishr, 1), (4, .ldc 116, 2), (6, .invokestatic 117, 3), (9, .istore 8, 2), (11, .iload 7, 2), (13, .bipush 26, 2), (15, .invokestatic 117, 3), (18, .istore 9, 2), (20, .iload 9, 2), (22, .ifCond .ne 129, 3), (25, .iconst 0, 1), (26, .istore 10, 2), (28, .iconst 0, 1), (29, .istore 11, 2), (31, .iload 11, 2), (33, .bipush 24, 2), (35, .if_icmp .ge 88, 3), (38, .iload 10, 2), (40, .aload_n 3, 1), (41, .iload 11, 2), (43, .iaload, 1), (44, .iadd, 1), (45, .istore 10, 2), (47, .aload_n 2, 1), (48, .iload 11, 2), (50, .iconst 0, 1), (51, .iastore, 1), (52, .aload_n 3, 1), (53, .iload 11, 2), (55, .iconst 0, 1), (56, .iastore, 1), (57, .aload 4, 2), (59, .iload 11, 2), (61, .iconst 0, 1), (62, .iastore, 1), (63, .aload 6, 2), (65, .iload 11, 2), (67, .iconst 4, 1), (68, .idiv, 1), (69, .bipush 6, 2), (71, .imul, 1), (72, .iload 11, 2), (74, .iconst 4, 1), (75, .idiv, 1), (76, .aload_n 1, 1), (77, .bipush 9, 2), (79, .iaload, 1), (80, .if_icmp .ge 7, 3), (83, .iconst (-1), 1), (84, .goto 4, 3), (87, .iconst 0, 1), (88, .iastore, 1), (89, .aload 6, 2), (91, .iload 11, 2), (93, .iconst 4, 1), (94, .idiv, 1), (95, .bipush 6, 2), (97, .imul, 1)]
theorem kL_acts_0 : ∀ q ∈ qL_acts_0, decode cL_acts q.1 = .ok q.2 := by decide +kernel
def qL_acts_1 : List (Nat × Instr × Nat) := [(98, .iconst 1, 1), (99, .iadd, 1), (100, .iload 11, 2), (102, .iconst 4, 1), (103, .idiv, 1), (104, .aload_n 1, 1), (105, .bipush 9, 2), (107, .iaload, 1), (108, .if_icmp .ge 7, 3), (111, .iconst (-1), 1), (112, .goto 4, 3), (115, .iconst 0, 1), (116, .iastore, 1), (117, .iinc 11 1, 3), (120, .goto (-89), 3), (123, .aload_n 1, 1), (124, .iconst 0, 1), (125, .iconst 4, 1), (126, .iload 8, 2), (128, .bipush 21, 2), (130, .irem, 1), (131, .iadd, 1), (132, .iastore, 1), (133, .aload_n 0, 1), (134, .aload_n 1, 1), (135, .iconst 0, 1), (136, .iaload, 1), (137, .invokestatic 120, 3), (140, .iload 10, 2), (142, .if_icmp .ne 7, 3), (145, .iconst 1, 1), (146, .goto 4, 3), (149, .iconst 0, 1), (150, .ireturn, 1), (151, .iload 9, 2), (153, .iconst 3, 1), (154, .if_icmp .ge 165, 3), (157, .iload 8, 2), (159, .bipush 7, 2), (161, .irem, 1), (162, .istore 10, 2), (164, .iload 10, 2), (166, .iconst 1, 1), (167, .if_icmp .ne 8, 3), (170, .bipush 10, 2), (172, .goto 21, 3), (175, .iload 10, 2), (177, .iconst 3, 1), (178, .if_icmp .eq 10, 3), (181, .iload 10, 2), (183, .bipush 6, 2), (185, .if_icmp .ne 7, 3), (188, .iconst 1, 1), (189, .goto 4, 3), (192, .iconst 0, 1), (193, .istore 11, 2), (195, .iload 10, 2), (197, .ifCond .ne 8, 3), (200, .bipush 30, 2), (202, .goto 62, 3)]
theorem kL_acts_1 : ∀ q ∈ qL_acts_1, decode cL_acts q.1 = .ok q.2 := by decide +kernel
def qL_acts_2 : List (Nat × Instr × Nat) := [(205, .iload 10, 2), (207, .iconst 1, 1), (208, .if_icmp .ne 8, 3), (211, .bipush 90, 2), (213, .goto 51, 3), (216, .iload 10, 2), (218, .iconst 2, 1), (219, .if_icmp .ne 21, 3), (222, .iload 8, 2), (224, .iconst 2, 1), (225, .irem, 1), (226, .ifCond .ne 9, 3), (229, .sipush 9999, 3), (232, .goto 32, 3), (235, .bipush 30, 2), (237, .goto 27, 3), (240, .iload 10, 2), (242, .iconst 4, 1), (243, .if_icmp .ne 8, 3), (246, .bipush 8, 2), (248, .goto 16, 3), (251, .iload 10, 2), (253, .iconst 5, 1), (254, .if_icmp .ne 8, 3), (257, .bipush 20, 2), (259, .goto 5, 3), (262, .bipush 100, 2), (264, .istore 12, 2), (266, .aload_n 1, 1), (267, .iconst 1, 1), (268, .iload 10, 2), (270, .iadd, 1), (271, .iaload, 1), (272, .istore 13, 2), (274, .aload_n 1, 1), (275, .iconst 1, 1), (276, .iload 10, 2), (278, .iadd, 1), (279, .iload 11, 2), (281, .iload 8, 2), (283, .bipush 7, 2), (285, .idiv, 1), (286, .iload 12, 2), (288, .iload 11, 2), (290, .isub, 1), (291, .iconst 1, 1), (292, .iadd, 1), (293, .irem, 1), (294, .iadd, 1), (295, .iastore, 1), (296, .aload_n 0, 1), (297, .iload 10, 2), (299, .aload_n 1, 1), (300, .iconst 1, 1), (301, .iload 10, 2), (303, .iadd, 1), (304, .iaload, 1), (305, .invokestatic 123, 3), (308, .iload 13, 2), (310, .if_icmp .ne 7, 3)]
theorem kL_acts_2 : ∀ q ∈ qL_acts_2, decode cL_acts q.1 = .ok q.2 := by decide +kernel
def qL_acts_3 : List (Nat × Instr × Nat) := [(313, .iconst 1, 1), (314, .goto 4, 3), (317, .iconst 0, 1), (318, .ireturn, 1), (319, .iload 9, 2), (321, .bipush 6, 2), (323, .if_icmp .ge 148, 3), (326, .aload_n 1, 1), (327, .bipush 8, 2), (329, .iaload, 1), (330, .bipush 6, 2), (332, .if_icmp .ne 32, 3), (335, .aload_n 0, 1), (336, .iconst 1, 1), (337, .iconst 1, 1), (338, .invokestatic 126, 3), (341, .ldc 27, 2), (343, .if_icmp .ne 19, 3), (346, .aload_n 0, 1), (347, .bipush 13, 2), (349, .iconst 1, 1), (350, .invokestatic 126, 3), (353, .ldc 17, 2), (355, .if_icmp .ne 7, 3), (358, .iconst 1, 1), (359, .goto 4, 3), (362, .iconst 0, 1), (363, .ireturn, 1), (364, .bipush 10, 2), (366, .aload_n 1, 1), (367, .bipush 8, 2), (369, .iaload, 1), (370, .imul, 1), (371, .istore 10, 2), (373, .iconst 0, 1), (374, .istore 11, 2), (376, .iload 11, 2), (378, .bipush 10, 2), (380, .if_icmp .ge 52, 3), (383, .aload 5, 2), (385, .iload 10, 2), (387, .iload 11, 2), (389, .iadd, 1), (390, .iload 11, 2), (392, .ifCond .ne 13, 3), (395, .iconst 1, 1), (396, .iload 8, 2), (398, .bipush 12, 2), (400, .irem, 1), (401, .iadd, 1), (402, .goto 23, 3), (405, .iload 11, 2), (407, .iconst 1, 1), (408, .if_icmp .ne 16, 3), (411, .iconst 1, 1), (412, .iload 8, 2), (414, .bipush 12, 2), (416, .idiv, 1), (417, .bipush 9, 2), (419, .irem, 1)]
theorem kL_acts_3 : ∀ q ∈ qL_acts_3, decode cL_acts q.1 = .ok q.2 := by decide +kernel
def qL_acts_4 : List (Nat × Instr × Nat) := [(420, .iadd, 1), (421, .goto 4, 3), (424, .iconst 0, 1), (425, .iastore, 1), (426, .iinc 11 1, 3), (429, .goto (-53), 3), (432, .aload_n 1, 1), (433, .bipush 8, 2), (435, .dup2, 1), (436, .iaload, 1), (437, .iconst 1, 1), (438, .iadd, 1), (439, .iastore, 1), (440, .aload_n 0, 1), (441, .aload 5, 2), (443, .iload 10, 2), (445, .iaload, 1), (446, .aload 5, 2), (448, .iload 10, 2), (450, .iconst 1, 1), (451, .iadd, 1), (452, .iaload, 1), (453, .invokestatic 126, 3), (456, .aload_n 1, 1), (457, .bipush 8, 2), (459, .iaload, 1), (460, .iconst 1, 1), (461, .isub, 1), (462, .if_icmp .ne 7, 3), (465, .iconst 1, 1), (466, .goto 4, 3), (469, .iconst 0, 1), (470, .ireturn, 1), (471, .iload 9, 2), (473, .bipush 10, 2), (475, .if_icmp .ge 140, 3), (478, .aload_n 1, 1), (479, .bipush 8, 2), (481, .iaload, 1), (482, .ifCond .ne 22, 3), (485, .aload_n 0, 1), (486, .iconst 0, 1), (487, .bipush 6, 2), (489, .iconst 0, 1), (490, .invokestatic 129, 3), (493, .ldc 34, 2), (495, .if_icmp .ne 7, 3), (498, .iconst 1, 1), (499, .goto 4, 3), (502, .iconst 0, 1), (503, .ireturn, 1), (504, .iload 8, 2), (506, .aload_n 1, 1), (507, .bipush 8, 2), (509, .iaload, 1), (510, .irem, 1), (511, .istore 10, 2), (513, .iload 8, 2), (515, .bipush 6, 2), (517, .idiv, 1)]
theorem kL_acts_4 : ∀ q ∈ qL_acts_4, decode cL_acts q.1 = .ok q.2 := by decide +kernel
def qL_acts_5 : List (Nat × Instr × Nat) := [(518, .bipush 6, 2), (520, .irem, 1), (521, .istore 11, 2), (523, .iload 8, 2), (525, .bipush 36, 2), (527, .idiv, 1), (528, .iconst 1, 1), (529, .aload 5, 2), (531, .bipush 10, 2), (533, .iload 10, 2), (535, .imul, 1), (536, .iaload, 1), (537, .ishl, 1), (538, .irem, 1), (539, .istore 12, 2), (541, .aload 5, 2), (543, .bipush 10, 2), (545, .iload 10, 2), (547, .imul, 1), (548, .iconst 2, 1), (549, .iadd, 1), (550, .iload 11, 2), (552, .iadd, 1), (553, .iaload, 1), (554, .istore 13, 2), (556, .aload 5, 2), (558, .bipush 10, 2), (560, .iload 10, 2), (562, .imul, 1), (563, .iconst 2, 1), (564, .iadd, 1), (565, .iload 11, 2), (567, .iadd, 1), (568, .iload 12, 2), (570, .iastore, 1), (571, .aload_n 0, 1), (572, .iload 10, 2), (574, .iload 11, 2), (576, .iload 12, 2), (578, .invokestatic 129, 3), (581, .iload 13, 2), (583, .if_icmp .ne 30, 3), (586, .aload_n 0, 1), (587, .iload 10, 2), (589, .iload 11, 2), (591, .iconst 1, 1), (592, .aload 5, 2), (594, .bipush 10, 2), (596, .iload 10, 2), (598, .imul, 1), (599, .iaload, 1), (600, .ishl, 1), (601, .invokestatic 129, 3), (604, .ldc 17, 2), (606, .if_icmp .ne 7, 3), (609, .iconst 1, 1), (610, .goto 4, 3), (613, .iconst 0, 1), (614, .ireturn, 1), (615, .iload 9, 2)]
theorem kL_acts_5 : ∀ q ∈ qL_acts_5, decode cL_acts q.1 = .ok q.2 := by decide +kernel
def qL_acts_6 : List (Nat × Instr × Nat) := [(617, .bipush 10, 2), (619, .if_icmp .ne 74, 3), (622, .iload 8, 2), (624, .bipush 24, 2), (626, .irem, 1), (627, .istore 10, 2), (629, .iload 10, 2), (631, .aload_n 1, 1), (632, .iconst 0, 1), (633, .iaload, 1), (634, .if_icmp .lt 20, 3), (637, .aload_n 0, 1), (638, .iload 10, 2), (640, .invokestatic 132, 3), (643, .ldc 34, 2), (645, .if_icmp .ne 7, 3), (648, .iconst 1, 1), (649, .goto 4, 3), (652, .iconst 0, 1), (653, .ireturn, 1), (654, .aload_n 3, 1), (655, .iload 10, 2), (657, .iaload, 1), (658, .istore 11, 2), (660, .aload_n 2, 1), (661, .iload 10, 2), (663, .iconst 0, 1), (664, .iastore, 1), (665, .aload_n 3, 1), (666, .iload 10, 2), (668, .iconst 0, 1), (669, .iastore, 1), (670, .aload 4, 2), (672, .iload 10, 2), (674, .iconst 0, 1), (675, .iastore, 1), (676, .aload_n 0, 1), (677, .iload 10, 2), (679, .invokestatic 132, 3), (682, .iload 11, 2), (684, .if_icmp .ne 7, 3), (687, .iconst 1, 1), (688, .goto 4, 3), (691, .iconst 0, 1), (692, .ireturn, 1), (693, .iload 9, 2), (695, .bipush 11, 2), (697, .if_icmp .ne 99, 3), (700, .iconst 1, 1), (701, .iload 8, 2), (703, .bipush 20, 2), (705, .irem, 1), (706, .iadd, 1), (707, .istore 10, 2), (709, .iconst 0, 1), (710, .istore 11, 2), (712, .iconst 0, 1), (713, .istore 12, 2), (715, .iload 12, 2), (717, .aload_n 1, 1)]
theorem kL_acts_6 : ∀ q ∈ qL_acts_6, decode cL_acts q.1 = .ok q.2 := by decide +kernel
def qL_acts_7 : List (Nat × Instr × Nat) := [(718, .iconst 0, 1), (719, .iaload, 1), (720, .if_icmp .ge 50, 3), (723, .aload_n 2, 1), (724, .iload 12, 2), (726, .aload_n 2, 1), (727, .iload 12, 2), (729, .iaload, 1), (730, .iload 10, 2), (732, .aload_n 1, 1), (733, .iconst 1, 1), (734, .iaload, 1), (735, .imul, 1), (736, .if_icmp .le 17, 3), (739, .aload_n 2, 1), (740, .iload 12, 2), (742, .iaload, 1), (743, .iload 10, 2), (745, .aload_n 1, 1), (746, .iconst 1, 1), (747, .iaload, 1), (748, .imul, 1), (749, .isub, 1), (750, .goto 4, 3), (753, .iconst 0, 1), (754, .iastore, 1), (755, .iload 11, 2), (757, .aload_n 2, 1), (758, .iload 12, 2), (760, .iaload, 1), (761, .iadd, 1), (762, .istore 11, 2), (764, .iinc 12 1, 3), (767, .goto (-52), 3), (770, .aload_n 1, 1), (771, .bipush 13, 2), (773, .dup2, 1), (774, .iaload, 1), (775, .iload 10, 2), (777, .iadd, 1), (778, .iastore, 1), (779, .aload_n 0, 1), (780, .iload 10, 2), (782, .invokestatic 135, 3), (785, .iload 11, 2), (787, .if_icmp .ne 7, 3), (790, .iconst 1, 1), (791, .goto 4, 3), (794, .iconst 0, 1), (795, .ireturn, 1), (796, .iload 9, 2), (798, .bipush 14, 2), (800, .if_icmp .ge 94, 3), (803, .aload_n 1, 1), (804, .bipush 9, 2), (806, .iaload, 1), (807, .bipush 6, 2), (809, .if_icmp .ne 18, 3), (812, .aload_n 0, 1), (813, .invokestatic 138, 3)]
theorem kL_acts_7 : ∀ q ∈ qL_acts_7, decode cL_acts q.1 = .ok q.2 := by decide +kernel
def qL_acts_8 : List (Nat × Instr × Nat) := [(816, .ldc 27, 2), (818, .if_icmp .ne 7, 3), (821, .iconst 1, 1), (822, .goto 4, 3), (825, .iconst 0, 1), (826, .ireturn, 1), (827, .iconst 0, 1), (828, .istore 10, 2), (830, .iload 10, 2), (832, .bipush 6, 2), (834, .if_icmp .ge 33, 3), (837, .aload 6, 2), (839, .bipush 6, 2), (841, .aload_n 1, 1), (842, .bipush 9, 2), (844, .iaload, 1), (845, .imul, 1), (846, .iload 10, 2), (848, .iadd, 1), (849, .iload 10, 2), (851, .iconst 2, 1), (852, .if_icmp .ge 7, 3), (855, .iconst (-1), 1), (856, .goto 4, 3), (859, .iconst 0, 1), (860, .iastore, 1), (861, .iinc 10 1, 3), (864, .goto (-34), 3), (867, .aload_n 1, 1), (868, .bipush 9, 2), (870, .dup2, 1), (871, .iaload, 1), (872, .iconst 1, 1), (873, .iadd, 1), (874, .iastore, 1), (875, .aload_n 0, 1), (876, .invokestatic 138, 3), (879, .aload_n 1, 1), (880, .bipush 9, 2), (882, .iaload, 1), (883, .iconst 1, 1), (884, .isub, 1), (885, .if_icmp .ne 7, 3), (888, .iconst 1, 1), (889, .goto 4, 3), (892, .iconst 0, 1), (893, .ireturn, 1), (894, .iload 9, 2), (896, .bipush 17, 2), (898, .if_icmp .ge 27, 3), (901, .aload_n 0, 1), (902, .aload_n 1, 1), (903, .aload 6, 2), (905, .iload 8, 2), (907, .iload 9, 2), (909, .bipush 16, 2), (911, .if_icmp .ne 7, 3), (914, .iconst 1, 1), (915, .goto 4, 3), (918, .iconst 0, 1)]
theorem kL_acts_8 : ∀ q ∈ qL_acts_8, decode cL_acts q.1 = .ok q.2 := by decide +kernel
def qL_acts_9 : List (Nat × Instr × Nat) := [(919, .invokestatic 142, 3), (922, .goto 30, 3), (925, .aload_n 0, 1), (926, .aload_n 1, 1), (927, .aload_n 2, 1), (928, .aload_n 3, 1), (929, .aload 4, 2), (931, .aload 5, 2), (933, .aload 6, 2), (935, .iload 8, 2), (937, .iload 9, 2), (939, .bipush 22, 2), (941, .if_icmp .le 7, 3), (944, .iconst 1, 1), (945, .goto 4, 3), (948, .iconst 0, 1), (949, .invokestatic 146, 3), (952, .ireturn, 1)]
theorem kL_acts_9 : ∀ q ∈ qL_acts_9, decode cL_acts q.1 = .ok q.2 := by decide +kernel
def qL_acts : List (Nat × Instr × Nat) := qL_acts_0 ++ (qL_acts_1 ++ (qL_acts_2 ++ (qL_acts_3 ++ (qL_acts_4 ++ (qL_acts_5 ++ (qL_acts_6 ++ (qL_acts_7 ++ (qL_acts_8 ++ (qL_acts_9)))))))))
theorem kL_acts : ∀ q ∈ qL_acts, decode cL_acts q.1 = .ok q.2 := List.forall_mem_append.mpr ⟨kL_acts_0, List.forall_mem_append.mpr ⟨kL_acts_1, List.forall_mem_append.mpr ⟨kL_acts_2, List.forall_mem_append.mpr ⟨kL_acts_3, List.forall_mem_append.mpr ⟨kL_acts_4, List.forall_mem_append.mpr ⟨kL_acts_5, List.forall_mem_append.mpr ⟨kL_acts_6, List.forall_mem_append.mpr ⟨kL_acts_7, List.forall_mem_append.mpr ⟨kL_acts_8, kL_acts_9⟩⟩⟩⟩⟩⟩⟩⟩⟩
noncomputable def f_L_acts_l830 (K : Nat → Nat × Nat) (v0 : Nat) (v1 : Nat) (v6 : Nat) : Nat → Mm → Int32 → Option (Mm)
  | 0, _, _ => none
  | n + 1, μ, v10 => if 6 ≤ v10 then (some μ) else (gd (inb 9 (K v1).2) <| lt1 (α := Int32) (if 2 ≤ v10 then 0 else (-1)) fun x31 => gd (inb ((6 * (μ.1 v1 (ix 9))) + v10) (K v6).2) <| lt1 (sI μ v6 (ix ((6 * (μ.1 v1 (ix 9))) + v10)) x31) fun μ34 => lt1 (α := Int32) (v10 + 1) fun x35 => f_L_acts_l830 K v0 v1 v6 n μ34 x35)
noncomputable def f_L_acts_l715 (K : Nat → Nat × Nat) (v0 : Nat) (v1 : Nat) (v2 : Nat) (v10 : Int32) : Nat → Mm → Int32 → Int32 → Option (Int32 × Mm)
  | 0, _, _, _ => none
  | n + 1, μ, v11, v12 => gd (inb 0 (K v1).2) <| if (μ.1 v1 (ix 0)) ≤ v12 then (some (v11, μ)) else (gd (inb v12 (K v2).2) <| gd (inb 1 (K v1).2) <| bd (α := Int32) (if (μ.1 v2 (ix v12)) ≤ (v10 * (μ.1 v1 (ix 1))) then (some 0) else (gd (inb v12 (K v2).2) <| gd (inb 1 (K v1).2) <| some ((μ.1 v2 (ix v12)) - (v10 * (μ.1 v1 (ix 1)))))) fun x56 => gd (inb v12 (K v2).2) <| lt1 (sI μ v2 (ix v12) x56) fun μ63 => gd (inb v12 (K v2).2) <| lt1 (α := Int32) (v11 + (μ63.1 v2 (ix v12))) fun x65 => lt1 (α := Int32) (v12 + 1) fun x66 => f_L_acts_l715 K v0 v1 v2 v10 n μ63 x65 x66)
noncomputable def f_L_acts_l376 (K : Nat → Nat × Nat) (v0 : Nat) (v1 : Nat) (v5 : Nat) (v8 : Int32) (v10 : Int32) : Nat → Mm → Int32 → Option (Mm)
  | 0, _, _ => none
  | n + 1, μ, v11 => if 10 ≤ v11 then (some μ) else (lt1 (α := Int32) (if v11 = 0 then (1 + (v8 - v8 / 12 * 12)) else (if v11 = 1 then (1 + ((v8 / 12) - (v8 / 12) / 9 * 9)) else 0)) fun x127 => gd (inb (v10 + v11) (K v5).2) <| lt1 (sI μ v5 (ix (v10 + v11)) x127) fun μ130 => lt1 (α := Int32) (v11 + 1) fun x131 => f_L_acts_l376 K v0 v1 v5 v8 v10 n μ130 x131)
noncomputable def f_L_acts_l31 (K : Nat → Nat × Nat) (v0 : Nat) (v1 : Nat) (v2 : Nat) (v3 : Nat) (v4 : Nat) (v6 : Nat) (v8 : Int32) : Nat → Mm → Int32 → Int32 → Option (Int32 × Mm)
  | 0, _, _, _ => none
  | n + 1, μ, v10, v11 => if 24 ≤ v11 then (some (v10, μ)) else (gd (inb v11 (K v3).2) <| lt1 (α := Int32) (v10 + (μ.1 v3 (ix v11))) fun x180 => gd (inb v11 (K v2).2) <| lt1 (sI μ v2 (ix v11) 0) fun μ182 => gd (inb v11 (K v3).2) <| lt1 (sI μ182 v3 (ix v11) 0) fun μ184 => gd (inb v11 (K v4).2) <| lt1 (sI μ184 v4 (ix v11) 0) fun μ186 => gd (inb 9 (K v1).2) <| lt1 (α := Int32) (if (μ186.1 v1 (ix 9)) ≤ (v11 / 4) then 0 else (-1)) fun x188 => gd (inb ((v11 / 4) * 6) (K v6).2) <| lt1 (sI μ186 v6 (ix ((v11 / 4) * 6)) x188) fun μ191 => gd (inb 9 (K v1).2) <| lt1 (α := Int32) (if (μ191.1 v1 (ix 9)) ≤ (v11 / 4) then 0 else (-1)) fun x193 => gd (inb (((v11 / 4) * 6) + 1) (K v6).2) <| lt1 (sI μ191 v6 (ix (((v11 / 4) * 6) + 1)) x193) fun μ196 => lt1 (α := Int32) (v11 + 1) fun x197 => f_L_acts_l31 K v0 v1 v2 v3 v4 v6 v8 n μ196 x180 x197)
noncomputable def f_L_acts (K : Nat → Nat × Nat) (μ : Mm) (a0 : Nat) (a1 : Nat) (a2 : Nat) (a3 : Nat) (a4 : Nat) (a5 : Nat) (a6 : Nat) (a7 : Int32) : Option (Int32 × Mm) :=
  bd (f_L_low (a7 >>> (5 &&& 31)) 10000000) fun x2 => bd (f_L_low a7 26) fun x4 => if x4 = 0 then (bd (f_L_acts_l31 K a0 a1 a2 a3 a4 a6 x2 FU μ 0 0) fun q200 => lt1 q200.1 fun x201 => lt1 q200.2 fun μ202 => gd (inb 0 (K a1).2) <| lt1 (sI μ202 a1 (ix 0) (4 + (x2 - x2 / 21 * 21))) fun μ204 => gd (inb 0 (K a1).2) <| bd (f_L_begins K μ204 a0 (μ204.1 a1 (ix 0))) fun q206 => lt1 q206.1 fun x208 => lt1 q206.2 fun μ207 => gd (x208 = x201) <| some (1, μ207)) else (if 3 ≤ x4 then (if 6 ≤ x4 then (if 10 ≤ x4 then (if x4 = 10 then (lt1 (α := Int32) (x2 - x2 / 24 * 24) fun x77 => gd (inb 0 (K a1).2) <| if x77 < (μ.1 a1 (ix 0)) then (gd (inb x77 (K a3).2) <| lt1 (α := Int32) (μ.1 a3 (ix x77)) fun x81 => gd (inb x77 (K a2).2) <| lt1 (sI μ a2 (ix x77) 0) fun μ83 => gd (inb x77 (K a3).2) <| lt1 (sI μ83 a3 (ix x77) 0) fun μ85 => gd (inb x77 (K a4).2) <| lt1 (sI μ85 a4 (ix x77) 0) fun μ87 => bd (f_L_renews K μ87 a0 x77) fun q88 => lt1 q88.1 fun x90 => lt1 q88.2 fun μ89 => gd (x90 = x81) <| some (1, μ89)) else (bd (fx_X7_replace K μ a0 x77) fun q92 => gd (q92.1 = 1) <| lt1 q92.2 fun μ94 => some (1, μ94))) else (if x4 = 11 then (lt1 (α := Int32) (1 + (x2 - x2 / 20 * 20)) fun x51 => bd (f_L_acts_l715 K a0 a1 a2 x51 FU μ 0 0) fun q67 => lt1 q67.1 fun x68 => lt1 q67.2 fun μ69 => gd (inb 13 (K a1).2) <| gd (inb 13 (K a1).2) <| lt1 (sI μ69 a1 (ix 13) ((μ69.1 a1 (ix 13)) + x51)) fun μ72 => bd (f_L_cools K μ72 a0 x51) fun q73 => lt1 q73.1 fun x75 => lt1 q73.2 fun μ74 => gd (x75 = x68) <| some (1, μ74)) else (if 14 ≤ x4 then (if 17 ≤ x4 then (lt1 (α := Int32) (if x4 ≤ 22 then 0 else 1) fun x13 => bd (f_L_sells K μ a0 a1 a2 a3 a4 a5 a6 x2 x13) fun q15 => lt1 q15.1 fun x17 => lt1 q15.2 fun μ16 => gd (x17 = 0 ∨ x17 = 1) <| some (x17, μ16)) else (lt1 (α := Int32) (if x4 = 16 then 1 else 0) fun x20 => bd (f_L_lets K μ a0 a1 a6 x2 x20) fun q22 => lt1 q22.1 fun x24 => lt1 q22.2 fun μ23 => gd (x24 = 0 ∨ x24 = 1) <| some (x24, μ23))) else (gd (inb 9 (K a1).2) <| if (μ.1 a1 (ix 9)) = 6 then (bd (fx_X7_addCustomer K μ a0) fun q47 => gd (q47.1 = 3) <| lt1 q47.2 fun μ49 => some (1, μ49)) else (bd (f_L_acts_l830 K a0 a1 a6 FU μ 0) fun q37 => lt1 q37 fun μ38 => gd (inb 9 (K a1).2) <| gd (inb 9 (K a1).2) <| lt1 (sI μ38 a1 (ix 9) ((μ38.1 a1 (ix 9)) + 1)) fun μ41 => bd (f_L_customers K μ41 a0) fun q42 => lt1 q42.1 fun x44 => lt1 q42.2 fun μ43 => gd (inb 9 (K a1).2) <| gd (x44 = ((μ43.1 a1 (ix 9)) - 1)) <| some (1, μ43)))))) else (gd (inb 8 (K a1).2) <| if (μ.1 a1 (ix 8)) = 0 then (bd (fx_X7_setRow K μ a0 0 6 0) fun q118 => gd (q118.1 = 1) <| lt1 q118.2 fun μ120 => some (1, μ120)) else (gd (inb 8 (K a1).2) <| gd (¬ (μ.1 a1 (ix 8)) = 0) <| lt1 (α := Int32) (x2 - x2 / (μ.1 a1 (ix 8)) * (μ.1 a1 (ix 8))) fun x100 => lt1 (α := Int32) ((x2 / 6) - (x2 / 6) / 6 * 6) fun x101 => gd (inb (10 * x100) (K a5).2) <| gd (¬ ((1 : Int32) <<< ((μ.1 a5 (ix (10 * x100))) &&& 31)) = 0) <| lt1 (α := Int32) ((x2 / 36) - (x2 / 36) / ((1 : Int32) <<< ((μ.1 a5 (ix (10 * x100))) &&& 31)) * ((1 : Int32) <<< ((μ.1 a5 (ix (10 * x100))) &&& 31))) fun x104 => gd (inb (((10 * x100) + 2) + x101) (K a5).2) <| lt1 (α := Int32) (μ.1 a5 (ix (((10 * x100) + 2) + x101))) fun x106 => gd (inb (((10 * x100) + 2) + x101) (K a5).2) <| lt1 (sI μ a5 (ix (((10 * x100) + 2) + x101)) x104) fun μ108 => bd (f_L_rows K μ108 a0 x100 x101 x104) fun q109 => lt1 q109.1 fun x111 => lt1 q109.2 fun μ110 => gd (x111 = x106) <| gd (inb (10 * x100) (K a5).2) <| bd (fx_X7_setRow K μ110 a0 x100 x101 ((1 : Int32) <<< ((μ110.1 a5 (ix (10 * x100))) &&& 31))) fun q114 => gd (q114.1 = 2) <| lt1 q114.2 fun μ116 => some (1, μ116)))) else (gd (inb 8 (K a1).2) <| if (μ.1 a1 (ix 8)) = 6 then (bd (fx_X7_addLabel K μ a0 1 1) fun q146 => gd (q146.1 = 3) <| lt1 q146.2 fun μ148 => bd (fx_X7_addLabel K μ148 a0 13 1) fun q150 => gd (q150.1 = 2) <| lt1 q150.2 fun μ152 => some (1, μ152)) else (gd (inb 8 (K a1).2) <| lt1 (α := Int32) (10 * (μ.1 a1 (ix 8))) fun x125 => bd (f_L_acts_l376 K a0 a1 a5 x2 x125 FU μ 0) fun q134 => lt1 q134 fun μ135 => gd (inb 8 (K a1).2) <| gd (inb 8 (K a1).2) <| lt1 (sI μ135 a1 (ix 8) ((μ135.1 a1 (ix 8)) + 1)) fun μ138 => gd (inb x125 (K a5).2) <| gd (inb (x125 + 1) (K a5).2) <| bd (f_L_labels K μ138 a0 (μ138.1 a5 (ix x125)) (μ138.1 a5 (ix (x125 + 1)))) fun q141 => lt1 q141.1 fun x143 => lt1 q141.2 fun μ142 => gd (inb 8 (K a1).2) <| gd (x143 = ((μ142.1 a1 (ix 8)) - 1)) <| some (1, μ142)))) else (lt1 (α := Int32) (x2 - x2 / 7 * 7) fun x154 => lt1 (α := Int32) (if x154 = 1 then 10 else (if x154 = 3 then 1 else (if x154 = 6 then 1 else 0))) fun x155 => lt1 (α := Int32) (if x154 = 0 then 30 else (if x154 = 1 then 90 else (if x154 = 2 then (if (x2 - x2 / 2 * 2) = 0 then 9999 else 30) else (if x154 = 4 then 8 else (if x154 = 5 then 20 else 100))))) fun x157 => gd (inb (1 + x154) (K a1).2) <| lt1 (α := Int32) (μ.1 a1 (ix (1 + x154))) fun x160 => gd (¬ ((x157 - x155) + 1) = 0) <| gd (inb (1 + x154) (K a1).2) <| lt1 (sI μ a1 (ix (1 + x154)) (x155 + ((x2 / 7) - (x2 / 7) / ((x157 - x155) + 1) * ((x157 - x155) + 1)))) fun μ163 => gd (inb (1 + x154) (K a1).2) <| bd (f_L_sets K μ163 a0 x154 (μ163.1 a1 (ix (1 + x154)))) fun q165 => lt1 q165.1 fun x167 => lt1 q165.2 fun μ166 => gd (x167 = x160) <| some (1, μ166)))
set_option maxRecDepth 100000 in
set_option maxHeartbeats 4000000 in
theorem gl_L_acts_830 {l : Launch} {Z : ZZ} {X : XX} (v0 : Nat) (v1 : Nat) (v6 : Nat) (k0 : (zk Z v0).1 = 5) (k1 : (zk Z v1).1 = 8) (k6 : (zk Z v6).1 = 8) (C : Cx l Z false X cL_acts RL 14 (some .boolean)) (hl : l.stackTraces = false) (E : xR X = rmm 10 101 2156) : ∀ (n : Nat) (μ : Mm) (v10 : Int32) (y : Mm), f_L_acts_l830 (zk Z) v0 v1 v6 n μ v10 = some y → G Z X 14 0 0 867 [(0, .ref (za Z v0)), (1, .ref (za Z v1))] [] y → G Z X 14 0 0 830 [(0, .ref (za Z v0)), (1, .ref (za Z v1)), (6, .ref (za Z v6)), (10, .int v10)] [] μ := by
  intro n
  induction n with
  | zero => intro μ v10 y h he; unfold f_L_acts_l830 at h; cases h
  | succ n ih =>
    intro μ v10 y h he
    unfold f_L_acts_l830 at h
    refine g_iload C (i := 10) 3 rfl (dk kL_acts 488 rfl) ?_
    refine g_bipush C (v := 6) (by decide) (dk kL_acts 489 rfl) ?_
    refine g_icmp_ge C (tgt := 867) (dk kL_acts 490 rfl) (by decide) (fun c29 => ?_) (fun c29 => ?_)
    · replace h := ite_t h c29
      cases h
      exact g_sub [0, 1] rfl he
    · replace h := ite_f h c29
      refine g_aload C (i := 6) 2 rfl (dk kL_acts 491 rfl) ?_
      refine g_bipush C (v := 6) (by decide) (dk kL_acts 492 rfl) ?_
      refine g_aload_n C (i := 1) 1 rfl rfl (dk kL_acts 493 rfl) ?_
      refine g_bipush C (v := 9) (by decide) (dk kL_acts 494 rfl) ?_
      obtain ⟨c30, h⟩ := gd_inv h
      refine g_iald C k1 c30 (dk kL_acts 495 rfl) ?_
      refine g_imul C (dk kL_acts 496 rfl) ?_
      refine g_iload C (i := 10) 3 rfl (dk kL_acts 497 rfl) ?_
      refine g_iadd C (dk kL_acts 498 rfl) ?_
      refine g_iload C (i := 10) 3 rfl (dk kL_acts 499 rfl) ?_
      refine g_iconst C (v := 2) (by decide) (dk kL_acts 500 rfl) ?_
      obtain ⟨x31, ex31, h⟩ := lt_inv h
      have kj32 : G Z X 14 0 0 860 [(0, .ref (za Z v0)), (1, .ref (za Z v1)), (6, .ref (za Z v6)), (10, .int v10)] [.int x31, .int ((6 * (μ.1 v1 (ix 9))) + v10), .ref (za Z v6)] μ := by
        obtain ⟨c33, h⟩ := gd_inv h
        obtain ⟨μ34, eμ34, h⟩ := lt_inv h
        refine g_iast C k6 c33 eμ34 (dk kL_acts 505 rfl) ?_
        obtain ⟨x35, ex35, h⟩ := lt_inv h
        refine g_iinc C (i := 10) (v := x35) (lv' := [(10, .int x35), (0, .ref (za Z v0)), (1, .ref (za Z v1)), (6, .ref (za Z v6))]) 3 (dk kL_acts 506 rfl) rfl (by rw [ex35]; rfl) (by decide) rfl ?_
        refine g_goto C (tgt := 830) (dk kL_acts 507 rfl) (by decide) ?_
        exact g_sub [1, 2, 3, 0] rfl (ih μ34 x35 y h he)
      clear h
      refine g_icmp_ge C (tgt := 859) (dk kL_acts 501 rfl) (by decide) (fun c36 => ?_) (fun c36 => ?_)
      · refine g_iconst C (v := 0) (by decide) (dk kL_acts 504 rfl) ?_
        exact g_nmi (by rw [ex31, if_pos c36]) kj32
      · refine g_iconst C (v := (-1)) (by decide) (dk kL_acts 502 rfl) ?_
        refine g_goto C (tgt := 860) (dk kL_acts 503 rfl) (by decide) ?_
        exact g_nmi (by rw [ex31, if_neg c36]) kj32
set_option maxRecDepth 100000 in
set_option maxHeartbeats 4000000 in
theorem gl_L_acts_715 {l : Launch} {Z : ZZ} {X : XX} (v0 : Nat) (v1 : Nat) (v2 : Nat) (v10 : Int32) (k0 : (zk Z v0).1 = 5) (k1 : (zk Z v1).1 = 8) (k2 : (zk Z v2).1 = 8) (C : Cx l Z false X cL_acts RL 14 (some .boolean)) (hl : l.stackTraces = false) (E : xR X = rmm 10 101 2156) : ∀ (n : Nat) (μ : Mm) (v11 : Int32) (v12 : Int32) (y : Int32 × Mm), f_L_acts_l715 (zk Z) v0 v1 v2 v10 n μ v11 v12 = some y → G Z X 14 0 0 770 [(0, .ref (za Z v0)), (1, .ref (za Z v1)), (10, .int v10), (11, .int y.1)] [] y.2 → G Z X 14 0 0 715 [(0, .ref (za Z v0)), (1, .ref (za Z v1)), (2, .ref (za Z v2)), (10, .int v10), (11, .int v11), (12, .int v12)] [] μ := by
  intro n
  induction n with
  | zero => intro μ v11 v12 y h he; unfold f_L_acts_l715 at h; cases h
  | succ n ih =>
    intro μ v11 v12 y h he
    unfold f_L_acts_l715 at h
    refine g_iload C (i := 12) 5 rfl (dk kL_acts 418 rfl) ?_
    refine g_aload_n C (i := 1) 1 rfl rfl (dk kL_acts 419 rfl) ?_
    refine g_iconst C (v := 0) (by decide) (dk kL_acts 420 rfl) ?_
    obtain ⟨c52, h⟩ := gd_inv h
    refine g_iald C k1 c52 (dk kL_acts 421 rfl) ?_
    refine g_icmp_ge C (tgt := 770) (dk kL_acts 422 rfl) (by decide) (fun c53 => ?_) (fun c53 => ?_)
    · replace h := ite_t h c53
      cases h
      exact g_sub [0, 1, 3, 4] rfl he
    · replace h := ite_f h c53
      refine g_aload_n C (i := 2) 2 rfl rfl (dk kL_acts 423 rfl) ?_
      refine g_iload C (i := 12) 5 rfl (dk kL_acts 424 rfl) ?_
      refine g_aload_n C (i := 2) 2 rfl rfl (dk kL_acts 425 rfl) ?_
      refine g_iload C (i := 12) 5 rfl (dk kL_acts 426 rfl) ?_
      obtain ⟨c54, h⟩ := gd_inv h
      refine g_iald C k2 c54 (dk kL_acts 427 rfl) ?_
      refine g_iload C (i := 10) 3 rfl (dk kL_acts 428 rfl) ?_
      refine g_aload_n C (i := 1) 1 rfl rfl (dk kL_acts 429 rfl) ?_
      refine g_iconst C (v := 1) (by decide) (dk kL_acts 430 rfl) ?_
      obtain ⟨c55, h⟩ := gd_inv h
      refine g_iald C k1 c55 (dk kL_acts 431 rfl) ?_
      refine g_imul C (dk kL_acts 432 rfl) ?_
      obtain ⟨x56, hx58, h⟩ := bd_inv h
      have kj57 : G Z X 14 0 0 754 [(0, .ref (za Z v0)), (1, .ref (za Z v1)), (2, .ref (za Z v2)), (10, .int v10), (11, .int v11), (12, .int v12)] [.int x56, .int v12, .ref (za Z v2)] μ := by
        obtain ⟨c62, h⟩ := gd_inv h
        obtain ⟨μ63, eμ63, h⟩ := lt_inv h
        refine g_iast C k2 c62 eμ63 (dk kL_acts 445 rfl) ?_
        refine g_iload C (i := 11) 4 rfl (dk kL_acts 446 rfl) ?_
        refine g_aload_n C (i := 2) 2 rfl rfl (dk kL_acts 447 rfl) ?_
        refine g_iload C (i := 12) 5 rfl (dk kL_acts 448 rfl) ?_
        obtain ⟨c64, h⟩ := gd_inv h
        refine g_iald C k2 c64 (dk kL_acts 449 rfl) ?_
        refine g_iadd C (dk kL_acts 450 rfl) ?_
        obtain ⟨x65, ex65, h⟩ := lt_inv h
        refine g_nmi ex65 ?_
        refine g_istore C (i := 11) (lv' := [(11, .int x65), (0, .ref (za Z v0)), (1, .ref (za Z v1)), (2, .ref (za Z v2)), (10, .int v10), (12, .int v12)]) (dk kL_acts 451 rfl) (by decide) rfl ?_
        obtain ⟨x66, ex66, h⟩ := lt_inv h
        refine g_iinc C (i := 12) (v := x66) (lv' := [(12, .int x66), (11, .int x65), (0, .ref (za Z v0)), (1, .ref (za Z v1)), (2, .ref (za Z v2)), (10, .int v10)]) 5 (dk kL_acts 452 rfl) rfl (by rw [ex66]; rfl) (by decide) rfl ?_
        refine g_goto C (tgt := 715) (dk kL_acts 453 rfl) (by decide) ?_
        exact g_sub [2, 3, 4, 5, 1, 0] rfl (ih μ63 x65 x66 y h he)
      clear h
      have h := hx58
      clear hx58
      refine g_icmp_le C (tgt := 753) (dk kL_acts 433 rfl) (by decide) (fun c59 => ?_) (fun c59 => ?_)
      · replace h := ite_t h c59
        refine g_iconst C (v := 0) (by decide) (dk kL_acts 444 rfl) ?_
        have h9 := Option.some.inj h
        subst h9
        exact kj57
      · replace h := ite_f h c59
        refine g_aload_n C (i := 2) 2 rfl rfl (dk kL_acts 434 rfl) ?_
        refine g_iload C (i := 12) 5 rfl (dk kL_acts 435 rfl) ?_
        obtain ⟨c60, h⟩ := gd_inv h
        refine g_iald C k2 c60 (dk kL_acts 436 rfl) ?_
        refine g_iload C (i := 10) 3 rfl (dk kL_acts 437 rfl) ?_
        refine g_aload_n C (i := 1) 1 rfl rfl (dk kL_acts 438 rfl) ?_
        refine g_iconst C (v := 1) (by decide) (dk kL_acts 439 rfl) ?_
        obtain ⟨c61, h⟩ := gd_inv h
        refine g_iald C k1 c61 (dk kL_acts 440 rfl) ?_
        refine g_imul C (dk kL_acts 441 rfl) ?_
        refine g_isub C (dk kL_acts 442 rfl) ?_
        refine g_goto C (tgt := 754) (dk kL_acts 443 rfl) (by decide) ?_
        have h9 := Option.some.inj h
        subst h9
        exact kj57
set_option maxRecDepth 100000 in
set_option maxHeartbeats 4000000 in
theorem gl_L_acts_376 {l : Launch} {Z : ZZ} {X : XX} (v0 : Nat) (v1 : Nat) (v5 : Nat) (v8 : Int32) (v10 : Int32) (k0 : (zk Z v0).1 = 5) (k1 : (zk Z v1).1 = 8) (k5 : (zk Z v5).1 = 8) (C : Cx l Z false X cL_acts RL 14 (some .boolean)) (hl : l.stackTraces = false) (E : xR X = rmm 10 101 2156) : ∀ (n : Nat) (μ : Mm) (v11 : Int32) (y : Mm), f_L_acts_l376 (zk Z) v0 v1 v5 v8 v10 n μ v11 = some y → G Z X 14 0 0 432 [(0, .ref (za Z v0)), (1, .ref (za Z v1)), (5, .ref (za Z v5)), (10, .int v10)] [] y → G Z X 14 0 0 376 [(0, .ref (za Z v0)), (1, .ref (za Z v1)), (5, .ref (za Z v5)), (8, .int v8), (10, .int v10), (11, .int v11)] [] μ := by
  intro n
  induction n with
  | zero => intro μ v11 y h he; unfold f_L_acts_l376 at h; cases h
  | succ n ih =>
    intro μ v11 y h he
    unfold f_L_acts_l376 at h
    refine g_iload C (i := 11) 5 rfl (dk kL_acts 216 rfl) ?_
    refine g_bipush C (v := 10) (by decide) (dk kL_acts 217 rfl) ?_
    refine g_icmp_ge C (tgt := 432) (dk kL_acts 218 rfl) (by decide) (fun c126 => ?_) (fun c126 => ?_)
    · replace h := ite_t h c126
      cases h
      exact g_sub [0, 1, 2, 4] rfl he
    · replace h := ite_f h c126
      refine g_aload C (i := 5) 2 rfl (dk kL_acts 219 rfl) ?_
      refine g_iload C (i := 10) 4 rfl (dk kL_acts 220 rfl) ?_
      refine g_iload C (i := 11) 5 rfl (dk kL_acts 221 rfl) ?_
      refine g_iadd C (dk kL_acts 222 rfl) ?_
      refine g_iload C (i := 11) 5 rfl (dk kL_acts 223 rfl) ?_
      obtain ⟨x127, ex127, h⟩ := lt_inv h
      have kj128 : G Z X 14 0 0 425 [(0, .ref (za Z v0)), (1, .ref (za Z v1)), (5, .ref (za Z v5)), (8, .int v8), (10, .int v10), (11, .int v11)] [.int x127, .int (v10 + v11), .ref (za Z v5)] μ := by
        obtain ⟨c129, h⟩ := gd_inv h
        obtain ⟨μ130, eμ130, h⟩ := lt_inv h
        refine g_iast C k5 c129 eμ130 (dk kL_acts 243 rfl) ?_
        obtain ⟨x131, ex131, h⟩ := lt_inv h
        refine g_iinc C (i := 11) (v := x131) (lv' := [(11, .int x131), (0, .ref (za Z v0)), (1, .ref (za Z v1)), (5, .ref (za Z v5)), (8, .int v8), (10, .int v10)]) 5 (dk kL_acts 244 rfl) rfl (by rw [ex131]; rfl) (by decide) rfl ?_
        refine g_goto C (tgt := 376) (dk kL_acts 245 rfl) (by decide) ?_
        exact g_sub [1, 2, 3, 4, 5, 0] rfl (ih μ130 x131 y h he)
      clear h
      refine g_if_ne C (tgt := 405) (dk kL_acts 224 rfl) (by decide) (fun c132 => ?_) (fun c132 => ?_)
      · refine g_iload C (i := 11) 5 rfl (dk kL_acts 231 rfl) ?_
        refine g_iconst C (v := 1) (by decide) (dk kL_acts 232 rfl) ?_
        refine g_icmp_ne C (tgt := 424) (dk kL_acts 233 rfl) (by decide) (fun c133 => ?_) (fun c133 => ?_)
        · refine g_iconst C (v := 0) (by decide) (dk kL_acts 242 rfl) ?_
          exact g_nmi (by rw [ex127, if_neg c132, if_neg c133]) kj128
        · refine g_iconst C (v := 1) (by decide) (dk kL_acts 234 rfl) ?_
          refine g_iload C (i := 8) 3 rfl (dk kL_acts 235 rfl) ?_
          refine g_bipush C (v := 12) (by decide) (dk kL_acts 236 rfl) ?_
          refine g_idiv C (by decide) (dk kL_acts 237 rfl) ?_
          refine g_bipush C (v := 9) (by decide) (dk kL_acts 238 rfl) ?_
          refine g_irem C (by decide) (dk kL_acts 239 rfl) ?_
          refine g_iadd C (dk kL_acts 240 rfl) ?_
          refine g_goto C (tgt := 425) (dk kL_acts 241 rfl) (by decide) ?_
          exact g_nmi (by rw [ex127, if_neg c132, if_pos c133]) kj128
      · refine g_iconst C (v := 1) (by decide) (dk kL_acts 225 rfl) ?_
        refine g_iload C (i := 8) 3 rfl (dk kL_acts 226 rfl) ?_
        refine g_bipush C (v := 12) (by decide) (dk kL_acts 227 rfl) ?_
        refine g_irem C (by decide) (dk kL_acts 228 rfl) ?_
        refine g_iadd C (dk kL_acts 229 rfl) ?_
        refine g_goto C (tgt := 425) (dk kL_acts 230 rfl) (by decide) ?_
        exact g_nmi (by rw [ex127, if_pos c132]) kj128
set_option maxRecDepth 100000 in
set_option maxHeartbeats 4000000 in
theorem gl_L_acts_31 {l : Launch} {Z : ZZ} {X : XX} (v0 : Nat) (v1 : Nat) (v2 : Nat) (v3 : Nat) (v4 : Nat) (v6 : Nat) (v8 : Int32) (k0 : (zk Z v0).1 = 5) (k1 : (zk Z v1).1 = 8) (k2 : (zk Z v2).1 = 8) (k3 : (zk Z v3).1 = 8) (k4 : (zk Z v4).1 = 8) (k6 : (zk Z v6).1 = 8) (C : Cx l Z false X cL_acts RL 14 (some .boolean)) (hl : l.stackTraces = false) (E : xR X = rmm 10 101 2156) : ∀ (n : Nat) (μ : Mm) (v10 : Int32) (v11 : Int32) (y : Int32 × Mm), f_L_acts_l31 (zk Z) v0 v1 v2 v3 v4 v6 v8 n μ v10 v11 = some y → G Z X 14 0 0 123 [(0, .ref (za Z v0)), (1, .ref (za Z v1)), (8, .int v8), (10, .int y.1)] [] y.2 → G Z X 14 0 0 31 [(0, .ref (za Z v0)), (1, .ref (za Z v1)), (2, .ref (za Z v2)), (3, .ref (za Z v3)), (4, .ref (za Z v4)), (6, .ref (za Z v6)), (8, .int v8), (10, .int v10), (11, .int v11)] [] μ := by
  intro n
  induction n with
  | zero => intro μ v10 v11 y h he; unfold f_L_acts_l31 at h; cases h
  | succ n ih =>
    intro μ v10 v11 y h he
    unfold f_L_acts_l31 at h
    refine g_iload C (i := 11) 8 rfl (dk kL_acts 16 rfl) ?_
    refine g_bipush C (v := 24) (by decide) (dk kL_acts 17 rfl) ?_
    refine g_icmp_ge C (tgt := 123) (dk kL_acts 18 rfl) (by decide) (fun c178 => ?_) (fun c178 => ?_)
    · replace h := ite_t h c178
      cases h
      exact g_sub [0, 1, 6, 7] rfl he
    · replace h := ite_f h c178
      refine g_iload C (i := 10) 7 rfl (dk kL_acts 19 rfl) ?_
      refine g_aload_n C (i := 3) 3 rfl rfl (dk kL_acts 20 rfl) ?_
      refine g_iload C (i := 11) 8 rfl (dk kL_acts 21 rfl) ?_
      obtain ⟨c179, h⟩ := gd_inv h
      refine g_iald C k3 c179 (dk kL_acts 22 rfl) ?_
      refine g_iadd C (dk kL_acts 23 rfl) ?_
      obtain ⟨x180, ex180, h⟩ := lt_inv h
      refine g_nmi ex180 ?_
      refine g_istore C (i := 10) (lv' := [(10, .int x180), (0, .ref (za Z v0)), (1, .ref (za Z v1)), (2, .ref (za Z v2)), (3, .ref (za Z v3)), (4, .ref (za Z v4)), (6, .ref (za Z v6)), (8, .int v8), (11, .int v11)]) (dk kL_acts 24 rfl) (by decide) rfl ?_
      refine g_aload_n C (i := 2) 3 rfl rfl (dk kL_acts 25 rfl) ?_
      refine g_iload C (i := 11) 8 rfl (dk kL_acts 26 rfl) ?_
      refine g_iconst C (v := 0) (by decide) (dk kL_acts 27 rfl) ?_
      obtain ⟨c181, h⟩ := gd_inv h
      obtain ⟨μ182, eμ182, h⟩ := lt_inv h
      refine g_iast C k2 c181 eμ182 (dk kL_acts 28 rfl) ?_
      refine g_aload_n C (i := 3) 4 rfl rfl (dk kL_acts 29 rfl) ?_
      refine g_iload C (i := 11) 8 rfl (dk kL_acts 30 rfl) ?_
      refine g_iconst C (v := 0) (by decide) (dk kL_acts 31 rfl) ?_
      obtain ⟨c183, h⟩ := gd_inv h
      obtain ⟨μ184, eμ184, h⟩ := lt_inv h
      refine g_iast C k3 c183 eμ184 (dk kL_acts 32 rfl) ?_
      refine g_aload C (i := 4) 5 rfl (dk kL_acts 33 rfl) ?_
      refine g_iload C (i := 11) 8 rfl (dk kL_acts 34 rfl) ?_
      refine g_iconst C (v := 0) (by decide) (dk kL_acts 35 rfl) ?_
      obtain ⟨c185, h⟩ := gd_inv h
      obtain ⟨μ186, eμ186, h⟩ := lt_inv h
      refine g_iast C k4 c185 eμ186 (dk kL_acts 36 rfl) ?_
      refine g_aload C (i := 6) 6 rfl (dk kL_acts 37 rfl) ?_
      refine g_iload C (i := 11) 8 rfl (dk kL_acts 38 rfl) ?_
      refine g_iconst C (v := 4) (by decide) (dk kL_acts 39 rfl) ?_
      refine g_idiv C (by decide) (dk kL_acts 40 rfl) ?_
      refine g_bipush C (v := 6) (by decide) (dk kL_acts 41 rfl) ?_
      refine g_imul C (dk kL_acts 42 rfl) ?_
      refine g_iload C (i := 11) 8 rfl (dk kL_acts 43 rfl) ?_
      refine g_iconst C (v := 4) (by decide) (dk kL_acts 44 rfl) ?_
      refine g_idiv C (by decide) (dk kL_acts 45 rfl) ?_
      refine g_aload_n C (i := 1) 2 rfl rfl (dk kL_acts 46 rfl) ?_
      refine g_bipush C (v := 9) (by decide) (dk kL_acts 47 rfl) ?_
      obtain ⟨c187, h⟩ := gd_inv h
      refine g_iald C k1 c187 (dk kL_acts 48 rfl) ?_
      obtain ⟨x188, ex188, h⟩ := lt_inv h
      have kj189 : G Z X 14 0 0 88 [(10, .int x180), (0, .ref (za Z v0)), (1, .ref (za Z v1)), (2, .ref (za Z v2)), (3, .ref (za Z v3)), (4, .ref (za Z v4)), (6, .ref (za Z v6)), (8, .int v8), (11, .int v11)] [.int x188, .int ((v11 / 4) * 6), .ref (za Z v6)] μ186 := by
        obtain ⟨c190, h⟩ := gd_inv h
        obtain ⟨μ191, eμ191, h⟩ := lt_inv h
        refine g_iast C k6 c190 eμ191 (dk kL_acts 53 rfl) ?_
        refine g_aload C (i := 6) 6 rfl (dk kL_acts 54 rfl) ?_
        refine g_iload C (i := 11) 8 rfl (dk kL_acts 55 rfl) ?_
        refine g_iconst C (v := 4) (by decide) (dk kL_acts 56 rfl) ?_
        refine g_idiv C (by decide) (dk kL_acts 57 rfl) ?_
        refine g_bipush C (v := 6) (by decide) (dk kL_acts 58 rfl) ?_
        refine g_imul C (dk kL_acts 59 rfl) ?_
        refine g_iconst C (v := 1) (by decide) (dk kL_acts 60 rfl) ?_
        refine g_iadd C (dk kL_acts 61 rfl) ?_
        refine g_iload C (i := 11) 8 rfl (dk kL_acts 62 rfl) ?_
        refine g_iconst C (v := 4) (by decide) (dk kL_acts 63 rfl) ?_
        refine g_idiv C (by decide) (dk kL_acts 64 rfl) ?_
        refine g_aload_n C (i := 1) 2 rfl rfl (dk kL_acts 65 rfl) ?_
        refine g_bipush C (v := 9) (by decide) (dk kL_acts 66 rfl) ?_
        obtain ⟨c192, h⟩ := gd_inv h
        refine g_iald C k1 c192 (dk kL_acts 67 rfl) ?_
        obtain ⟨x193, ex193, h⟩ := lt_inv h
        have kj194 : G Z X 14 0 0 116 [(10, .int x180), (0, .ref (za Z v0)), (1, .ref (za Z v1)), (2, .ref (za Z v2)), (3, .ref (za Z v3)), (4, .ref (za Z v4)), (6, .ref (za Z v6)), (8, .int v8), (11, .int v11)] [.int x193, .int (((v11 / 4) * 6) + 1), .ref (za Z v6)] μ191 := by
          obtain ⟨c195, h⟩ := gd_inv h
          obtain ⟨μ196, eμ196, h⟩ := lt_inv h
          refine g_iast C k6 c195 eμ196 (dk kL_acts 72 rfl) ?_
          obtain ⟨x197, ex197, h⟩ := lt_inv h
          refine g_iinc C (i := 11) (v := x197) (lv' := [(11, .int x197), (10, .int x180), (0, .ref (za Z v0)), (1, .ref (za Z v1)), (2, .ref (za Z v2)), (3, .ref (za Z v3)), (4, .ref (za Z v4)), (6, .ref (za Z v6)), (8, .int v8)]) 8 (dk kL_acts 73 rfl) rfl (by rw [ex197]; rfl) (by decide) rfl ?_
          refine g_goto C (tgt := 31) (dk kL_acts 74 rfl) (by decide) ?_
          exact g_sub [2, 3, 4, 5, 6, 7, 8, 1, 0] rfl (ih μ196 x180 x197 y h he)
        clear h
        refine g_icmp_ge C (tgt := 115) (dk kL_acts 68 rfl) (by decide) (fun c198 => ?_) (fun c198 => ?_)
        · refine g_iconst C (v := 0) (by decide) (dk kL_acts 71 rfl) ?_
          exact g_nmi (by rw [ex193, if_pos c198]) kj194
        · refine g_iconst C (v := (-1)) (by decide) (dk kL_acts 69 rfl) ?_
          refine g_goto C (tgt := 116) (dk kL_acts 70 rfl) (by decide) ?_
          exact g_nmi (by rw [ex193, if_neg c198]) kj194
      clear h
      refine g_icmp_ge C (tgt := 87) (dk kL_acts 49 rfl) (by decide) (fun c199 => ?_) (fun c199 => ?_)
      · refine g_iconst C (v := 0) (by decide) (dk kL_acts 52 rfl) ?_
        exact g_nmi (by rw [ex188, if_pos c199]) kj189
      · refine g_iconst C (v := (-1)) (by decide) (dk kL_acts 50 rfl) ?_
        refine g_goto C (tgt := 88) (dk kL_acts 51 rfl) (by decide) ?_
        exact g_nmi (by rw [ex188, if_neg c199]) kj189
set_option maxRecDepth 100000 in
set_option maxHeartbeats 4000000 in
theorem t_L_acts {l : Launch} {Z : ZZ} {X : XX} (μ : Mm) (a0 : Nat) (a1 : Nat) (a2 : Nat) (a3 : Nat) (a4 : Nat) (a5 : Nat) (a6 : Nat) (a7 : Int32) (r : Int32) (μ' : Mm) (k0 : (zk Z a0).1 = 5) (k1 : (zk Z a1).1 = 8) (k2 : (zk Z a2).1 = 8) (k3 : (zk Z a3).1 = 8) (k4 : (zk Z a4).1 = 8) (k5 : (zk Z a5).1 = 8) (k6 : (zk Z a6).1 = 8) (h : f_L_acts (zk Z) μ a0 a1 a2 a3 a4 a5 a6 a7 = some (r, μ')) (C : Cx l Z false X cL_acts RL 14 (some .boolean)) (hl : l.stackTraces = false) (E : Ex Z X 10 101 2156 (some (.int r)) Z μ') : G Z X 14 0 0 0 [(0, .ref (za Z a0)), (1, .ref (za Z a1)), (2, .ref (za Z a2)), (3, .ref (za Z a3)), (4, .ref (za Z a4)), (5, .ref (za Z a5)), (6, .ref (za Z a6)), (7, .int a7)] [] μ := by
  unfold f_L_acts at h
  refine g_iload C (i := 7) 7 rfl (dk kL_acts 0 rfl) ?_
  refine g_iconst C (v := 5) (by decide) (dk kL_acts 1 rfl) ?_
  refine g_ishr C (dk kL_acts 2 rfl) ?_
  refine g_ldc C (v := 10000000) (C.w wd_1_211) (dk kL_acts 3 rfl) ?_
  obtain ⟨x2, eq1, h⟩ := bd_inv h
  refine g_callS C E.2 (rest := []) 2 (ct_L_low  eq1) wd_1_204 mm_L_low ⟨by decide, by decide, by decide⟩ rfl (by decide) rfl (Nat.le_of_ble_eq_true rfl) (by decide) (dk kL_acts 4 rfl) ?_
  refine g_istore C (i := 8) (lv' := [(8, .int x2), (0, .ref (za Z a0)), (1, .ref (za Z a1)), (2, .ref (za Z a2)), (3, .ref (za Z a3)), (4, .ref (za Z a4)), (5, .ref (za Z a5)), (6, .ref (za Z a6)), (7, .int a7)]) (dk kL_acts 5 rfl) (by decide) rfl ?_
  refine g_iload C (i := 7) 8 rfl (dk kL_acts 6 rfl) ?_
  refine g_bipush C (v := 26) (by decide) (dk kL_acts 7 rfl) ?_
  obtain ⟨x4, eq3, h⟩ := bd_inv h
  refine g_callS C E.2 (rest := []) 2 (ct_L_low  eq3) wd_1_204 mm_L_low ⟨by decide, by decide, by decide⟩ rfl (by decide) rfl (Nat.le_of_ble_eq_true rfl) (by decide) (dk kL_acts 8 rfl) ?_
  refine g_istore C (i := 9) (lv' := [(9, .int x4), (8, .int x2), (0, .ref (za Z a0)), (1, .ref (za Z a1)), (2, .ref (za Z a2)), (3, .ref (za Z a3)), (4, .ref (za Z a4)), (5, .ref (za Z a5)), (6, .ref (za Z a6)), (7, .int a7)]) (dk kL_acts 9 rfl) (by decide) rfl ?_
  refine g_iload C (i := 9) 0 rfl (dk kL_acts 10 rfl) ?_
  refine g_if_ne C (tgt := 151) (dk kL_acts 11 rfl) (by decide) (fun c5 => ?_) (fun c5 => ?_)
  · replace h := ite_f h c5
    refine g_iload C (i := 9) 0 rfl (dk kL_acts 94 rfl) ?_
    refine g_iconst C (v := 3) (by decide) (dk kL_acts 95 rfl) ?_
    refine g_icmp_ge C (tgt := 319) (dk kL_acts 96 rfl) (by decide) (fun c6 => ?_) (fun c6 => ?_)
    · replace h := ite_t h c6
      refine g_iload C (i := 9) 0 rfl (dk kL_acts 184 rfl) ?_
      refine g_bipush C (v := 6) (by decide) (dk kL_acts 185 rfl) ?_
      refine g_icmp_ge C (tgt := 471) (dk kL_acts 186 rfl) (by decide) (fun c7 => ?_) (fun c7 => ?_)
      · replace h := ite_t h c7
        refine g_iload C (i := 9) 0 rfl (dk kL_acts 273 rfl) ?_
        refine g_bipush C (v := 10) (by decide) (dk kL_acts 274 rfl) ?_
        refine g_icmp_ge C (tgt := 615) (dk kL_acts 275 rfl) (by decide) (fun c8 => ?_) (fun c8 => ?_)
        · replace h := ite_t h c8
          refine g_iload C (i := 9) 0 rfl (dk kL_acts 359 rfl) ?_
          refine g_bipush C (v := 10) (by decide) (dk kL_acts 360 rfl) ?_
          refine g_icmp_ne C (tgt := 693) (dk kL_acts 361 rfl) (by decide) (fun c9 => ?_) (fun c9 => ?_)
          · replace h := ite_f h c9
            refine g_iload C (i := 9) 0 rfl (dk kL_acts 405 rfl) ?_
            refine g_bipush C (v := 11) (by decide) (dk kL_acts 406 rfl) ?_
            refine g_icmp_ne C (tgt := 796) (dk kL_acts 407 rfl) (by decide) (fun c10 => ?_) (fun c10 => ?_)
            · replace h := ite_f h c10
              refine g_iload C (i := 9) 0 rfl (dk kL_acts 470 rfl) ?_
              refine g_bipush C (v := 14) (by decide) (dk kL_acts 471 rfl) ?_
              refine g_icmp_ge C (tgt := 894) (dk kL_acts 472 rfl) (by decide) (fun c11 => ?_) (fun c11 => ?_)
              · replace h := ite_t h c11
                refine g_iload C (i := 9) 0 rfl (dk kL_acts 527 rfl) ?_
                refine g_bipush C (v := 17) (by decide) (dk kL_acts 528 rfl) ?_
                refine g_icmp_ge C (tgt := 925) (dk kL_acts 529 rfl) (by decide) (fun c12 => ?_) (fun c12 => ?_)
                · replace h := ite_t h c12
                  refine g_aload_n C (i := 0) 2 rfl rfl (dk kL_acts 542 rfl) ?_
                  refine g_aload_n C (i := 1) 3 rfl rfl (dk kL_acts 543 rfl) ?_
                  refine g_aload_n C (i := 2) 4 rfl rfl (dk kL_acts 544 rfl) ?_
                  refine g_aload_n C (i := 3) 5 rfl rfl (dk kL_acts 545 rfl) ?_
                  refine g_aload C (i := 4) 6 rfl (dk kL_acts 546 rfl) ?_
                  refine g_aload C (i := 5) 7 rfl (dk kL_acts 547 rfl) ?_
                  refine g_aload C (i := 6) 8 rfl (dk kL_acts 548 rfl) ?_
                  refine g_iload C (i := 8) 1 rfl (dk kL_acts 549 rfl) ?_
                  refine g_iload C (i := 9) 0 rfl (dk kL_acts 550 rfl) ?_
                  refine g_bipush C (v := 22) (by decide) (dk kL_acts 551 rfl) ?_
                  obtain ⟨x13, ex13, h⟩ := lt_inv h
                  have kj14 : G Z X 14 0 0 949 [(9, .int x4), (8, .int x2), (0, .ref (za Z a0)), (1, .ref (za Z a1)), (2, .ref (za Z a2)), (3, .ref (za Z a3)), (4, .ref (za Z a4)), (5, .ref (za Z a5)), (6, .ref (za Z a6)), (7, .int a7)] [.int x13, .int x2, .ref (za Z a6), .ref (za Z a5), .ref (za Z a4), .ref (za Z a3), .ref (za Z a2), .ref (za Z a1), .ref (za Z a0)] μ := by
                    obtain ⟨q15, eq15, h⟩ := bd_inv h
                    obtain ⟨x17, ex17, h⟩ := lt_inv h
                    obtain ⟨μ16, eμ16, h⟩ := lt_inv h
                    rw [show q15 = (x17, μ16) from by rw [ex17, eμ16]] at eq15
                    refine g_callS C E.2 (rest := []) 9 (ct_L_sells k0 k1 k2 k3 k4 k5 k6 hl eq15) wd_3_72 mm_L_sells ⟨by decide, by decide, by decide⟩ rfl (by decide) rfl (Nat.le_of_ble_eq_true rfl) (by decide) (dk kL_acts 556 rfl) ?_
                    obtain ⟨c18, h⟩ := gd_inv h
                    obtain ⟨h8, h9⟩ := Prod.mk.inj (Option.some.inj h)
                    subst h8
                    subst h9
                    exact g_iret C E rfl (br0 _ c18) (by decide) (by decide) (dk kL_acts 557 rfl)
                  clear h
                  refine g_icmp_le C (tgt := 948) (dk kL_acts 552 rfl) (by decide) (fun c19 => ?_) (fun c19 => ?_)
                  · refine g_iconst C (v := 0) (by decide) (dk kL_acts 555 rfl) ?_
                    exact g_nmi (by rw [ex13, if_pos c19]) kj14
                  · refine g_iconst C (v := 1) (by decide) (dk kL_acts 553 rfl) ?_
                    refine g_goto C (tgt := 949) (dk kL_acts 554 rfl) (by decide) ?_
                    exact g_nmi (by rw [ex13, if_neg c19]) kj14
                · replace h := ite_f h c12
                  refine g_aload_n C (i := 0) 2 rfl rfl (dk kL_acts 530 rfl) ?_
                  refine g_aload_n C (i := 1) 3 rfl rfl (dk kL_acts 531 rfl) ?_
                  refine g_aload C (i := 6) 8 rfl (dk kL_acts 532 rfl) ?_
                  refine g_iload C (i := 8) 1 rfl (dk kL_acts 533 rfl) ?_
                  refine g_iload C (i := 9) 0 rfl (dk kL_acts 534 rfl) ?_
                  refine g_bipush C (v := 16) (by decide) (dk kL_acts 535 rfl) ?_
                  obtain ⟨x20, ex20, h⟩ := lt_inv h
                  have kj21 : G Z X 14 0 0 919 [(9, .int x4), (8, .int x2), (0, .ref (za Z a0)), (1, .ref (za Z a1)), (2, .ref (za Z a2)), (3, .ref (za Z a3)), (4, .ref (za Z a4)), (5, .ref (za Z a5)), (6, .ref (za Z a6)), (7, .int a7)] [.int x20, .int x2, .ref (za Z a6), .ref (za Z a1), .ref (za Z a0)] μ := by
                    obtain ⟨q22, eq22, h⟩ := bd_inv h
                    obtain ⟨x24, ex24, h⟩ := lt_inv h
                    obtain ⟨μ23, eμ23, h⟩ := lt_inv h
                    rw [show q22 = (x24, μ23) from by rw [ex24, eμ23]] at eq22
                    refine g_callS C E.2 (rest := []) 5 (ct_L_lets k0 k1 k6 hl eq22) wd_3_13 mm_L_lets ⟨by decide, by decide, by decide⟩ rfl (by decide) rfl (Nat.le_of_ble_eq_true rfl) (by decide) (dk kL_acts 540 rfl) ?_
                    refine g_goto C (tgt := 952) (dk kL_acts 541 rfl) (by decide) ?_
                    obtain ⟨c25, h⟩ := gd_inv h
                    obtain ⟨h8, h9⟩ := Prod.mk.inj (Option.some.inj h)
                    subst h8
                    subst h9
                    exact g_iret C E rfl (br0 _ c25) (by decide) (by decide) (dk kL_acts 557 rfl)
                  clear h
                  refine g_icmp_ne C (tgt := 918) (dk kL_acts 536 rfl) (by decide) (fun c26 => ?_) (fun c26 => ?_)
                  · refine g_iconst C (v := 0) (by decide) (dk kL_acts 539 rfl) ?_
                    exact g_nmi (by rw [ex20, if_neg c26]) kj21
                  · refine g_iconst C (v := 1) (by decide) (dk kL_acts 537 rfl) ?_
                    refine g_goto C (tgt := 919) (dk kL_acts 538 rfl) (by decide) ?_
                    exact g_nmi (by rw [ex20, if_pos c26]) kj21
              · replace h := ite_f h c11
                refine g_aload_n C (i := 1) 3 rfl rfl (dk kL_acts 473 rfl) ?_
                refine g_bipush C (v := 9) (by decide) (dk kL_acts 474 rfl) ?_
                obtain ⟨c27, h⟩ := gd_inv h
                refine g_iald C k1 c27 (dk kL_acts 475 rfl) ?_
                refine g_bipush C (v := 6) (by decide) (dk kL_acts 476 rfl) ?_
                refine g_icmp_ne C (tgt := 827) (dk kL_acts 477 rfl) (by decide) (fun c28 => ?_) (fun c28 => ?_)
                · replace h := ite_f h c28
                  refine g_iconst C (v := 0) (by decide) (dk kL_acts 486 rfl) ?_
                  refine g_istore C (i := 10) (lv' := [(10, .int 0), (9, .int x4), (8, .int x2), (0, .ref (za Z a0)), (1, .ref (za Z a1)), (2, .ref (za Z a2)), (3, .ref (za Z a3)), (4, .ref (za Z a4)), (5, .ref (za Z a5)), (6, .ref (za Z a6)), (7, .int a7)]) (dk kL_acts 487 rfl) (by decide) rfl ?_
                  obtain ⟨q37, eq37, h⟩ := bd_inv h
                  refine g_sub [3, 4, 9, 0] (lv' := [(0, .ref (za Z a0)), (1, .ref (za Z a1)), (6, .ref (za Z a6)), (10, .int 0)]) rfl ?_
                  refine gl_L_acts_830 a0 a1 a6 k0 k1 k6 C hl E.2 FU μ 0 _ eq37 ?_
                  obtain ⟨μ38, eμ38, h⟩ := lt_inv h
                  rw [← eμ38]
                  refine g_aload_n C (i := 1) 1 rfl rfl (dk kL_acts 508 rfl) ?_
                  refine g_bipush C (v := 9) (by decide) (dk kL_acts 509 rfl) ?_
                  refine g_dup2 C rfl rfl (dk kL_acts 510 rfl) ?_
                  obtain ⟨c39, h⟩ := gd_inv h
                  refine g_iald C k1 c39 (dk kL_acts 511 rfl) ?_
                  refine g_iconst C (v := 1) (by decide) (dk kL_acts 512 rfl) ?_
                  refine g_iadd C (dk kL_acts 513 rfl) ?_
                  obtain ⟨c40, h⟩ := gd_inv h
                  obtain ⟨μ41, eμ41, h⟩ := lt_inv h
                  refine g_iast C k1 c40 eμ41 (dk kL_acts 514 rfl) ?_
                  refine g_aload_n C (i := 0) 0 rfl rfl (dk kL_acts 515 rfl) ?_
                  obtain ⟨q42, eq42, h⟩ := bd_inv h
                  obtain ⟨x44, ex44, h⟩ := lt_inv h
                  obtain ⟨μ43, eμ43, h⟩ := lt_inv h
                  rw [show q42 = (x44, μ43) from by rw [ex44, eμ43]] at eq42
                  refine g_callSW C E.2 (rest := []) 1 (ct_L_customers k0 eq42) wd_2_238 mw_L_customers ⟨by decide, by decide, by decide⟩ rfl (by decide) rfl (Nat.le_of_ble_eq_true rfl) (by decide) (dk kL_acts 516 rfl) ?_
                  refine g_aload_n C (i := 1) 1 rfl rfl (dk kL_acts 517 rfl) ?_
                  refine g_bipush C (v := 9) (by decide) (dk kL_acts 518 rfl) ?_
                  obtain ⟨c45, h⟩ := gd_inv h
                  refine g_iald C k1 c45 (dk kL_acts 519 rfl) ?_
                  refine g_iconst C (v := 1) (by decide) (dk kL_acts 520 rfl) ?_
                  refine g_isub C (dk kL_acts 521 rfl) ?_
                  obtain ⟨c46, h⟩ := gd_inv h
                  refine g_icmp_ne C (tgt := 892) (dk kL_acts 522 rfl) (by decide) (fun q => absurd c46 q) (fun _ => ?_)
                  refine g_iconst C (v := 1) (by decide) (dk kL_acts 523 rfl) ?_
                  refine g_goto C (tgt := 893) (dk kL_acts 524 rfl) (by decide) ?_
                  obtain ⟨h8, h9⟩ := Prod.mk.inj (Option.some.inj h)
                  subst h8
                  subst h9
                  exact g_iret C E rfl rfl (by decide) (by decide) (dk kL_acts 526 rfl)
                · replace h := ite_t h c28
                  refine g_aload_n C (i := 0) 2 rfl rfl (dk kL_acts 478 rfl) ?_
                  obtain ⟨q47, eq47, h⟩ := bd_inv h
                  obtain ⟨c48, h⟩ := gd_inv h
                  obtain ⟨μ49, eμ49, h⟩ := lt_inv h
                  rw [show q47 = (3, μ49) from by rw [← c48, eμ49]] at eq47
                  refine g_callSW C E.2 (rest := []) 1 (ctx3_L_customers k0 hl eq47) wd_2_238 mw_L_customers ⟨by decide, by decide, by decide⟩ rfl (by decide) rfl (Nat.le_of_ble_eq_true rfl) (by decide) (dk kL_acts 479 rfl) ?_
                  refine g_ldc C (v := (-2000003)) (C.w wd_2_169) (dk kL_acts 480 rfl) ?_
                  refine g_icmp_ne C (tgt := 825) (dk kL_acts 481 rfl) (by decide) (fun c => absurd c (by decide)) (fun c50 => ?_)
                  refine g_iconst C (v := 1) (by decide) (dk kL_acts 482 rfl) ?_
                  refine g_goto C (tgt := 826) (dk kL_acts 483 rfl) (by decide) ?_
                  obtain ⟨h8, h9⟩ := Prod.mk.inj (Option.some.inj h)
                  subst h8
                  subst h9
                  exact g_iret C E rfl rfl (by decide) (by decide) (dk kL_acts 485 rfl)
            · replace h := ite_t h c10
              refine g_iconst C (v := 1) (by decide) (dk kL_acts 408 rfl) ?_
              refine g_iload C (i := 8) 1 rfl (dk kL_acts 409 rfl) ?_
              refine g_bipush C (v := 20) (by decide) (dk kL_acts 410 rfl) ?_
              refine g_irem C (by decide) (dk kL_acts 411 rfl) ?_
              refine g_iadd C (dk kL_acts 412 rfl) ?_
              obtain ⟨x51, ex51, h⟩ := lt_inv h
              refine g_nmi ex51 ?_
              refine g_istore C (i := 10) (lv' := [(10, .int x51), (9, .int x4), (8, .int x2), (0, .ref (za Z a0)), (1, .ref (za Z a1)), (2, .ref (za Z a2)), (3, .ref (za Z a3)), (4, .ref (za Z a4)), (5, .ref (za Z a5)), (6, .ref (za Z a6)), (7, .int a7)]) (dk kL_acts 413 rfl) (by decide) rfl ?_
              refine g_iconst C (v := 0) (by decide) (dk kL_acts 414 rfl) ?_
              refine g_istore C (i := 11) (lv' := [(11, .int 0), (10, .int x51), (9, .int x4), (8, .int x2), (0, .ref (za Z a0)), (1, .ref (za Z a1)), (2, .ref (za Z a2)), (3, .ref (za Z a3)), (4, .ref (za Z a4)), (5, .ref (za Z a5)), (6, .ref (za Z a6)), (7, .int a7)]) (dk kL_acts 415 rfl) (by decide) rfl ?_
              refine g_iconst C (v := 0) (by decide) (dk kL_acts 416 rfl) ?_
              refine g_istore C (i := 12) (lv' := [(12, .int 0), (11, .int 0), (10, .int x51), (9, .int x4), (8, .int x2), (0, .ref (za Z a0)), (1, .ref (za Z a1)), (2, .ref (za Z a2)), (3, .ref (za Z a3)), (4, .ref (za Z a4)), (5, .ref (za Z a5)), (6, .ref (za Z a6)), (7, .int a7)]) (dk kL_acts 417 rfl) (by decide) rfl ?_
              obtain ⟨q67, eq67, h⟩ := bd_inv h
              refine g_sub [5, 6, 7, 2, 1, 0] (lv' := [(0, .ref (za Z a0)), (1, .ref (za Z a1)), (2, .ref (za Z a2)), (10, .int x51), (11, .int 0), (12, .int 0)]) rfl ?_
              refine gl_L_acts_715 a0 a1 a2 x51 k0 k1 k2 C hl E.2 FU μ 0 0 _ eq67 ?_
              obtain ⟨x68, ex68, h⟩ := lt_inv h
              obtain ⟨μ69, eμ69, h⟩ := lt_inv h
              rw [← ex68, ← eμ69]
              refine g_aload_n C (i := 1) 1 rfl rfl (dk kL_acts 454 rfl) ?_
              refine g_bipush C (v := 13) (by decide) (dk kL_acts 455 rfl) ?_
              refine g_dup2 C rfl rfl (dk kL_acts 456 rfl) ?_
              obtain ⟨c70, h⟩ := gd_inv h
              refine g_iald C k1 c70 (dk kL_acts 457 rfl) ?_
              refine g_iload C (i := 10) 2 rfl (dk kL_acts 458 rfl) ?_
              refine g_iadd C (dk kL_acts 459 rfl) ?_
              obtain ⟨c71, h⟩ := gd_inv h
              obtain ⟨μ72, eμ72, h⟩ := lt_inv h
              refine g_iast C k1 c71 eμ72 (dk kL_acts 460 rfl) ?_
              refine g_aload_n C (i := 0) 0 rfl rfl (dk kL_acts 461 rfl) ?_
              refine g_iload C (i := 10) 2 rfl (dk kL_acts 462 rfl) ?_
              obtain ⟨q73, eq73, h⟩ := bd_inv h
              obtain ⟨x75, ex75, h⟩ := lt_inv h
              obtain ⟨μ74, eμ74, h⟩ := lt_inv h
              rw [show q73 = (x75, μ74) from by rw [ex75, eμ74]] at eq73
              refine g_callSW C E.2 (rest := []) 2 (ct_L_cools k0 eq73) wd_2_215 mw_L_cools ⟨by decide, by decide, by decide⟩ rfl (by decide) rfl (Nat.le_of_ble_eq_true rfl) (by decide) (dk kL_acts 463 rfl) ?_
              refine g_iload C (i := 11) 3 rfl (dk kL_acts 464 rfl) ?_
              obtain ⟨c76, h⟩ := gd_inv h
              refine g_icmp_ne C (tgt := 794) (dk kL_acts 465 rfl) (by decide) (fun q => absurd c76 q) (fun _ => ?_)
              refine g_iconst C (v := 1) (by decide) (dk kL_acts 466 rfl) ?_
              refine g_goto C (tgt := 795) (dk kL_acts 467 rfl) (by decide) ?_
              obtain ⟨h8, h9⟩ := Prod.mk.inj (Option.some.inj h)
              subst h8
              subst h9
              exact g_iret C E rfl rfl (by decide) (by decide) (dk kL_acts 469 rfl)
          · replace h := ite_t h c9
            refine g_iload C (i := 8) 1 rfl (dk kL_acts 362 rfl) ?_
            refine g_bipush C (v := 24) (by decide) (dk kL_acts 363 rfl) ?_
            refine g_irem C (by decide) (dk kL_acts 364 rfl) ?_
            obtain ⟨x77, ex77, h⟩ := lt_inv h
            refine g_nmi ex77 ?_
            refine g_istore C (i := 10) (lv' := [(10, .int x77), (9, .int x4), (8, .int x2), (0, .ref (za Z a0)), (1, .ref (za Z a1)), (2, .ref (za Z a2)), (3, .ref (za Z a3)), (4, .ref (za Z a4)), (5, .ref (za Z a5)), (6, .ref (za Z a6)), (7, .int a7)]) (dk kL_acts 365 rfl) (by decide) rfl ?_
            refine g_iload C (i := 10) 0 rfl (dk kL_acts 366 rfl) ?_
            refine g_aload_n C (i := 1) 4 rfl rfl (dk kL_acts 367 rfl) ?_
            refine g_iconst C (v := 0) (by decide) (dk kL_acts 368 rfl) ?_
            obtain ⟨c78, h⟩ := gd_inv h
            refine g_iald C k1 c78 (dk kL_acts 369 rfl) ?_
            refine g_icmp_lt C (tgt := 654) (dk kL_acts 370 rfl) (by decide) (fun c79 => ?_) (fun c79 => ?_)
            · replace h := ite_t h c79
              refine g_aload_n C (i := 3) 6 rfl rfl (dk kL_acts 380 rfl) ?_
              refine g_iload C (i := 10) 0 rfl (dk kL_acts 381 rfl) ?_
              obtain ⟨c80, h⟩ := gd_inv h
              refine g_iald C k3 c80 (dk kL_acts 382 rfl) ?_
              obtain ⟨x81, ex81, h⟩ := lt_inv h
              refine g_nmi ex81 ?_
              refine g_istore C (i := 11) (lv' := [(11, .int x81), (10, .int x77), (9, .int x4), (8, .int x2), (0, .ref (za Z a0)), (1, .ref (za Z a1)), (2, .ref (za Z a2)), (3, .ref (za Z a3)), (4, .ref (za Z a4)), (5, .ref (za Z a5)), (6, .ref (za Z a6)), (7, .int a7)]) (dk kL_acts 383 rfl) (by decide) rfl ?_
              refine g_aload_n C (i := 2) 6 rfl rfl (dk kL_acts 384 rfl) ?_
              refine g_iload C (i := 10) 1 rfl (dk kL_acts 385 rfl) ?_
              refine g_iconst C (v := 0) (by decide) (dk kL_acts 386 rfl) ?_
              obtain ⟨c82, h⟩ := gd_inv h
              obtain ⟨μ83, eμ83, h⟩ := lt_inv h
              refine g_iast C k2 c82 eμ83 (dk kL_acts 387 rfl) ?_
              refine g_aload_n C (i := 3) 7 rfl rfl (dk kL_acts 388 rfl) ?_
              refine g_iload C (i := 10) 1 rfl (dk kL_acts 389 rfl) ?_
              refine g_iconst C (v := 0) (by decide) (dk kL_acts 390 rfl) ?_
              obtain ⟨c84, h⟩ := gd_inv h
              obtain ⟨μ85, eμ85, h⟩ := lt_inv h
              refine g_iast C k3 c84 eμ85 (dk kL_acts 391 rfl) ?_
              refine g_aload C (i := 4) 8 rfl (dk kL_acts 392 rfl) ?_
              refine g_iload C (i := 10) 1 rfl (dk kL_acts 393 rfl) ?_
              refine g_iconst C (v := 0) (by decide) (dk kL_acts 394 rfl) ?_
              obtain ⟨c86, h⟩ := gd_inv h
              obtain ⟨μ87, eμ87, h⟩ := lt_inv h
              refine g_iast C k4 c86 eμ87 (dk kL_acts 395 rfl) ?_
              refine g_aload_n C (i := 0) 4 rfl rfl (dk kL_acts 396 rfl) ?_
              refine g_iload C (i := 10) 1 rfl (dk kL_acts 397 rfl) ?_
              obtain ⟨q88, eq88, h⟩ := bd_inv h
              obtain ⟨x90, ex90, h⟩ := lt_inv h
              obtain ⟨μ89, eμ89, h⟩ := lt_inv h
              rw [show q88 = (x90, μ89) from by rw [ex90, eμ89]] at eq88
              refine g_callSW C E.2 (rest := []) 2 (ct_L_renews k0 eq88) wd_2_195 mw_L_renews ⟨by decide, by decide, by decide⟩ rfl (by decide) rfl (Nat.le_of_ble_eq_true rfl) (by decide) (dk kL_acts 398 rfl) ?_
              refine g_iload C (i := 11) 0 rfl (dk kL_acts 399 rfl) ?_
              obtain ⟨c91, h⟩ := gd_inv h
              refine g_icmp_ne C (tgt := 691) (dk kL_acts 400 rfl) (by decide) (fun q => absurd c91 q) (fun _ => ?_)
              refine g_iconst C (v := 1) (by decide) (dk kL_acts 401 rfl) ?_
              refine g_goto C (tgt := 692) (dk kL_acts 402 rfl) (by decide) ?_
              obtain ⟨h8, h9⟩ := Prod.mk.inj (Option.some.inj h)
              subst h8
              subst h9
              exact g_iret C E rfl rfl (by decide) (by decide) (dk kL_acts 404 rfl)
            · replace h := ite_f h c79
              refine g_aload_n C (i := 0) 3 rfl rfl (dk kL_acts 371 rfl) ?_
              refine g_iload C (i := 10) 0 rfl (dk kL_acts 372 rfl) ?_
              obtain ⟨q92, eq92, h⟩ := bd_inv h
              obtain ⟨c93, h⟩ := gd_inv h
              obtain ⟨μ94, eμ94, h⟩ := lt_inv h
              rw [show q92 = (1, μ94) from by rw [← c93, eμ94]] at eq92
              refine g_callSW C E.2 (rest := []) 2 (ctx1_L_renews k0 hl eq92) wd_2_195 mw_L_renews ⟨by decide, by decide, by decide⟩ rfl (by decide) rfl (Nat.le_of_ble_eq_true rfl) (by decide) (dk kL_acts 373 rfl) ?_
              refine g_ldc C (v := (-2000001)) (C.w wd_2_194) (dk kL_acts 374 rfl) ?_
              refine g_icmp_ne C (tgt := 652) (dk kL_acts 375 rfl) (by decide) (fun c => absurd c (by decide)) (fun c95 => ?_)
              refine g_iconst C (v := 1) (by decide) (dk kL_acts 376 rfl) ?_
              refine g_goto C (tgt := 653) (dk kL_acts 377 rfl) (by decide) ?_
              obtain ⟨h8, h9⟩ := Prod.mk.inj (Option.some.inj h)
              subst h8
              subst h9
              exact g_iret C E rfl rfl (by decide) (by decide) (dk kL_acts 379 rfl)
        · replace h := ite_f h c8
          refine g_aload_n C (i := 1) 3 rfl rfl (dk kL_acts 276 rfl) ?_
          refine g_bipush C (v := 8) (by decide) (dk kL_acts 277 rfl) ?_
          obtain ⟨c96, h⟩ := gd_inv h
          refine g_iald C k1 c96 (dk kL_acts 278 rfl) ?_
          refine g_if_ne C (tgt := 504) (dk kL_acts 279 rfl) (by decide) (fun c97 => ?_) (fun c97 => ?_)
          · replace h := ite_f h c97
            refine g_iload C (i := 8) 1 rfl (dk kL_acts 291 rfl) ?_
            refine g_aload_n C (i := 1) 3 rfl rfl (dk kL_acts 292 rfl) ?_
            refine g_bipush C (v := 8) (by decide) (dk kL_acts 293 rfl) ?_
            obtain ⟨c98, h⟩ := gd_inv h
            refine g_iald C k1 c98 (dk kL_acts 294 rfl) ?_
            obtain ⟨c99, h⟩ := gd_inv h
            refine g_irem C c99 (dk kL_acts 295 rfl) ?_
            obtain ⟨x100, ex100, h⟩ := lt_inv h
            refine g_nmi ex100 ?_
            refine g_istore C (i := 10) (lv' := [(10, .int x100), (9, .int x4), (8, .int x2), (0, .ref (za Z a0)), (1, .ref (za Z a1)), (2, .ref (za Z a2)), (3, .ref (za Z a3)), (4, .ref (za Z a4)), (5, .ref (za Z a5)), (6, .ref (za Z a6)), (7, .int a7)]) (dk kL_acts 296 rfl) (by decide) rfl ?_
            refine g_iload C (i := 8) 2 rfl (dk kL_acts 297 rfl) ?_
            refine g_bipush C (v := 6) (by decide) (dk kL_acts 298 rfl) ?_
            refine g_idiv C (by decide) (dk kL_acts 299 rfl) ?_
            refine g_bipush C (v := 6) (by decide) (dk kL_acts 300 rfl) ?_
            refine g_irem C (by decide) (dk kL_acts 301 rfl) ?_
            obtain ⟨x101, ex101, h⟩ := lt_inv h
            refine g_nmi ex101 ?_
            refine g_istore C (i := 11) (lv' := [(11, .int x101), (10, .int x100), (9, .int x4), (8, .int x2), (0, .ref (za Z a0)), (1, .ref (za Z a1)), (2, .ref (za Z a2)), (3, .ref (za Z a3)), (4, .ref (za Z a4)), (5, .ref (za Z a5)), (6, .ref (za Z a6)), (7, .int a7)]) (dk kL_acts 302 rfl) (by decide) rfl ?_
            refine g_iload C (i := 8) 3 rfl (dk kL_acts 303 rfl) ?_
            refine g_bipush C (v := 36) (by decide) (dk kL_acts 304 rfl) ?_
            refine g_idiv C (by decide) (dk kL_acts 305 rfl) ?_
            refine g_iconst C (v := 1) (by decide) (dk kL_acts 306 rfl) ?_
            refine g_aload C (i := 5) 9 rfl (dk kL_acts 307 rfl) ?_
            refine g_bipush C (v := 10) (by decide) (dk kL_acts 308 rfl) ?_
            refine g_iload C (i := 10) 1 rfl (dk kL_acts 309 rfl) ?_
            refine g_imul C (dk kL_acts 310 rfl) ?_
            obtain ⟨c102, h⟩ := gd_inv h
            refine g_iald C k5 c102 (dk kL_acts 311 rfl) ?_
            refine g_ishl C (dk kL_acts 312 rfl) ?_
            obtain ⟨c103, h⟩ := gd_inv h
            refine g_irem C c103 (dk kL_acts 313 rfl) ?_
            obtain ⟨x104, ex104, h⟩ := lt_inv h
            refine g_nmi ex104 ?_
            refine g_istore C (i := 12) (lv' := [(12, .int x104), (11, .int x101), (10, .int x100), (9, .int x4), (8, .int x2), (0, .ref (za Z a0)), (1, .ref (za Z a1)), (2, .ref (za Z a2)), (3, .ref (za Z a3)), (4, .ref (za Z a4)), (5, .ref (za Z a5)), (6, .ref (za Z a6)), (7, .int a7)]) (dk kL_acts 314 rfl) (by decide) rfl ?_
            refine g_aload C (i := 5) 10 rfl (dk kL_acts 315 rfl) ?_
            refine g_bipush C (v := 10) (by decide) (dk kL_acts 316 rfl) ?_
            refine g_iload C (i := 10) 2 rfl (dk kL_acts 317 rfl) ?_
            refine g_imul C (dk kL_acts 318 rfl) ?_
            refine g_iconst C (v := 2) (by decide) (dk kL_acts 319 rfl) ?_
            refine g_iadd C (dk kL_acts 320 rfl) ?_
            refine g_iload C (i := 11) 1 rfl (dk kL_acts 321 rfl) ?_
            refine g_iadd C (dk kL_acts 322 rfl) ?_
            obtain ⟨c105, h⟩ := gd_inv h
            refine g_iald C k5 c105 (dk kL_acts 323 rfl) ?_
            obtain ⟨x106, ex106, h⟩ := lt_inv h
            refine g_nmi ex106 ?_
            refine g_istore C (i := 13) (lv' := [(13, .int x106), (12, .int x104), (11, .int x101), (10, .int x100), (9, .int x4), (8, .int x2), (0, .ref (za Z a0)), (1, .ref (za Z a1)), (2, .ref (za Z a2)), (3, .ref (za Z a3)), (4, .ref (za Z a4)), (5, .ref (za Z a5)), (6, .ref (za Z a6)), (7, .int a7)]) (dk kL_acts 324 rfl) (by decide) rfl ?_
            refine g_aload C (i := 5) 11 rfl (dk kL_acts 325 rfl) ?_
            refine g_bipush C (v := 10) (by decide) (dk kL_acts 326 rfl) ?_
            refine g_iload C (i := 10) 3 rfl (dk kL_acts 327 rfl) ?_
            refine g_imul C (dk kL_acts 328 rfl) ?_
            refine g_iconst C (v := 2) (by decide) (dk kL_acts 329 rfl) ?_
            refine g_iadd C (dk kL_acts 330 rfl) ?_
            refine g_iload C (i := 11) 2 rfl (dk kL_acts 331 rfl) ?_
            refine g_iadd C (dk kL_acts 332 rfl) ?_
            refine g_iload C (i := 12) 1 rfl (dk kL_acts 333 rfl) ?_
            obtain ⟨c107, h⟩ := gd_inv h
            obtain ⟨μ108, eμ108, h⟩ := lt_inv h
            refine g_iast C k5 c107 eμ108 (dk kL_acts 334 rfl) ?_
            refine g_aload_n C (i := 0) 6 rfl rfl (dk kL_acts 335 rfl) ?_
            refine g_iload C (i := 10) 3 rfl (dk kL_acts 336 rfl) ?_
            refine g_iload C (i := 11) 2 rfl (dk kL_acts 337 rfl) ?_
            refine g_iload C (i := 12) 1 rfl (dk kL_acts 338 rfl) ?_
            obtain ⟨q109, eq109, h⟩ := bd_inv h
            obtain ⟨x111, ex111, h⟩ := lt_inv h
            obtain ⟨μ110, eμ110, h⟩ := lt_inv h
            rw [show q109 = (x111, μ110) from by rw [ex111, eμ110]] at eq109
            refine g_callSW C E.2 (rest := []) 4 (ct_L_rows k0 eq109) wd_2_170 mw_L_rows ⟨by decide, by decide, by decide⟩ rfl (by decide) rfl (Nat.le_of_ble_eq_true rfl) (by decide) (dk kL_acts 339 rfl) ?_
            refine g_iload C (i := 13) 0 rfl (dk kL_acts 340 rfl) ?_
            obtain ⟨c112, h⟩ := gd_inv h
            refine g_icmp_ne C (tgt := 613) (dk kL_acts 341 rfl) (by decide) (fun q => absurd c112 q) (fun _ => ?_)
            refine g_aload_n C (i := 0) 6 rfl rfl (dk kL_acts 342 rfl) ?_
            refine g_iload C (i := 10) 3 rfl (dk kL_acts 343 rfl) ?_
            refine g_iload C (i := 11) 2 rfl (dk kL_acts 344 rfl) ?_
            refine g_iconst C (v := 1) (by decide) (dk kL_acts 345 rfl) ?_
            refine g_aload C (i := 5) 11 rfl (dk kL_acts 346 rfl) ?_
            refine g_bipush C (v := 10) (by decide) (dk kL_acts 347 rfl) ?_
            refine g_iload C (i := 10) 3 rfl (dk kL_acts 348 rfl) ?_
            refine g_imul C (dk kL_acts 349 rfl) ?_
            obtain ⟨c113, h⟩ := gd_inv h
            refine g_iald C k5 c113 (dk kL_acts 350 rfl) ?_
            refine g_ishl C (dk kL_acts 351 rfl) ?_
            obtain ⟨q114, eq114, h⟩ := bd_inv h
            obtain ⟨c115, h⟩ := gd_inv h
            obtain ⟨μ116, eμ116, h⟩ := lt_inv h
            rw [show q114 = (2, μ116) from by rw [← c115, eμ116]] at eq114
            refine g_callSW C E.2 (rest := []) 4 (ctx2_L_rows k0 hl eq114) wd_2_170 mw_L_rows ⟨by decide, by decide, by decide⟩ rfl (by decide) rfl (Nat.le_of_ble_eq_true rfl) (by decide) (dk kL_acts 352 rfl) ?_
            refine g_ldc C (v := (-2000002)) (C.w wd_2_133) (dk kL_acts 353 rfl) ?_
            refine g_icmp_ne C (tgt := 613) (dk kL_acts 354 rfl) (by decide) (fun c => absurd c (by decide)) (fun c117 => ?_)
            refine g_iconst C (v := 1) (by decide) (dk kL_acts 355 rfl) ?_
            refine g_goto C (tgt := 614) (dk kL_acts 356 rfl) (by decide) ?_
            obtain ⟨h8, h9⟩ := Prod.mk.inj (Option.some.inj h)
            subst h8
            subst h9
            exact g_iret C E rfl rfl (by decide) (by decide) (dk kL_acts 358 rfl)
          · replace h := ite_t h c97
            refine g_aload_n C (i := 0) 2 rfl rfl (dk kL_acts 280 rfl) ?_
            refine g_iconst C (v := 0) (by decide) (dk kL_acts 281 rfl) ?_
            refine g_bipush C (v := 6) (by decide) (dk kL_acts 282 rfl) ?_
            refine g_iconst C (v := 0) (by decide) (dk kL_acts 283 rfl) ?_
            obtain ⟨q118, eq118, h⟩ := bd_inv h
            obtain ⟨c119, h⟩ := gd_inv h
            obtain ⟨μ120, eμ120, h⟩ := lt_inv h
            rw [show q118 = (1, μ120) from by rw [← c119, eμ120]] at eq118
            refine g_callSW C E.2 (rest := []) 4 (ctx1_L_rows k0 hl eq118) wd_2_170 mw_L_rows ⟨by decide, by decide, by decide⟩ rfl (by decide) rfl (Nat.le_of_ble_eq_true rfl) (by decide) (dk kL_acts 284 rfl) ?_
            refine g_ldc C (v := (-2000001)) (C.w wd_2_194) (dk kL_acts 285 rfl) ?_
            refine g_icmp_ne C (tgt := 502) (dk kL_acts 286 rfl) (by decide) (fun c => absurd c (by decide)) (fun c121 => ?_)
            refine g_iconst C (v := 1) (by decide) (dk kL_acts 287 rfl) ?_
            refine g_goto C (tgt := 503) (dk kL_acts 288 rfl) (by decide) ?_
            obtain ⟨h8, h9⟩ := Prod.mk.inj (Option.some.inj h)
            subst h8
            subst h9
            exact g_iret C E rfl rfl (by decide) (by decide) (dk kL_acts 290 rfl)
      · replace h := ite_f h c7
        refine g_aload_n C (i := 1) 3 rfl rfl (dk kL_acts 187 rfl) ?_
        refine g_bipush C (v := 8) (by decide) (dk kL_acts 188 rfl) ?_
        obtain ⟨c122, h⟩ := gd_inv h
        refine g_iald C k1 c122 (dk kL_acts 189 rfl) ?_
        refine g_bipush C (v := 6) (by decide) (dk kL_acts 190 rfl) ?_
        refine g_icmp_ne C (tgt := 364) (dk kL_acts 191 rfl) (by decide) (fun c123 => ?_) (fun c123 => ?_)
        · replace h := ite_f h c123
          refine g_bipush C (v := 10) (by decide) (dk kL_acts 208 rfl) ?_
          refine g_aload_n C (i := 1) 3 rfl rfl (dk kL_acts 209 rfl) ?_
          refine g_bipush C (v := 8) (by decide) (dk kL_acts 210 rfl) ?_
          obtain ⟨c124, h⟩ := gd_inv h
          refine g_iald C k1 c124 (dk kL_acts 211 rfl) ?_
          refine g_imul C (dk kL_acts 212 rfl) ?_
          obtain ⟨x125, ex125, h⟩ := lt_inv h
          refine g_nmi ex125 ?_
          refine g_istore C (i := 10) (lv' := [(10, .int x125), (9, .int x4), (8, .int x2), (0, .ref (za Z a0)), (1, .ref (za Z a1)), (2, .ref (za Z a2)), (3, .ref (za Z a3)), (4, .ref (za Z a4)), (5, .ref (za Z a5)), (6, .ref (za Z a6)), (7, .int a7)]) (dk kL_acts 213 rfl) (by decide) rfl ?_
          refine g_iconst C (v := 0) (by decide) (dk kL_acts 214 rfl) ?_
          refine g_istore C (i := 11) (lv' := [(11, .int 0), (10, .int x125), (9, .int x4), (8, .int x2), (0, .ref (za Z a0)), (1, .ref (za Z a1)), (2, .ref (za Z a2)), (3, .ref (za Z a3)), (4, .ref (za Z a4)), (5, .ref (za Z a5)), (6, .ref (za Z a6)), (7, .int a7)]) (dk kL_acts 215 rfl) (by decide) rfl ?_
          obtain ⟨q134, eq134, h⟩ := bd_inv h
          refine g_sub [4, 5, 9, 3, 1, 0] (lv' := [(0, .ref (za Z a0)), (1, .ref (za Z a1)), (5, .ref (za Z a5)), (8, .int x2), (10, .int x125), (11, .int 0)]) rfl ?_
          refine gl_L_acts_376 a0 a1 a5 x2 x125 k0 k1 k5 C hl E.2 FU μ 0 _ eq134 ?_
          obtain ⟨μ135, eμ135, h⟩ := lt_inv h
          rw [← eμ135]
          refine g_aload_n C (i := 1) 1 rfl rfl (dk kL_acts 246 rfl) ?_
          refine g_bipush C (v := 8) (by decide) (dk kL_acts 247 rfl) ?_
          refine g_dup2 C rfl rfl (dk kL_acts 248 rfl) ?_
          obtain ⟨c136, h⟩ := gd_inv h
          refine g_iald C k1 c136 (dk kL_acts 249 rfl) ?_
          refine g_iconst C (v := 1) (by decide) (dk kL_acts 250 rfl) ?_
          refine g_iadd C (dk kL_acts 251 rfl) ?_
          obtain ⟨c137, h⟩ := gd_inv h
          obtain ⟨μ138, eμ138, h⟩ := lt_inv h
          refine g_iast C k1 c137 eμ138 (dk kL_acts 252 rfl) ?_
          refine g_aload_n C (i := 0) 0 rfl rfl (dk kL_acts 253 rfl) ?_
          refine g_aload C (i := 5) 2 rfl (dk kL_acts 254 rfl) ?_
          refine g_iload C (i := 10) 3 rfl (dk kL_acts 255 rfl) ?_
          obtain ⟨c139, h⟩ := gd_inv h
          refine g_iald C k5 c139 (dk kL_acts 256 rfl) ?_
          refine g_aload C (i := 5) 2 rfl (dk kL_acts 257 rfl) ?_
          refine g_iload C (i := 10) 3 rfl (dk kL_acts 258 rfl) ?_
          refine g_iconst C (v := 1) (by decide) (dk kL_acts 259 rfl) ?_
          refine g_iadd C (dk kL_acts 260 rfl) ?_
          obtain ⟨c140, h⟩ := gd_inv h
          refine g_iald C k5 c140 (dk kL_acts 261 rfl) ?_
          obtain ⟨q141, eq141, h⟩ := bd_inv h
          obtain ⟨x143, ex143, h⟩ := lt_inv h
          obtain ⟨μ142, eμ142, h⟩ := lt_inv h
          rw [show q141 = (x143, μ142) from by rw [ex143, eμ142]] at eq141
          refine g_callSW C E.2 (rest := []) 3 (ct_L_labels k0 eq141) wd_2_153 mw_L_labels ⟨by decide, by decide, by decide⟩ rfl (by decide) rfl (Nat.le_of_ble_eq_true rfl) (by decide) (dk kL_acts 262 rfl) ?_
          refine g_aload_n C (i := 1) 1 rfl rfl (dk kL_acts 263 rfl) ?_
          refine g_bipush C (v := 8) (by decide) (dk kL_acts 264 rfl) ?_
          obtain ⟨c144, h⟩ := gd_inv h
          refine g_iald C k1 c144 (dk kL_acts 265 rfl) ?_
          refine g_iconst C (v := 1) (by decide) (dk kL_acts 266 rfl) ?_
          refine g_isub C (dk kL_acts 267 rfl) ?_
          obtain ⟨c145, h⟩ := gd_inv h
          refine g_icmp_ne C (tgt := 469) (dk kL_acts 268 rfl) (by decide) (fun q => absurd c145 q) (fun _ => ?_)
          refine g_iconst C (v := 1) (by decide) (dk kL_acts 269 rfl) ?_
          refine g_goto C (tgt := 470) (dk kL_acts 270 rfl) (by decide) ?_
          obtain ⟨h8, h9⟩ := Prod.mk.inj (Option.some.inj h)
          subst h8
          subst h9
          exact g_iret C E rfl rfl (by decide) (by decide) (dk kL_acts 272 rfl)
        · replace h := ite_t h c123
          refine g_aload_n C (i := 0) 2 rfl rfl (dk kL_acts 192 rfl) ?_
          refine g_iconst C (v := 1) (by decide) (dk kL_acts 193 rfl) ?_
          refine g_iconst C (v := 1) (by decide) (dk kL_acts 194 rfl) ?_
          obtain ⟨q146, eq146, h⟩ := bd_inv h
          obtain ⟨c147, h⟩ := gd_inv h
          obtain ⟨μ148, eμ148, h⟩ := lt_inv h
          rw [show q146 = (3, μ148) from by rw [← c147, eμ148]] at eq146
          refine g_callSW C E.2 (rest := []) 3 (ctx3_L_labels k0 hl eq146) wd_2_153 mw_L_labels ⟨by decide, by decide, by decide⟩ rfl (by decide) rfl (Nat.le_of_ble_eq_true rfl) (by decide) (dk kL_acts 195 rfl) ?_
          refine g_ldc C (v := (-2000003)) (C.w wd_2_169) (dk kL_acts 196 rfl) ?_
          refine g_icmp_ne C (tgt := 362) (dk kL_acts 197 rfl) (by decide) (fun c => absurd c (by decide)) (fun c149 => ?_)
          refine g_aload_n C (i := 0) 2 rfl rfl (dk kL_acts 198 rfl) ?_
          refine g_bipush C (v := 13) (by decide) (dk kL_acts 199 rfl) ?_
          refine g_iconst C (v := 1) (by decide) (dk kL_acts 200 rfl) ?_
          obtain ⟨q150, eq150, h⟩ := bd_inv h
          obtain ⟨c151, h⟩ := gd_inv h
          obtain ⟨μ152, eμ152, h⟩ := lt_inv h
          rw [show q150 = (2, μ152) from by rw [← c151, eμ152]] at eq150
          refine g_callSW C E.2 (rest := []) 3 (ctx2_L_labels k0 hl eq150) wd_2_153 mw_L_labels ⟨by decide, by decide, by decide⟩ rfl (by decide) rfl (Nat.le_of_ble_eq_true rfl) (by decide) (dk kL_acts 201 rfl) ?_
          refine g_ldc C (v := (-2000002)) (C.w wd_2_133) (dk kL_acts 202 rfl) ?_
          refine g_icmp_ne C (tgt := 362) (dk kL_acts 203 rfl) (by decide) (fun c => absurd c (by decide)) (fun c153 => ?_)
          refine g_iconst C (v := 1) (by decide) (dk kL_acts 204 rfl) ?_
          refine g_goto C (tgt := 363) (dk kL_acts 205 rfl) (by decide) ?_
          obtain ⟨h8, h9⟩ := Prod.mk.inj (Option.some.inj h)
          subst h8
          subst h9
          exact g_iret C E rfl rfl (by decide) (by decide) (dk kL_acts 207 rfl)
    · replace h := ite_f h c6
      refine g_iload C (i := 8) 1 rfl (dk kL_acts 97 rfl) ?_
      refine g_bipush C (v := 7) (by decide) (dk kL_acts 98 rfl) ?_
      refine g_irem C (by decide) (dk kL_acts 99 rfl) ?_
      obtain ⟨x154, ex154, h⟩ := lt_inv h
      refine g_nmi ex154 ?_
      refine g_istore C (i := 10) (lv' := [(10, .int x154), (9, .int x4), (8, .int x2), (0, .ref (za Z a0)), (1, .ref (za Z a1)), (2, .ref (za Z a2)), (3, .ref (za Z a3)), (4, .ref (za Z a4)), (5, .ref (za Z a5)), (6, .ref (za Z a6)), (7, .int a7)]) (dk kL_acts 100 rfl) (by decide) rfl ?_
      refine g_iload C (i := 10) 0 rfl (dk kL_acts 101 rfl) ?_
      refine g_iconst C (v := 1) (by decide) (dk kL_acts 102 rfl) ?_
      obtain ⟨x155, ex155, h⟩ := lt_inv h
      have kj156 : G Z X 14 0 0 193 [(10, .int x154), (9, .int x4), (8, .int x2), (0, .ref (za Z a0)), (1, .ref (za Z a1)), (2, .ref (za Z a2)), (3, .ref (za Z a3)), (4, .ref (za Z a4)), (5, .ref (za Z a5)), (6, .ref (za Z a6)), (7, .int a7)] [.int x155] μ := by
        refine g_istore C (i := 11) (lv' := [(11, .int x155), (10, .int x154), (9, .int x4), (8, .int x2), (0, .ref (za Z a0)), (1, .ref (za Z a1)), (2, .ref (za Z a2)), (3, .ref (za Z a3)), (4, .ref (za Z a4)), (5, .ref (za Z a5)), (6, .ref (za Z a6)), (7, .int a7)]) (dk kL_acts 115 rfl) (by decide) rfl ?_
        refine g_iload C (i := 10) 1 rfl (dk kL_acts 116 rfl) ?_
        obtain ⟨x157, ex157, h⟩ := lt_inv h
        have kj158 : G Z X 14 0 0 264 [(11, .int x155), (10, .int x154), (9, .int x4), (8, .int x2), (0, .ref (za Z a0)), (1, .ref (za Z a1)), (2, .ref (za Z a2)), (3, .ref (za Z a3)), (4, .ref (za Z a4)), (5, .ref (za Z a5)), (6, .ref (za Z a6)), (7, .int a7)] [.int x157] μ := by
          refine g_istore C (i := 12) (lv' := [(12, .int x157), (11, .int x155), (10, .int x154), (9, .int x4), (8, .int x2), (0, .ref (za Z a0)), (1, .ref (za Z a1)), (2, .ref (za Z a2)), (3, .ref (za Z a3)), (4, .ref (za Z a4)), (5, .ref (za Z a5)), (6, .ref (za Z a6)), (7, .int a7)]) (dk kL_acts 147 rfl) (by decide) rfl ?_
          refine g_aload_n C (i := 1) 6 rfl rfl (dk kL_acts 148 rfl) ?_
          refine g_iconst C (v := 1) (by decide) (dk kL_acts 149 rfl) ?_
          refine g_iload C (i := 10) 2 rfl (dk kL_acts 150 rfl) ?_
          refine g_iadd C (dk kL_acts 151 rfl) ?_
          obtain ⟨c159, h⟩ := gd_inv h
          refine g_iald C k1 c159 (dk kL_acts 152 rfl) ?_
          obtain ⟨x160, ex160, h⟩ := lt_inv h
          refine g_nmi ex160 ?_
          refine g_istore C (i := 13) (lv' := [(13, .int x160), (12, .int x157), (11, .int x155), (10, .int x154), (9, .int x4), (8, .int x2), (0, .ref (za Z a0)), (1, .ref (za Z a1)), (2, .ref (za Z a2)), (3, .ref (za Z a3)), (4, .ref (za Z a4)), (5, .ref (za Z a5)), (6, .ref (za Z a6)), (7, .int a7)]) (dk kL_acts 153 rfl) (by decide) rfl ?_
          refine g_aload_n C (i := 1) 7 rfl rfl (dk kL_acts 154 rfl) ?_
          refine g_iconst C (v := 1) (by decide) (dk kL_acts 155 rfl) ?_
          refine g_iload C (i := 10) 3 rfl (dk kL_acts 156 rfl) ?_
          refine g_iadd C (dk kL_acts 157 rfl) ?_
          refine g_iload C (i := 11) 2 rfl (dk kL_acts 158 rfl) ?_
          refine g_iload C (i := 8) 5 rfl (dk kL_acts 159 rfl) ?_
          refine g_bipush C (v := 7) (by decide) (dk kL_acts 160 rfl) ?_
          refine g_idiv C (by decide) (dk kL_acts 161 rfl) ?_
          refine g_iload C (i := 12) 1 rfl (dk kL_acts 162 rfl) ?_
          refine g_iload C (i := 11) 2 rfl (dk kL_acts 163 rfl) ?_
          refine g_isub C (dk kL_acts 164 rfl) ?_
          refine g_iconst C (v := 1) (by decide) (dk kL_acts 165 rfl) ?_
          refine g_iadd C (dk kL_acts 166 rfl) ?_
          obtain ⟨c161, h⟩ := gd_inv h
          refine g_irem C c161 (dk kL_acts 167 rfl) ?_
          refine g_iadd C (dk kL_acts 168 rfl) ?_
          obtain ⟨c162, h⟩ := gd_inv h
          obtain ⟨μ163, eμ163, h⟩ := lt_inv h
          refine g_iast C k1 c162 eμ163 (dk kL_acts 169 rfl) ?_
          refine g_aload_n C (i := 0) 6 rfl rfl (dk kL_acts 170 rfl) ?_
          refine g_iload C (i := 10) 3 rfl (dk kL_acts 171 rfl) ?_
          refine g_aload_n C (i := 1) 7 rfl rfl (dk kL_acts 172 rfl) ?_
          refine g_iconst C (v := 1) (by decide) (dk kL_acts 173 rfl) ?_
          refine g_iload C (i := 10) 3 rfl (dk kL_acts 174 rfl) ?_
          refine g_iadd C (dk kL_acts 175 rfl) ?_
          obtain ⟨c164, h⟩ := gd_inv h
          refine g_iald C k1 c164 (dk kL_acts 176 rfl) ?_
          obtain ⟨q165, eq165, h⟩ := bd_inv h
          obtain ⟨x167, ex167, h⟩ := lt_inv h
          obtain ⟨μ166, eμ166, h⟩ := lt_inv h
          rw [show q165 = (x167, μ166) from by rw [ex167, eμ166]] at eq165
          refine g_callSW C E.2 (rest := []) 3 (ct_L_sets k0 eq165) wd_2_134 mw_L_sets ⟨by decide, by decide, by decide⟩ rfl (by decide) rfl (Nat.le_of_ble_eq_true rfl) (by decide) (dk kL_acts 177 rfl) ?_
          refine g_iload C (i := 13) 0 rfl (dk kL_acts 178 rfl) ?_
          obtain ⟨c168, h⟩ := gd_inv h
          refine g_icmp_ne C (tgt := 317) (dk kL_acts 179 rfl) (by decide) (fun q => absurd c168 q) (fun _ => ?_)
          refine g_iconst C (v := 1) (by decide) (dk kL_acts 180 rfl) ?_
          refine g_goto C (tgt := 318) (dk kL_acts 181 rfl) (by decide) ?_
          obtain ⟨h8, h9⟩ := Prod.mk.inj (Option.some.inj h)
          subst h8
          subst h9
          exact g_iret C E rfl rfl (by decide) (by decide) (dk kL_acts 183 rfl)
        clear h
        refine g_if_ne C (tgt := 205) (dk kL_acts 117 rfl) (by decide) (fun c169 => ?_) (fun c169 => ?_)
        · refine g_iload C (i := 10) 1 rfl (dk kL_acts 120 rfl) ?_
          refine g_iconst C (v := 1) (by decide) (dk kL_acts 121 rfl) ?_
          refine g_icmp_ne C (tgt := 216) (dk kL_acts 122 rfl) (by decide) (fun c170 => ?_) (fun c170 => ?_)
          · refine g_iload C (i := 10) 1 rfl (dk kL_acts 125 rfl) ?_
            refine g_iconst C (v := 2) (by decide) (dk kL_acts 126 rfl) ?_
            refine g_icmp_ne C (tgt := 240) (dk kL_acts 127 rfl) (by decide) (fun c171 => ?_) (fun c171 => ?_)
            · refine g_iload C (i := 10) 1 rfl (dk kL_acts 136 rfl) ?_
              refine g_iconst C (v := 4) (by decide) (dk kL_acts 137 rfl) ?_
              refine g_icmp_ne C (tgt := 251) (dk kL_acts 138 rfl) (by decide) (fun c172 => ?_) (fun c172 => ?_)
              · refine g_iload C (i := 10) 1 rfl (dk kL_acts 141 rfl) ?_
                refine g_iconst C (v := 5) (by decide) (dk kL_acts 142 rfl) ?_
                refine g_icmp_ne C (tgt := 262) (dk kL_acts 143 rfl) (by decide) (fun c173 => ?_) (fun c173 => ?_)
                · refine g_bipush C (v := 100) (by decide) (dk kL_acts 146 rfl) ?_
                  exact g_nmi (by rw [ex157, if_neg c169, if_neg c170, if_neg c171, if_neg c172, if_neg c173]) kj158
                · refine g_bipush C (v := 20) (by decide) (dk kL_acts 144 rfl) ?_
                  refine g_goto C (tgt := 264) (dk kL_acts 145 rfl) (by decide) ?_
                  exact g_nmi (by rw [ex157, if_neg c169, if_neg c170, if_neg c171, if_neg c172, if_pos c173]) kj158
              · refine g_bipush C (v := 8) (by decide) (dk kL_acts 139 rfl) ?_
                refine g_goto C (tgt := 264) (dk kL_acts 140 rfl) (by decide) ?_
                exact g_nmi (by rw [ex157, if_neg c169, if_neg c170, if_neg c171, if_pos c172]) kj158
            · refine g_iload C (i := 8) 3 rfl (dk kL_acts 128 rfl) ?_
              refine g_iconst C (v := 2) (by decide) (dk kL_acts 129 rfl) ?_
              refine g_irem C (by decide) (dk kL_acts 130 rfl) ?_
              refine g_if_ne C (tgt := 235) (dk kL_acts 131 rfl) (by decide) (fun c174 => ?_) (fun c174 => ?_)
              · refine g_bipush C (v := 30) (by decide) (dk kL_acts 134 rfl) ?_
                refine g_goto C (tgt := 264) (dk kL_acts 135 rfl) (by decide) ?_
                exact g_nmi (by rw [ex157, if_neg c169, if_neg c170, if_pos c171, if_neg c174]) kj158
              · refine g_sipush C (v := 9999) (by decide) (dk kL_acts 132 rfl) ?_
                refine g_goto C (tgt := 264) (dk kL_acts 133 rfl) (by decide) ?_
                exact g_nmi (by rw [ex157, if_neg c169, if_neg c170, if_pos c171, if_pos c174]) kj158
          · refine g_bipush C (v := 90) (by decide) (dk kL_acts 123 rfl) ?_
            refine g_goto C (tgt := 264) (dk kL_acts 124 rfl) (by decide) ?_
            exact g_nmi (by rw [ex157, if_neg c169, if_pos c170]) kj158
        · refine g_bipush C (v := 30) (by decide) (dk kL_acts 118 rfl) ?_
          refine g_goto C (tgt := 264) (dk kL_acts 119 rfl) (by decide) ?_
          exact g_nmi (by rw [ex157, if_pos c169]) kj158
      clear h
      refine g_icmp_ne C (tgt := 175) (dk kL_acts 103 rfl) (by decide) (fun c175 => ?_) (fun c175 => ?_)
      · refine g_iload C (i := 10) 0 rfl (dk kL_acts 106 rfl) ?_
        refine g_iconst C (v := 3) (by decide) (dk kL_acts 107 rfl) ?_
        refine g_icmp_eq C (tgt := 188) (dk kL_acts 108 rfl) (by decide) (fun c176 => ?_) (fun c176 => ?_)
        · refine g_iconst C (v := 1) (by decide) (dk kL_acts 112 rfl) ?_
          refine g_goto C (tgt := 193) (dk kL_acts 113 rfl) (by decide) ?_
          exact g_nmi (by rw [ex155, if_neg c175, if_pos c176]) kj156
        · refine g_iload C (i := 10) 0 rfl (dk kL_acts 109 rfl) ?_
          refine g_bipush C (v := 6) (by decide) (dk kL_acts 110 rfl) ?_
          refine g_icmp_ne C (tgt := 192) (dk kL_acts 111 rfl) (by decide) (fun c177 => ?_) (fun c177 => ?_)
          · refine g_iconst C (v := 0) (by decide) (dk kL_acts 114 rfl) ?_
            exact g_nmi (by rw [ex155, if_neg c175, if_neg c176, if_neg c177]) kj156
          · refine g_iconst C (v := 1) (by decide) (dk kL_acts 112 rfl) ?_
            refine g_goto C (tgt := 193) (dk kL_acts 113 rfl) (by decide) ?_
            exact g_nmi (by rw [ex155, if_neg c175, if_neg c176, if_pos c177]) kj156
      · refine g_bipush C (v := 10) (by decide) (dk kL_acts 104 rfl) ?_
        refine g_goto C (tgt := 193) (dk kL_acts 105 rfl) (by decide) ?_
        exact g_nmi (by rw [ex155, if_pos c175]) kj156
  · replace h := ite_t h c5
    refine g_iconst C (v := 0) (by decide) (dk kL_acts 12 rfl) ?_
    refine g_istore C (i := 10) (lv' := [(10, .int 0), (9, .int x4), (8, .int x2), (0, .ref (za Z a0)), (1, .ref (za Z a1)), (2, .ref (za Z a2)), (3, .ref (za Z a3)), (4, .ref (za Z a4)), (5, .ref (za Z a5)), (6, .ref (za Z a6)), (7, .int a7)]) (dk kL_acts 13 rfl) (by decide) rfl ?_
    refine g_iconst C (v := 0) (by decide) (dk kL_acts 14 rfl) ?_
    refine g_istore C (i := 11) (lv' := [(11, .int 0), (10, .int 0), (9, .int x4), (8, .int x2), (0, .ref (za Z a0)), (1, .ref (za Z a1)), (2, .ref (za Z a2)), (3, .ref (za Z a3)), (4, .ref (za Z a4)), (5, .ref (za Z a5)), (6, .ref (za Z a6)), (7, .int a7)]) (dk kL_acts 15 rfl) (by decide) rfl ?_
    obtain ⟨q200, eq200, h⟩ := bd_inv h
    refine g_sub [4, 5, 6, 7, 8, 10, 3, 1, 0] (lv' := [(0, .ref (za Z a0)), (1, .ref (za Z a1)), (2, .ref (za Z a2)), (3, .ref (za Z a3)), (4, .ref (za Z a4)), (6, .ref (za Z a6)), (8, .int x2), (10, .int 0), (11, .int 0)]) rfl ?_
    refine gl_L_acts_31 a0 a1 a2 a3 a4 a6 x2 k0 k1 k2 k3 k4 k6 C hl E.2 FU μ 0 0 _ eq200 ?_
    obtain ⟨x201, ex201, h⟩ := lt_inv h
    obtain ⟨μ202, eμ202, h⟩ := lt_inv h
    rw [← ex201, ← eμ202]
    refine g_aload_n C (i := 1) 1 rfl rfl (dk kL_acts 75 rfl) ?_
    refine g_iconst C (v := 0) (by decide) (dk kL_acts 76 rfl) ?_
    refine g_iconst C (v := 4) (by decide) (dk kL_acts 77 rfl) ?_
    refine g_iload C (i := 8) 2 rfl (dk kL_acts 78 rfl) ?_
    refine g_bipush C (v := 21) (by decide) (dk kL_acts 79 rfl) ?_
    refine g_irem C (by decide) (dk kL_acts 80 rfl) ?_
    refine g_iadd C (dk kL_acts 81 rfl) ?_
    obtain ⟨c203, h⟩ := gd_inv h
    obtain ⟨μ204, eμ204, h⟩ := lt_inv h
    refine g_iast C k1 c203 eμ204 (dk kL_acts 82 rfl) ?_
    refine g_aload_n C (i := 0) 0 rfl rfl (dk kL_acts 83 rfl) ?_
    refine g_aload_n C (i := 1) 1 rfl rfl (dk kL_acts 84 rfl) ?_
    refine g_iconst C (v := 0) (by decide) (dk kL_acts 85 rfl) ?_
    obtain ⟨c205, h⟩ := gd_inv h
    refine g_iald C k1 c205 (dk kL_acts 86 rfl) ?_
    obtain ⟨q206, eq206, h⟩ := bd_inv h
    obtain ⟨x208, ex208, h⟩ := lt_inv h
    obtain ⟨μ207, eμ207, h⟩ := lt_inv h
    rw [show q206 = (x208, μ207) from by rw [ex208, eμ207]] at eq206
    refine g_callSW C E.2 (rest := []) 2 (ct_L_begins k0 eq206) wd_1_212 mw_L_begins ⟨by decide, by decide, by decide⟩ rfl (by decide) rfl (Nat.le_of_ble_eq_true rfl) (by decide) (dk kL_acts 87 rfl) ?_
    refine g_iload C (i := 10) 3 rfl (dk kL_acts 88 rfl) ?_
    obtain ⟨c209, h⟩ := gd_inv h
    refine g_icmp_ne C (tgt := 149) (dk kL_acts 89 rfl) (by decide) (fun q => absurd c209 q) (fun _ => ?_)
    refine g_iconst C (v := 1) (by decide) (dk kL_acts 90 rfl) ?_
    refine g_goto C (tgt := 150) (dk kL_acts 91 rfl) (by decide) ?_
    obtain ⟨h8, h9⟩ := Prod.mk.inj (Option.some.inj h)
    subst h8
    subst h9
    exact g_iret C E rfl rfl (by decide) (by decide) (dk kL_acts 93 rfl)
theorem ct_L_acts {l : Launch} {Z : ZZ} {μ : Mm} {a0 : Nat} {a1 : Nat} {a2 : Nat} {a3 : Nat} {a4 : Nat} {a5 : Nat} {a6 : Nat} {a7 : Int32} {r : Int32} {μ' : Mm} (k0 : (zk Z a0).1 = 5) (k1 : (zk Z a1).1 = 8) (k2 : (zk Z a2).1 = 8) (k3 : (zk Z a3).1 = 8) (k4 : (zk Z a4).1 = 8) (k5 : (zk Z a5).1 = 8) (k6 : (zk Z a6).1 = 8) (hl : l.stackTraces = false) (h : f_L_acts (zk Z) μ a0 a1 a2 a3 a4 a5 a6 a7 = some (r, μ')) : CtM l Z false yL_acts cL_acts 14 (some .boolean) 10 101 2156 [.ref (za Z a0), .ref (za Z a1), .ref (za Z a2), .ref (za Z a3), .ref (za Z a4), .ref (za Z a5), .ref (za Z a6), .int a7] μ (some (.int r)) Z μ' := ct_of rfl rfl (Nat.le_of_ble_eq_true rfl) (fun X C E => t_L_acts μ a0 a1 a2 a3 a4 a5 a6 a7 r μ' k0 k1 k2 k3 k4 k5 k6 h C hl E)
