def qL_isSo_0 : List (Nat × Instr × Nat) := [(0, .iconst 1, 1), (1, .istore 7, 2), (3, .iconst 0, 1), (4, .istore 8, 2), (6, .iconst 0, 1), (7, .istore 9, 2), (9, .iconst 0, 1), (10, .istore 10, 2), (12, .iconst 0, 1), (13, .istore 11, 2), (15, .iconst 0, 1), (16, .istore 12, 2), (18, .iload 12, 2), (20, .aload_n 1, 1), (21, .iconst 0, 1), (22, .iaload, 1), (23, .if_icmp .ge 118, 3), (26, .iload 7, 2), (28, .ifCond .eq 113, 3), (31, .iload 8, 2), (33, .aload_n 3, 1), (34, .iload 12, 2), (36, .iaload, 1), (37, .iadd, 1), (38, .istore 8, 2), (40, .iload 9, 2), (42, .aload_n 2, 1), (43, .iload 12, 2), (45, .iaload, 1), (46, .iadd, 1), (47, .istore 9, 2), (49, .aload_n 0, 1), (50, .iload 12, 2), (52, .iconst 0, 1), (53, .invokestatic 165, 3), (56, .aload_n 2, 1), (57, .iload 12, 2), (59, .iaload, 1), (60, .if_icmp .ne 72, 3), (63, .aload_n 0, 1), (64, .iload 12, 2), (66, .iconst 1, 1), (67, .invokestatic 165, 3), (70, .aload_n 3, 1), (71, .iload 12, 2), (73, .iaload, 1), (74, .if_icmp .ne 58, 3), (77, .aload_n 0, 1), (78, .iload 12, 2), (80, .iconst 2, 1), (81, .invokestatic 165, 3), (84, .aload_n 1, 1), (85, .aload 6, 2), (87, .iload 12, 2), (89, .invokestatic 57, 3), (92, .if_icmp .ne 40, 3), (95, .aload_n 0, 1), (96, .iload 12, 2), (98, .iconst 3, 1), (99, .invokestatic 165, 3)]
theorem kL_isSo_0 : ∀ q ∈ qL_isSo_0, decode cL_isSo q.1 = .ok q.2 := by decide +kernel
def qL_isSo_1 : List (Nat × Instr × Nat) := [(102, .aload 4, 2), (104, .iload 12, 2), (106, .iaload, 1), (107, .if_icmp .ne 25, 3), (110, .aload_n 0, 1), (111, .iload 12, 2), (113, .iconst 4, 1), (114, .invokestatic 165, 3), (117, .aload_n 1, 1), (118, .aload_n 3, 1), (119, .iload 12, 2), (121, .iaload, 1), (122, .invokestatic 67, 3), (125, .if_icmp .ne 7, 3), (128, .iconst 1, 1), (129, .goto 4, 3), (132, .iconst 0, 1), (133, .istore 7, 2), (135, .iinc 12 1, 3), (138, .goto (-120), 3), (141, .iconst 0, 1), (142, .istore 12, 2), (144, .iload 12, 2), (146, .aload_n 1, 1), (147, .bipush 8, 2), (149, .iaload, 1), (150, .if_icmp .ge 221, 3), (153, .iload 7, 2), (155, .ifCond .eq 216, 3), (158, .iconst 1, 1), (159, .aload 5, 2), (161, .bipush 10, 2), (163, .iload 12, 2), (165, .imul, 1), (166, .iaload, 1), (167, .ishl, 1), (168, .iconst 1, 1), (169, .isub, 1), (170, .istore 13, 2), (172, .iconst 0, 1), (173, .istore 14, 2), (175, .iload 14, 2), (177, .bipush 6, 2), (179, .if_icmp .ge 65, 3), (182, .iload 13, 2), (184, .aload 5, 2), (186, .bipush 10, 2), (188, .iload 12, 2), (190, .imul, 1), (191, .iconst 2, 1), (192, .iadd, 1), (193, .iload 14, 2), (195, .iadd, 1), (196, .iaload, 1), (197, .iconst (-1), 1), (198, .ixor, 1), (199, .iand, 1), (200, .istore 13, 2), (202, .iload 7, 2), (204, .ifCond .eq 31, 3)]
theorem kL_isSo_1 : ∀ q ∈ qL_isSo_1, decode cL_isSo q.1 = .ok q.2 := by decide +kernel
def qL_isSo_2 : List (Nat × Instr × Nat) := [(207, .aload_n 0, 1), (208, .iload 12, 2), (210, .iload 14, 2), (212, .invokestatic 168, 3), (215, .aload 5, 2), (217, .bipush 10, 2), (219, .iload 12, 2), (221, .imul, 1), (222, .iconst 2, 1), (223, .iadd, 1), (224, .iload 14, 2), (226, .iadd, 1), (227, .iaload, 1), (228, .if_icmp .ne 7, 3), (231, .iconst 1, 1), (232, .goto 4, 3), (235, .iconst 0, 1), (236, .istore 7, 2), (238, .iinc 14 1, 3), (241, .goto (-66), 3), (244, .iload 7, 2), (246, .ifCond .eq 116, 3), (249, .aload_n 0, 1), (250, .iload 12, 2), (252, .iconst 0, 1), (253, .invokestatic 171, 3), (256, .aload 5, 2), (258, .bipush 10, 2), (260, .iload 12, 2), (262, .imul, 1), (263, .iaload, 1), (264, .if_icmp .ne 98, 3), (267, .aload_n 0, 1), (268, .iload 12, 2), (270, .iconst 1, 1), (271, .invokestatic 171, 3), (274, .aload 5, 2), (276, .bipush 10, 2), (278, .iload 12, 2), (280, .imul, 1), (281, .iconst 1, 1), (282, .iadd, 1), (283, .iaload, 1), (284, .if_icmp .ne 78, 3), (287, .aload_n 0, 1), (288, .iload 12, 2), (290, .iconst 2, 1), (291, .invokestatic 171, 3), (294, .aload 5, 2), (296, .iload 12, 2), (298, .invokestatic 63, 3), (301, .if_icmp .ne 61, 3), (304, .aload_n 0, 1), (305, .iload 12, 2), (307, .iconst 3, 1), (308, .invokestatic 171, 3), (311, .aload 5, 2), (313, .bipush 10, 2), (315, .iload 12, 2), (317, .imul, 1)]
theorem kL_isSo_2 : ∀ q ∈ qL_isSo_2, decode cL_isSo q.1 = .ok q.2 := by decide +kernel
def qL_isSo_3 : List (Nat × Instr × Nat) := [(318, .bipush 8, 2), (320, .iadd, 1), (321, .iaload, 1), (322, .if_icmp .ne 40, 3), (325, .aload_n 0, 1), (326, .iload 12, 2), (328, .iconst 4, 1), (329, .invokestatic 171, 3), (332, .aload 5, 2), (334, .bipush 10, 2), (336, .iload 12, 2), (338, .imul, 1), (339, .bipush 9, 2), (341, .iadd, 1), (342, .iaload, 1), (343, .if_icmp .ne 19, 3), (346, .aload_n 0, 1), (347, .iload 12, 2), (349, .iconst 5, 1), (350, .invokestatic 171, 3), (353, .iload 13, 2), (355, .if_icmp .ne 7, 3), (358, .iconst 1, 1), (359, .goto 4, 3), (362, .iconst 0, 1), (363, .istore 7, 2), (365, .iinc 12 1, 3), (368, .goto (-224), 3), (371, .iconst 0, 1), (372, .istore 12, 2), (374, .iload 12, 2), (376, .aload_n 1, 1), (377, .bipush 9, 2), (379, .iaload, 1), (380, .if_icmp .ge 105, 3), (383, .iload 7, 2), (385, .ifCond .eq 100, 3), (388, .iload 10, 2), (390, .aload 6, 2), (392, .bipush 6, 2), (394, .iload 12, 2), (396, .imul, 1), (397, .iconst 2, 1), (398, .iadd, 1), (399, .iaload, 1), (400, .aload 6, 2), (402, .bipush 6, 2), (404, .iload 12, 2), (406, .imul, 1), (407, .iconst 3, 1), (408, .iadd, 1), (409, .iaload, 1), (410, .isub, 1), (411, .iadd, 1), (412, .istore 10, 2), (414, .iload 11, 2), (416, .aload 6, 2), (418, .bipush 6, 2), (420, .iload 12, 2), (422, .imul, 1)]
theorem kL_isSo_3 : ∀ q ∈ qL_isSo_3, decode cL_isSo q.1 = .ok q.2 := by decide +kernel
def qL_isSo_4 : List (Nat × Instr × Nat) := [(423, .iconst 4, 1), (424, .iadd, 1), (425, .iaload, 1), (426, .iadd, 1), (427, .istore 11, 2), (429, .iconst 0, 1), (430, .istore 13, 2), (432, .iload 13, 2), (434, .bipush 6, 2), (436, .if_icmp .ge 43, 3), (439, .iload 7, 2), (441, .ifCond .eq 29, 3), (444, .aload_n 0, 1), (445, .iload 12, 2), (447, .iload 13, 2), (449, .invokestatic 174, 3), (452, .aload 6, 2), (454, .bipush 6, 2), (456, .iload 12, 2), (458, .imul, 1), (459, .iload 13, 2), (461, .iadd, 1), (462, .iaload, 1), (463, .if_icmp .ne 7, 3), (466, .iconst 1, 1), (467, .goto 4, 3), (470, .iconst 0, 1), (471, .istore 7, 2), (473, .iinc 13 1, 3), (476, .goto (-44), 3), (479, .iinc 12 1, 3), (482, .goto (-108), 3), (485, .iconst 0, 1), (486, .istore 12, 2), (488, .iconst 0, 1), (489, .istore 13, 2), (491, .iload 13, 2), (493, .aload_n 1, 1), (494, .iconst 0, 1), (495, .iaload, 1), (496, .if_icmp .ge 29, 3), (499, .aload_n 3, 1), (500, .iload 13, 2), (502, .iaload, 1), (503, .aload_n 3, 1), (504, .iload 12, 2), (506, .iaload, 1), (507, .if_icmp .le 8, 3), (510, .iload 13, 2), (512, .goto 5, 3), (515, .iload 12, 2), (517, .istore 12, 2), (519, .iinc 13 1, 3), (522, .goto (-31), 3), (525, .iconst 0, 1), (526, .istore 13, 2), (528, .iload 13, 2), (530, .bipush 10, 2), (532, .if_icmp .ge 34, 3), (535, .iload 7, 2)]
theorem kL_isSo_4 : ∀ q ∈ qL_isSo_4, decode cL_isSo q.1 = .ok q.2 := by decide +kernel
def qL_isSo_5 : List (Nat × Instr × Nat) := [(537, .ifCond .eq 20, 3), (540, .aload_n 0, 1), (541, .iload 13, 2), (543, .invokestatic 177, 3), (546, .aload_n 1, 1), (547, .iload 13, 2), (549, .iaload, 1), (550, .if_icmp .ne 7, 3), (553, .iconst 1, 1), (554, .goto 4, 3), (557, .iconst 0, 1), (558, .istore 7, 2), (560, .iinc 13 1, 3), (563, .goto (-35), 3), (566, .iload 7, 2), (568, .ifCond .eq 27, 3), (571, .iload 11, 2), (573, .aload_n 1, 1), (574, .bipush 11, 2), (576, .iaload, 1), (577, .if_icmp .ne 18, 3), (580, .iload 9, 2), (582, .bipush 90, 2), (584, .aload_n 1, 1), (585, .iconst 0, 1), (586, .iaload, 1), (587, .imul, 1), (588, .if_icmp .gt 7, 3), (591, .iconst 1, 1), (592, .goto 4, 3), (595, .iconst 0, 1), (596, .istore 7, 2), (598, .iload 7, 2), (600, .ifCond .eq 155, 3), (603, .aload_n 0, 1), (604, .invokevirtual 180, 3), (607, .iload 12, 2), (609, .if_icmp .ne 146, 3), (612, .aload_n 0, 1), (613, .bipush 10, 2), (615, .invokestatic 177, 3), (618, .iload 8, 2), (620, .if_icmp .ne 135, 3), (623, .aload_n 0, 1), (624, .bipush 11, 2), (626, .invokestatic 177, 3), (629, .aload_n 1, 1), (630, .bipush 10, 2), (632, .iaload, 1), (633, .if_icmp .ne 122, 3), (636, .aload_n 0, 1), (637, .bipush 12, 2), (639, .invokestatic 177, 3), (642, .aload_n 1, 1), (643, .bipush 11, 2), (645, .iaload, 1), (646, .if_icmp .ne 109, 3), (649, .aload_n 0, 1), (650, .bipush 13, 2), (652, .invokestatic 177, 3)]
theorem kL_isSo_5 : ∀ q ∈ qL_isSo_5, decode cL_isSo q.1 = .ok q.2 := by decide +kernel
def qL_isSo_6 : List (Nat × Instr × Nat) := [(655, .aload_n 1, 1), (656, .bipush 12, 2), (658, .iaload, 1), (659, .if_icmp .ne 96, 3), (662, .aload_n 0, 1), (663, .bipush 14, 2), (665, .invokestatic 177, 3), (668, .iload 10, 2), (670, .if_icmp .ne 85, 3), (673, .aload_n 0, 1), (674, .bipush 15, 2), (676, .invokestatic 177, 3), (679, .aload_n 1, 1), (680, .aload 6, 2), (682, .invokestatic 98, 3), (685, .if_icmp .ne 70, 3), (688, .aload_n 0, 1), (689, .bipush 16, 2), (691, .invokestatic 177, 3), (694, .aload_n 1, 1), (695, .bipush 13, 2), (697, .iaload, 1), (698, .if_icmp .ne 57, 3), (701, .aload_n 0, 1), (702, .bipush 17, 2), (704, .invokestatic 177, 3), (707, .ifCond .ne 48, 3), (710, .aload_n 0, 1), (711, .aload_n 1, 1), (712, .iconst 0, 1), (713, .iaload, 1), (714, .iconst 0, 1), (715, .invokestatic 165, 3), (718, .ldc 34, 2), (720, .if_icmp .ne 35, 3), (723, .aload_n 0, 1), (724, .aload_n 1, 1), (725, .bipush 8, 2), (727, .iaload, 1), (728, .iconst 0, 1), (729, .invokestatic 171, 3), (732, .ldc 34, 2), (734, .if_icmp .ne 21, 3), (737, .aload_n 0, 1), (738, .aload_n 1, 1), (739, .bipush 9, 2), (741, .iaload, 1), (742, .iconst 0, 1), (743, .invokestatic 174, 3), (746, .ldc 34, 2), (748, .if_icmp .ne 7, 3), (751, .iconst 1, 1), (752, .goto 4, 3), (755, .iconst 0, 1), (756, .ireturn, 1)]
theorem kL_isSo_6 : ∀ q ∈ qL_isSo_6, decode cL_isSo q.1 = .ok q.2 := by decide +kernel
def qL_isSo : List (Nat × Instr × Nat) := qL_isSo_0 ++ (qL_isSo_1 ++ (qL_isSo_2 ++ (qL_isSo_3 ++ (qL_isSo_4 ++ (qL_isSo_5 ++ (qL_isSo_6))))))
theorem kL_isSo : ∀ q ∈ qL_isSo, decode cL_isSo q.1 = .ok q.2 := List.forall_mem_append.mpr ⟨kL_isSo_0, List.forall_mem_append.mpr ⟨kL_isSo_1, List.forall_mem_append.mpr ⟨kL_isSo_2, List.forall_mem_append.mpr ⟨kL_isSo_3, List.forall_mem_append.mpr ⟨kL_isSo_4, List.forall_mem_append.mpr ⟨kL_isSo_5, kL_isSo_6⟩⟩⟩⟩⟩⟩
def f_L_isSo_l18 (K : Nat → Nat × Nat) (μ : Mm) (v0 : Nat) (v1 : Nat) (v2 : Nat) (v3 : Nat) (v4 : Nat) (v5 : Nat) (v6 : Nat) (v10 : Int32) (v11 : Int32) : Nat → Int32 → Int32 → Int32 → Int32 → Option (Int32 × Int32 × Int32)
  | 0, _, _, _, _ => none
  | n + 1, v7, v8, v9, v12 => gd (inb 0 (K v1).2) <| if (μ.1 v1 (ix 0)) ≤ v12 then (some (v7, v8, v9)) else (gd (¬ (v7 = 0)) <| gd (inb v12 (K v3).2) <| lt1 (α := Int32) (v8 + (μ.1 v3 (ix v12))) fun x5 => gd (inb v12 (K v2).2) <| lt1 (α := Int32) (v9 + (μ.1 v2 (ix v12))) fun x7 => bd (f_L_dotOf K μ v0 v12 0) fun x9 => gd (inb v12 (K v2).2) <| gd (x9 = (μ.1 v2 (ix v12))) <| bd (f_L_dotOf K μ v0 v12 1) fun x13 => gd (inb v12 (K v3).2) <| gd (x13 = (μ.1 v3 (ix v12))) <| bd (f_L_dotOf K μ v0 v12 2) fun x17 => bd (f_L_renter K μ v1 v6 v12) fun x19 => gd (x17 = x19) <| bd (f_L_dotOf K μ v0 v12 3) fun x22 => gd (inb v12 (K v4).2) <| gd (x22 = (μ.1 v4 (ix v12))) <| bd (f_L_dotOf K μ v0 v12 4) fun x26 => gd (inb v12 (K v3).2) <| bd (f_L_fade K μ v1 (μ.1 v3 (ix v12))) fun x29 => gd (x26 = x29) <| lt1 (α := Int32) (v12 + 1) fun x31 => f_L_isSo_l18 K μ v0 v1 v2 v3 v4 v5 v6 v10 v11 n 1 x5 x7 x31)
def f_L_isSo_l175 (K : Nat → Nat × Nat) (μ : Mm) (v0 : Nat) (v1 : Nat) (v3 : Nat) (v5 : Nat) (v6 : Nat) (v8 : Int32) (v9 : Int32) (v10 : Int32) (v11 : Int32) (v12 : Int32) : Nat → Int32 → Int32 → Int32 → Option (Int32 × Int32)
  | 0, _, _, _ => none
  | n + 1, v7, v13, v14 => if 6 ≤ v14 then (some (v7, v13)) else (gd (inb (((10 * v12) + 2) + v14) (K v5).2) <| lt1 (α := Int32) (v13 &&& ((μ.1 v5 (ix (((10 * v12) + 2) + v14))) ^^^ (-1))) fun x43 => gd (¬ (v7 = 0)) <| bd (f_L_rowOf K μ v0 v12 v14) fun x46 => gd (inb (((10 * v12) + 2) + v14) (K v5).2) <| gd (x46 = (μ.1 v5 (ix (((10 * v12) + 2) + v14)))) <| lt1 (α := Int32) (v14 + 1) fun x49 => f_L_isSo_l175 K μ v0 v1 v3 v5 v6 v8 v9 v10 v11 v12 n 1 x43 x49)
def f_L_isSo_l144 (K : Nat → Nat × Nat) (μ : Mm) (v0 : Nat) (v1 : Nat) (v3 : Nat) (v5 : Nat) (v6 : Nat) (v8 : Int32) (v9 : Int32) (v10 : Int32) (v11 : Int32) : Nat → Int32 → Int32 → Option (Int32)
  | 0, _, _ => none
  | n + 1, v7, v12 => gd (inb 8 (K v1).2) <| if (μ.1 v1 (ix 8)) ≤ v12 then (some v7) else (gd (¬ (v7 = 0)) <| gd (inb (10 * v12) (K v5).2) <| lt1 (α := Int32) (((1 : Int32) <<< ((μ.1 v5 (ix (10 * v12))) &&& 31)) - 1) fun x40 => bd (f_L_isSo_l175 K μ v0 v1 v3 v5 v6 v8 v9 v10 v11 v12 FU v7 x40 0) fun q50 => lt1 q50.1 fun x51 => lt1 q50.2 fun x52 => gd (¬ (x51 = 0)) <| bd (f_L_labelOf K μ v0 v12 0) fun x55 => gd (inb (10 * v12) (K v5).2) <| gd (x55 = (μ.1 v5 (ix (10 * v12)))) <| bd (f_L_labelOf K μ v0 v12 1) fun x59 => gd (inb ((10 * v12) + 1) (K v5).2) <| gd (x59 = (μ.1 v5 (ix ((10 * v12) + 1)))) <| bd (f_L_labelOf K μ v0 v12 2) fun x63 => bd (f_L_blacks K μ v5 v12) fun x65 => gd (x63 = x65) <| bd (f_L_labelOf K μ v0 v12 3) fun x68 => gd (inb ((10 * v12) + 8) (K v5).2) <| gd (x68 = (μ.1 v5 (ix ((10 * v12) + 8)))) <| bd (f_L_labelOf K μ v0 v12 4) fun x72 => gd (inb ((10 * v12) + 9) (K v5).2) <| gd (x72 = (μ.1 v5 (ix ((10 * v12) + 9)))) <| bd (f_L_labelOf K μ v0 v12 5) fun x76 => gd (x76 = x52) <| lt1 (α := Int32) (v12 + 1) fun x78 => f_L_isSo_l144 K μ v0 v1 v3 v5 v6 v8 v9 v10 v11 n 1 x78)
def f_L_isSo_l432 (K : Nat → Nat × Nat) (μ : Mm) (v0 : Nat) (v1 : Nat) (v3 : Nat) (v6 : Nat) (v8 : Int32) (v9 : Int32) (v10 : Int32) (v11 : Int32) (v12 : Int32) : Nat → Int32 → Int32 → Option (Int32)
  | 0, _, _ => none
  | n + 1, v7, v13 => if 6 ≤ v13 then (some v7) else (gd (¬ (v7 = 0)) <| bd (f_L_customerOf K μ v0 v12 v13) fun x92 => gd (inb ((6 * v12) + v13) (K v6).2) <| gd (x92 = (μ.1 v6 (ix ((6 * v12) + v13)))) <| lt1 (α := Int32) (v13 + 1) fun x95 => f_L_isSo_l432 K μ v0 v1 v3 v6 v8 v9 v10 v11 v12 n 1 x95)
def f_L_isSo_l374 (K : Nat → Nat × Nat) (μ : Mm) (v0 : Nat) (v1 : Nat) (v3 : Nat) (v6 : Nat) (v8 : Int32) (v9 : Int32) : Nat → Int32 → Int32 → Int32 → Int32 → Option (Int32 × Int32 × Int32)
  | 0, _, _, _, _ => none
  | n + 1, v7, v10, v11, v12 => gd (inb 9 (K v1).2) <| if (μ.1 v1 (ix 9)) ≤ v12 then (some (v7, v10, v11)) else (gd (¬ (v7 = 0)) <| gd (inb ((6 * v12) + 2) (K v6).2) <| gd (inb ((6 * v12) + 3) (K v6).2) <| lt1 (α := Int32) (v10 + ((μ.1 v6 (ix ((6 * v12) + 2))) - (μ.1 v6 (ix ((6 * v12) + 3))))) fun x86 => gd (inb ((6 * v12) + 4) (K v6).2) <| lt1 (α := Int32) (v11 + (μ.1 v6 (ix ((6 * v12) + 4)))) fun x88 => bd (f_L_isSo_l432 K μ v0 v1 v3 v6 v8 v9 x86 x88 v12 FU v7 0) fun q96 => lt1 q96 fun x97 => lt1 (α := Int32) (v12 + 1) fun x98 => f_L_isSo_l374 K μ v0 v1 v3 v6 v8 v9 n x97 x86 x88 x98)
def f_L_isSo_l491 (K : Nat → Nat × Nat) (μ : Mm) (v0 : Nat) (v1 : Nat) (v3 : Nat) (v6 : Nat) (v7 : Int32) (v8 : Int32) (v9 : Int32) (v10 : Int32) (v11 : Int32) : Nat → Int32 → Int32 → Option (Int32)
  | 0, _, _ => none
  | n + 1, v12, v13 => gd (inb 0 (K v1).2) <| if (μ.1 v1 (ix 0)) ≤ v13 then (some v12) else (gd (inb v13 (K v3).2) <| gd (inb v12 (K v3).2) <| lt1 (α := Int32) (if (μ.1 v3 (ix v13)) ≤ (μ.1 v3 (ix v12)) then v12 else v13) fun x107 => lt1 (α := Int32) (v13 + 1) fun x109 => f_L_isSo_l491 K μ v0 v1 v3 v6 v7 v8 v9 v10 v11 n x107 x109)
def f_L_isSo_l528 (K : Nat → Nat × Nat) (μ : Mm) (v0 : Nat) (v1 : Nat) (v6 : Nat) (v8 : Int32) (v9 : Int32) (v10 : Int32) (v11 : Int32) (v12 : Int32) : Nat → Int32 → Int32 → Option (Int32)
  | 0, _, _ => none
  | n + 1, v7, v13 => if 10 ≤ v13 then (some v7) else (gd (¬ (v7 = 0)) <| bd (f_L_wholeOf K μ v0 v13) fun x116 => gd (inb v13 (K v1).2) <| gd (x116 = (μ.1 v1 (ix v13))) <| lt1 (α := Int32) (v13 + 1) fun x119 => f_L_isSo_l528 K μ v0 v1 v6 v8 v9 v10 v11 v12 n 1 x119)
def f_L_isSo (K : Nat → Nat × Nat) (μ : Mm) (a0 : Nat) (a1 : Nat) (a2 : Nat) (a3 : Nat) (a4 : Nat) (a5 : Nat) (a6 : Nat) : Option (Int32) :=
  bd (f_L_isSo_l18 K μ a0 a1 a2 a3 a4 a5 a6 0 0 FU 1 0 0 0) fun q32 => lt1 q32.1 fun x33 => lt1 q32.2.1 fun x34 => lt1 q32.2.2 fun x35 => bd (f_L_isSo_l144 K μ a0 a1 a3 a5 a6 x34 x35 0 0 FU x33 0) fun q79 => lt1 q79 fun x80 => bd (f_L_isSo_l374 K μ a0 a1 a3 a6 x34 x35 FU x80 0 0 0) fun q99 => lt1 q99.1 fun x100 => lt1 q99.2.1 fun x101 => lt1 q99.2.2 fun x102 => bd (f_L_isSo_l491 K μ a0 a1 a3 a6 x100 x34 x35 x101 x102 FU 0 0) fun q111 => lt1 q111 fun x112 => bd (f_L_isSo_l528 K μ a0 a1 a6 x34 x35 x101 x102 x112 FU x100 0) fun q120 => lt1 q120 fun x121 => gd (¬ (x121 = 0)) <| gd (inb 11 (K a1).2) <| gd (x102 = (μ.1 a1 (ix 11))) <| gd (inb 0 (K a1).2) <| gd (¬ ((90 * (μ.1 a1 (ix 0))) < x35)) <| bd (f_X7_mostWorn K μ a0) fun x129 => gd (x129 = x112) <| bd (f_L_wholeOf K μ a0 10) fun x132 => gd (x132 = x34) <| bd (f_L_wholeOf K μ a0 11) fun x135 => gd (inb 10 (K a1).2) <| gd (x135 = (μ.1 a1 (ix 10))) <| bd (f_L_wholeOf K μ a0 12) fun x139 => gd (inb 11 (K a1).2) <| gd (x139 = (μ.1 a1 (ix 11))) <| bd (f_L_wholeOf K μ a0 13) fun x143 => gd (inb 12 (K a1).2) <| gd (x143 = (μ.1 a1 (ix 12))) <| bd (f_L_wholeOf K μ a0 14) fun x147 => gd (x147 = x101) <| bd (f_L_wholeOf K μ a0 15) fun x150 => bd (f_L_rented K μ a1 a6) fun x152 => gd (x150 = x152) <| bd (f_L_wholeOf K μ a0 16) fun x155 => gd (inb 13 (K a1).2) <| gd (x155 = (μ.1 a1 (ix 13))) <| bd (f_L_wholeOf K μ a0 17) fun x159 => gd (x159 = 0) <| gd (inb 0 (K a1).2) <| bd (fx_X7_dot K μ a0 (μ.1 a1 (ix 0)) 0) fun q162 => gd (q162 = 1) <| gd (inb 8 (K a1).2) <| bd (fx_X7_label K μ a0 (μ.1 a1 (ix 8)) 0) fun q166 => gd (q166 = 1) <| gd (inb 9 (K a1).2) <| bd (fx_X7_customer K μ a0 (μ.1 a1 (ix 9)) 0) fun q170 => gd (q170 = 1) <| some 1
set_option maxRecDepth 100000 in
set_option maxHeartbeats 4000000 in
theorem gl_L_isSo_18 {l : Launch} {Z : ZZ} {X : XX} (v0 : Nat) (v1 : Nat) (v2 : Nat) (v3 : Nat) (v4 : Nat) (v5 : Nat) (v6 : Nat) (v10 : Int32) (v11 : Int32) (k0 : (zk Z v0).1 = 5) (k1 : (zk Z v1).1 = 8) (k2 : (zk Z v2).1 = 8) (k3 : (zk Z v3).1 = 8) (k4 : (zk Z v4).1 = 8) (k5 : (zk Z v5).1 = 8) (k6 : (zk Z v6).1 = 8) (μ : Mm) (C : Cx l Z false X cL_isSo RL 15 (some .boolean)) (hl : l.stackTraces = false) (E : xR X = rmm 9 3 18) : ∀ (n : Nat) (v7 : Int32) (v8 : Int32) (v9 : Int32) (v12 : Int32) (y : Int32 × Int32 × Int32), f_L_isSo_l18 (zk Z) μ v0 v1 v2 v3 v4 v5 v6 v10 v11 n v7 v8 v9 v12 = some y → G Z X 15 0 0 141 [(0, .ref (za Z v0)), (1, .ref (za Z v1)), (3, .ref (za Z v3)), (5, .ref (za Z v5)), (6, .ref (za Z v6)), (7, .int y.1), (8, .int y.2.1), (9, .int y.2.2), (10, .int v10), (11, .int v11)] [] (μ) → G Z X 15 0 0 18 [(0, .ref (za Z v0)), (1, .ref (za Z v1)), (2, .ref (za Z v2)), (3, .ref (za Z v3)), (4, .ref (za Z v4)), (5, .ref (za Z v5)), (6, .ref (za Z v6)), (7, .int v7), (8, .int v8), (9, .int v9), (10, .int v10), (11, .int v11), (12, .int v12)] [] μ := by
  intro n
  induction n with
  | zero => intro v7 v8 v9 v12 y h he; unfold f_L_isSo_l18 at h; cases h
  | succ n ih =>
    intro v7 v8 v9 v12 y h he
    unfold f_L_isSo_l18 at h
    refine g_iload C (i := 12) 12 rfl (dk kL_isSo 12 rfl) ?_
    refine g_aload_n C (i := 1) 1 rfl rfl (dk kL_isSo 13 rfl) ?_
    refine g_iconst C (v := 0) (by decide) (dk kL_isSo 14 rfl) ?_
    obtain ⟨c1, h⟩ := gd_inv h
    refine g_iald C k1 c1 (dk kL_isSo 15 rfl) ?_
    refine g_icmp_ge C (tgt := 141) (dk kL_isSo 16 rfl) (by decide) (fun c2 => ?_) (fun c2 => ?_)
    · replace h := ite_t h c2
      cases h
      exact g_sub [0, 1, 3, 5, 6, 7, 8, 9, 10, 11] rfl he
    · replace h := ite_f h c2
      refine g_iload C (i := 7) 7 rfl (dk kL_isSo 17 rfl) ?_
      obtain ⟨c3, h⟩ := gd_inv h
      refine g_if_eq C (tgt := 141) (dk kL_isSo 18 rfl) (by decide) (fun q => absurd q c3) (fun _ => ?_)
      refine g_iload C (i := 8) 8 rfl (dk kL_isSo 19 rfl) ?_
      refine g_aload_n C (i := 3) 3 rfl rfl (dk kL_isSo 20 rfl) ?_
      refine g_iload C (i := 12) 12 rfl (dk kL_isSo 21 rfl) ?_
      obtain ⟨c4, h⟩ := gd_inv h
      refine g_iald C k3 c4 (dk kL_isSo 22 rfl) ?_
      refine g_iadd C (dk kL_isSo 23 rfl) ?_
      obtain ⟨x5, ex5, h⟩ := lt_inv h
      refine g_nmi ex5 ?_
      refine g_istore C (i := 8) (lv' := [(8, .int x5), (0, .ref (za Z v0)), (1, .ref (za Z v1)), (2, .ref (za Z v2)), (3, .ref (za Z v3)), (4, .ref (za Z v4)), (5, .ref (za Z v5)), (6, .ref (za Z v6)), (7, .int v7), (9, .int v9), (10, .int v10), (11, .int v11), (12, .int v12)]) (dk kL_isSo 24 rfl) (by decide) rfl ?_
      refine g_iload C (i := 9) 9 rfl (dk kL_isSo 25 rfl) ?_
      refine g_aload_n C (i := 2) 3 rfl rfl (dk kL_isSo 26 rfl) ?_
      refine g_iload C (i := 12) 12 rfl (dk kL_isSo 27 rfl) ?_
      obtain ⟨c6, h⟩ := gd_inv h
      refine g_iald C k2 c6 (dk kL_isSo 28 rfl) ?_
      refine g_iadd C (dk kL_isSo 29 rfl) ?_
      obtain ⟨x7, ex7, h⟩ := lt_inv h
      refine g_nmi ex7 ?_
      refine g_istore C (i := 9) (lv' := [(9, .int x7), (8, .int x5), (0, .ref (za Z v0)), (1, .ref (za Z v1)), (2, .ref (za Z v2)), (3, .ref (za Z v3)), (4, .ref (za Z v4)), (5, .ref (za Z v5)), (6, .ref (za Z v6)), (7, .int v7), (10, .int v10), (11, .int v11), (12, .int v12)]) (dk kL_isSo 30 rfl) (by decide) rfl ?_
      refine g_aload_n C (i := 0) 2 rfl rfl (dk kL_isSo 31 rfl) ?_
      refine g_iload C (i := 12) 12 rfl (dk kL_isSo 32 rfl) ?_
      refine g_iconst C (v := 0) (by decide) (dk kL_isSo 33 rfl) ?_
      obtain ⟨x9, eq8, h⟩ := bd_inv h
      refine g_callSW C E (rest := []) 3 (ct_L_dotOf k0 eq8) wd_3_195 mw_L_dotOf ⟨by decide, by decide, by decide⟩ rfl (by decide) rfl (Nat.le_of_ble_eq_true rfl) (by decide) (dk kL_isSo 34 rfl) ?_
      refine g_aload_n C (i := 2) 4 rfl rfl (dk kL_isSo 35 rfl) ?_
      refine g_iload C (i := 12) 12 rfl (dk kL_isSo 36 rfl) ?_
      obtain ⟨c10, h⟩ := gd_inv h
      refine g_iald C k2 c10 (dk kL_isSo 37 rfl) ?_
      obtain ⟨c11, h⟩ := gd_inv h
      refine g_icmp_ne C (tgt := 132) (dk kL_isSo 38 rfl) (by decide) (fun q => absurd c11 q) (fun _ => ?_)
      refine g_aload_n C (i := 0) 2 rfl rfl (dk kL_isSo 39 rfl) ?_
      refine g_iload C (i := 12) 12 rfl (dk kL_isSo 40 rfl) ?_
      refine g_iconst C (v := 1) (by decide) (dk kL_isSo 41 rfl) ?_
      obtain ⟨x13, eq12, h⟩ := bd_inv h
      refine g_callSW C E (rest := []) 3 (ct_L_dotOf k0 eq12) wd_3_195 mw_L_dotOf ⟨by decide, by decide, by decide⟩ rfl (by decide) rfl (Nat.le_of_ble_eq_true rfl) (by decide) (dk kL_isSo 42 rfl) ?_
      refine g_aload_n C (i := 3) 5 rfl rfl (dk kL_isSo 43 rfl) ?_
      refine g_iload C (i := 12) 12 rfl (dk kL_isSo 44 rfl) ?_
      obtain ⟨c14, h⟩ := gd_inv h
      refine g_iald C k3 c14 (dk kL_isSo 45 rfl) ?_
      obtain ⟨c15, h⟩ := gd_inv h
      refine g_icmp_ne C (tgt := 132) (dk kL_isSo 46 rfl) (by decide) (fun q => absurd c15 q) (fun _ => ?_)
      refine g_aload_n C (i := 0) 2 rfl rfl (dk kL_isSo 47 rfl) ?_
      refine g_iload C (i := 12) 12 rfl (dk kL_isSo 48 rfl) ?_
      refine g_iconst C (v := 2) (by decide) (dk kL_isSo 49 rfl) ?_
      obtain ⟨x17, eq16, h⟩ := bd_inv h
      refine g_callSW C E (rest := []) 3 (ct_L_dotOf k0 eq16) wd_3_195 mw_L_dotOf ⟨by decide, by decide, by decide⟩ rfl (by decide) rfl (Nat.le_of_ble_eq_true rfl) (by decide) (dk kL_isSo 50 rfl) ?_
      refine g_aload_n C (i := 1) 3 rfl rfl (dk kL_isSo 51 rfl) ?_
      refine g_aload C (i := 6) 8 rfl (dk kL_isSo 52 rfl) ?_
      refine g_iload C (i := 12) 12 rfl (dk kL_isSo 53 rfl) ?_
      obtain ⟨x19, eq18, h⟩ := bd_inv h
      refine g_callS C E (rest := [.int x17]) 3 (ct_L_renter k1 k6 eq18) wd_3_66 mm_L_renter ⟨by decide, by decide, by decide⟩ rfl (by decide) rfl (Nat.le_of_ble_eq_true rfl) (by decide) (dk kL_isSo 54 rfl) ?_
      obtain ⟨c20, h⟩ := gd_inv h
      refine g_icmp_ne C (tgt := 132) (dk kL_isSo 55 rfl) (by decide) (fun q => absurd c20 q) (fun _ => ?_)
      refine g_aload_n C (i := 0) 2 rfl rfl (dk kL_isSo 56 rfl) ?_
      refine g_iload C (i := 12) 12 rfl (dk kL_isSo 57 rfl) ?_
      refine g_iconst C (v := 3) (by decide) (dk kL_isSo 58 rfl) ?_
      obtain ⟨x22, eq21, h⟩ := bd_inv h
      refine g_callSW C E (rest := []) 3 (ct_L_dotOf k0 eq21) wd_3_195 mw_L_dotOf ⟨by decide, by decide, by decide⟩ rfl (by decide) rfl (Nat.le_of_ble_eq_true rfl) (by decide) (dk kL_isSo 59 rfl) ?_
      refine g_aload C (i := 4) 6 rfl (dk kL_isSo 60 rfl) ?_
      refine g_iload C (i := 12) 12 rfl (dk kL_isSo 61 rfl) ?_
      obtain ⟨c23, h⟩ := gd_inv h
      refine g_iald C k4 c23 (dk kL_isSo 62 rfl) ?_
      obtain ⟨c24, h⟩ := gd_inv h
      refine g_icmp_ne C (tgt := 132) (dk kL_isSo 63 rfl) (by decide) (fun q => absurd c24 q) (fun _ => ?_)
      refine g_aload_n C (i := 0) 2 rfl rfl (dk kL_isSo 64 rfl) ?_
      refine g_iload C (i := 12) 12 rfl (dk kL_isSo 65 rfl) ?_
      refine g_iconst C (v := 4) (by decide) (dk kL_isSo 66 rfl) ?_
      obtain ⟨x26, eq25, h⟩ := bd_inv h
      refine g_callSW C E (rest := []) 3 (ct_L_dotOf k0 eq25) wd_3_195 mw_L_dotOf ⟨by decide, by decide, by decide⟩ rfl (by decide) rfl (Nat.le_of_ble_eq_true rfl) (by decide) (dk kL_isSo 67 rfl) ?_
      refine g_aload_n C (i := 1) 3 rfl rfl (dk kL_isSo 68 rfl) ?_
      refine g_aload_n C (i := 3) 5 rfl rfl (dk kL_isSo 69 rfl) ?_
      refine g_iload C (i := 12) 12 rfl (dk kL_isSo 70 rfl) ?_
      obtain ⟨c27, h⟩ := gd_inv h
      refine g_iald C k3 c27 (dk kL_isSo 71 rfl) ?_
      obtain ⟨x29, eq28, h⟩ := bd_inv h
      refine g_callS C E (rest := [.int x26]) 2 (ct_L_fade k1 eq28) wd_3_186 mm_L_fade ⟨by decide, by decide, by decide⟩ rfl (by decide) rfl (Nat.le_of_ble_eq_true rfl) (by decide) (dk kL_isSo 72 rfl) ?_
      obtain ⟨c30, h⟩ := gd_inv h
      refine g_icmp_ne C (tgt := 132) (dk kL_isSo 73 rfl) (by decide) (fun q => absurd c30 q) (fun _ => ?_)
      refine g_iconst C (v := 1) (by decide) (dk kL_isSo 74 rfl) ?_
      refine g_goto C (tgt := 133) (dk kL_isSo 75 rfl) (by decide) ?_
      refine g_istore C (i := 7) (lv' := [(7, .int 1), (9, .int x7), (8, .int x5), (0, .ref (za Z v0)), (1, .ref (za Z v1)), (2, .ref (za Z v2)), (3, .ref (za Z v3)), (4, .ref (za Z v4)), (5, .ref (za Z v5)), (6, .ref (za Z v6)), (10, .int v10), (11, .int v11), (12, .int v12)]) (dk kL_isSo 77 rfl) (by decide) rfl ?_
      obtain ⟨x31, ex31, h⟩ := lt_inv h
      refine g_iinc C (i := 12) (v := x31) (lv' := [(12, .int x31), (7, .int 1), (9, .int x7), (8, .int x5), (0, .ref (za Z v0)), (1, .ref (za Z v1)), (2, .ref (za Z v2)), (3, .ref (za Z v3)), (4, .ref (za Z v4)), (5, .ref (za Z v5)), (6, .ref (za Z v6)), (10, .int v10), (11, .int v11)]) 12 (dk kL_isSo 78 rfl) rfl (by rw [ex31]; rfl) (by decide) rfl ?_
      refine g_goto C (tgt := 18) (dk kL_isSo 79 rfl) (by decide) ?_
      exact g_sub [4, 5, 6, 7, 8, 9, 10, 1, 3, 2, 11, 12, 0] rfl (ih 1 x5 x7 x31 y h he)
set_option maxRecDepth 100000 in
set_option maxHeartbeats 4000000 in
theorem gl_L_isSo_175 {l : Launch} {Z : ZZ} {X : XX} (v0 : Nat) (v1 : Nat) (v3 : Nat) (v5 : Nat) (v6 : Nat) (v8 : Int32) (v9 : Int32) (v10 : Int32) (v11 : Int32) (v12 : Int32) (k0 : (zk Z v0).1 = 5) (k1 : (zk Z v1).1 = 8) (k3 : (zk Z v3).1 = 8) (k5 : (zk Z v5).1 = 8) (k6 : (zk Z v6).1 = 8) (μ : Mm) (C : Cx l Z false X cL_isSo RL 15 (some .boolean)) (hl : l.stackTraces = false) (E : xR X = rmm 9 3 18) : ∀ (n : Nat) (v7 : Int32) (v13 : Int32) (v14 : Int32) (y : Int32 × Int32), f_L_isSo_l175 (zk Z) μ v0 v1 v3 v5 v6 v8 v9 v10 v11 v12 n v7 v13 v14 = some y → G Z X 15 0 0 244 [(0, .ref (za Z v0)), (1, .ref (za Z v1)), (3, .ref (za Z v3)), (5, .ref (za Z v5)), (6, .ref (za Z v6)), (7, .int y.1), (8, .int v8), (9, .int v9), (10, .int v10), (11, .int v11), (12, .int v12), (13, .int y.2)] [] (μ) → G Z X 15 0 0 175 [(0, .ref (za Z v0)), (1, .ref (za Z v1)), (3, .ref (za Z v3)), (5, .ref (za Z v5)), (6, .ref (za Z v6)), (7, .int v7), (8, .int v8), (9, .int v9), (10, .int v10), (11, .int v11), (12, .int v12), (13, .int v13), (14, .int v14)] [] μ := by
  intro n
  induction n with
  | zero => intro v7 v13 v14 y h he; unfold f_L_isSo_l175 at h; cases h
  | succ n ih =>
    intro v7 v13 v14 y h he
    unfold f_L_isSo_l175 at h
    refine g_iload C (i := 14) 12 rfl (dk kL_isSo 101 rfl) ?_
    refine g_bipush C (v := 6) (by decide) (dk kL_isSo 102 rfl) ?_
    refine g_icmp_ge C (tgt := 244) (dk kL_isSo 103 rfl) (by decide) (fun c41 => ?_) (fun c41 => ?_)
    · replace h := ite_t h c41
      cases h
      exact g_sub [0, 1, 2, 3, 4, 5, 6, 7, 8, 9, 10, 11] rfl he
    · replace h := ite_f h c41
      refine g_iload C (i := 13) 11 rfl (dk kL_isSo 104 rfl) ?_
      refine g_aload C (i := 5) 3 rfl (dk kL_isSo 105 rfl) ?_
      refine g_bipush C (v := 10) (by decide) (dk kL_isSo 106 rfl) ?_
      refine g_iload C (i := 12) 10 rfl (dk kL_isSo 107 rfl) ?_
      refine g_imul C (dk kL_isSo 108 rfl) ?_
      refine g_iconst C (v := 2) (by decide) (dk kL_isSo 109 rfl) ?_
      refine g_iadd C (dk kL_isSo 110 rfl) ?_
      refine g_iload C (i := 14) 12 rfl (dk kL_isSo 111 rfl) ?_
      refine g_iadd C (dk kL_isSo 112 rfl) ?_
      obtain ⟨c42, h⟩ := gd_inv h
      refine g_iald C k5 c42 (dk kL_isSo 113 rfl) ?_
      refine g_iconst C (v := (-1)) (by decide) (dk kL_isSo 114 rfl) ?_
      refine g_ixor C (dk kL_isSo 115 rfl) ?_
      refine g_iand C (dk kL_isSo 116 rfl) ?_
      obtain ⟨x43, ex43, h⟩ := lt_inv h
      refine g_nmi ex43 ?_
      refine g_istore C (i := 13) (lv' := [(13, .int x43), (0, .ref (za Z v0)), (1, .ref (za Z v1)), (3, .ref (za Z v3)), (5, .ref (za Z v5)), (6, .ref (za Z v6)), (7, .int v7), (8, .int v8), (9, .int v9), (10, .int v10), (11, .int v11), (12, .int v12), (14, .int v14)]) (dk kL_isSo 117 rfl) (by decide) rfl ?_
      refine g_iload C (i := 7) 6 rfl (dk kL_isSo 118 rfl) ?_
      obtain ⟨c44, h⟩ := gd_inv h
      refine g_if_eq C (tgt := 235) (dk kL_isSo 119 rfl) (by decide) (fun q => absurd q c44) (fun _ => ?_)
      refine g_aload_n C (i := 0) 1 rfl rfl (dk kL_isSo 120 rfl) ?_
      refine g_iload C (i := 12) 11 rfl (dk kL_isSo 121 rfl) ?_
      refine g_iload C (i := 14) 12 rfl (dk kL_isSo 122 rfl) ?_
      obtain ⟨x46, eq45, h⟩ := bd_inv h
      refine g_callSW C E (rest := []) 3 (ct_L_rowOf k0 eq45) wd_4_1 mw_L_rowOf ⟨by decide, by decide, by decide⟩ rfl (by decide) rfl (Nat.le_of_ble_eq_true rfl) (by decide) (dk kL_isSo 123 rfl) ?_
      refine g_aload C (i := 5) 4 rfl (dk kL_isSo 124 rfl) ?_
      refine g_bipush C (v := 10) (by decide) (dk kL_isSo 125 rfl) ?_
      refine g_iload C (i := 12) 11 rfl (dk kL_isSo 126 rfl) ?_
      refine g_imul C (dk kL_isSo 127 rfl) ?_
      refine g_iconst C (v := 2) (by decide) (dk kL_isSo 128 rfl) ?_
      refine g_iadd C (dk kL_isSo 129 rfl) ?_
      refine g_iload C (i := 14) 12 rfl (dk kL_isSo 130 rfl) ?_
      refine g_iadd C (dk kL_isSo 131 rfl) ?_
      obtain ⟨c47, h⟩ := gd_inv h
      refine g_iald C k5 c47 (dk kL_isSo 132 rfl) ?_
      obtain ⟨c48, h⟩ := gd_inv h
      refine g_icmp_ne C (tgt := 235) (dk kL_isSo 133 rfl) (by decide) (fun q => absurd c48 q) (fun _ => ?_)
      refine g_iconst C (v := 1) (by decide) (dk kL_isSo 134 rfl) ?_
      refine g_goto C (tgt := 236) (dk kL_isSo 135 rfl) (by decide) ?_
      refine g_istore C (i := 7) (lv' := [(7, .int 1), (13, .int x43), (0, .ref (za Z v0)), (1, .ref (za Z v1)), (3, .ref (za Z v3)), (5, .ref (za Z v5)), (6, .ref (za Z v6)), (8, .int v8), (9, .int v9), (10, .int v10), (11, .int v11), (12, .int v12), (14, .int v14)]) (dk kL_isSo 137 rfl) (by decide) rfl ?_
      obtain ⟨x49, ex49, h⟩ := lt_inv h
      refine g_iinc C (i := 14) (v := x49) (lv' := [(14, .int x49), (7, .int 1), (13, .int x43), (0, .ref (za Z v0)), (1, .ref (za Z v1)), (3, .ref (za Z v3)), (5, .ref (za Z v5)), (6, .ref (za Z v6)), (8, .int v8), (9, .int v9), (10, .int v10), (11, .int v11), (12, .int v12)]) 12 (dk kL_isSo 138 rfl) rfl (by rw [ex49]; rfl) (by decide) rfl ?_
      refine g_goto C (tgt := 175) (dk kL_isSo 139 rfl) (by decide) ?_
      exact g_sub [3, 4, 5, 6, 7, 1, 8, 9, 10, 11, 12, 2, 0] rfl (ih 1 x43 x49 y h he)
set_option maxRecDepth 100000 in
set_option maxHeartbeats 4000000 in
theorem gl_L_isSo_144 {l : Launch} {Z : ZZ} {X : XX} (v0 : Nat) (v1 : Nat) (v3 : Nat) (v5 : Nat) (v6 : Nat) (v8 : Int32) (v9 : Int32) (v10 : Int32) (v11 : Int32) (k0 : (zk Z v0).1 = 5) (k1 : (zk Z v1).1 = 8) (k3 : (zk Z v3).1 = 8) (k5 : (zk Z v5).1 = 8) (k6 : (zk Z v6).1 = 8) (μ : Mm) (C : Cx l Z false X cL_isSo RL 15 (some .boolean)) (hl : l.stackTraces = false) (E : xR X = rmm 9 3 18) : ∀ (n : Nat) (v7 : Int32) (v12 : Int32) (y : Int32), f_L_isSo_l144 (zk Z) μ v0 v1 v3 v5 v6 v8 v9 v10 v11 n v7 v12 = some y → G Z X 15 0 0 371 [(0, .ref (za Z v0)), (1, .ref (za Z v1)), (3, .ref (za Z v3)), (6, .ref (za Z v6)), (7, .int y), (8, .int v8), (9, .int v9), (10, .int v10), (11, .int v11)] [] (μ) → G Z X 15 0 0 144 [(0, .ref (za Z v0)), (1, .ref (za Z v1)), (3, .ref (za Z v3)), (5, .ref (za Z v5)), (6, .ref (za Z v6)), (7, .int v7), (8, .int v8), (9, .int v9), (10, .int v10), (11, .int v11), (12, .int v12)] [] μ := by
  intro n
  induction n with
  | zero => intro v7 v12 y h he; unfold f_L_isSo_l144 at h; cases h
  | succ n ih =>
    intro v7 v12 y h he
    unfold f_L_isSo_l144 at h
    refine g_iload C (i := 12) 10 rfl (dk kL_isSo 82 rfl) ?_
    refine g_aload_n C (i := 1) 1 rfl rfl (dk kL_isSo 83 rfl) ?_
    refine g_bipush C (v := 8) (by decide) (dk kL_isSo 84 rfl) ?_
    obtain ⟨c36, h⟩ := gd_inv h
    refine g_iald C k1 c36 (dk kL_isSo 85 rfl) ?_
    refine g_icmp_ge C (tgt := 371) (dk kL_isSo 86 rfl) (by decide) (fun c37 => ?_) (fun c37 => ?_)
    · replace h := ite_t h c37
      cases h
      exact g_sub [0, 1, 2, 4, 5, 6, 7, 8, 9] rfl he
    · replace h := ite_f h c37
      refine g_iload C (i := 7) 5 rfl (dk kL_isSo 87 rfl) ?_
      obtain ⟨c38, h⟩ := gd_inv h
      refine g_if_eq C (tgt := 371) (dk kL_isSo 88 rfl) (by decide) (fun q => absurd q c38) (fun _ => ?_)
      refine g_iconst C (v := 1) (by decide) (dk kL_isSo 89 rfl) ?_
      refine g_aload C (i := 5) 3 rfl (dk kL_isSo 90 rfl) ?_
      refine g_bipush C (v := 10) (by decide) (dk kL_isSo 91 rfl) ?_
      refine g_iload C (i := 12) 10 rfl (dk kL_isSo 92 rfl) ?_
      refine g_imul C (dk kL_isSo 93 rfl) ?_
      obtain ⟨c39, h⟩ := gd_inv h
      refine g_iald C k5 c39 (dk kL_isSo 94 rfl) ?_
      refine g_ishl C (dk kL_isSo 95 rfl) ?_
      refine g_iconst C (v := 1) (by decide) (dk kL_isSo 96 rfl) ?_
      refine g_isub C (dk kL_isSo 97 rfl) ?_
      obtain ⟨x40, ex40, h⟩ := lt_inv h
      refine g_nmi ex40 ?_
      refine g_istore C (i := 13) (lv' := [(13, .int x40), (0, .ref (za Z v0)), (1, .ref (za Z v1)), (3, .ref (za Z v3)), (5, .ref (za Z v5)), (6, .ref (za Z v6)), (7, .int v7), (8, .int v8), (9, .int v9), (10, .int v10), (11, .int v11), (12, .int v12)]) (dk kL_isSo 98 rfl) (by decide) rfl ?_
      refine g_iconst C (v := 0) (by decide) (dk kL_isSo 99 rfl) ?_
      refine g_istore C (i := 14) (lv' := [(14, .int 0), (13, .int x40), (0, .ref (za Z v0)), (1, .ref (za Z v1)), (3, .ref (za Z v3)), (5, .ref (za Z v5)), (6, .ref (za Z v6)), (7, .int v7), (8, .int v8), (9, .int v9), (10, .int v10), (11, .int v11), (12, .int v12)]) (dk kL_isSo 100 rfl) (by decide) rfl ?_
      obtain ⟨q50, eq50, h⟩ := bd_inv h
      refine g_sub [2, 3, 4, 5, 6, 7, 8, 9, 10, 11, 12, 1, 0] (lv' := [(0, .ref (za Z v0)), (1, .ref (za Z v1)), (3, .ref (za Z v3)), (5, .ref (za Z v5)), (6, .ref (za Z v6)), (7, .int v7), (8, .int v8), (9, .int v9), (10, .int v10), (11, .int v11), (12, .int v12), (13, .int x40), (14, .int 0)]) rfl ?_
      refine gl_L_isSo_175 v0 v1 v3 v5 v6 v8 v9 v10 v11 v12 k0 k1 k3 k5 k6 μ C hl E FU v7 x40 0 _ eq50 ?_
      obtain ⟨x51, ex51, h⟩ := lt_inv h
      obtain ⟨x52, ex52, h⟩ := lt_inv h
      rw [← ex51, ← ex52]
      refine g_iload C (i := 7) 5 rfl (dk kL_isSo 140 rfl) ?_
      obtain ⟨c53, h⟩ := gd_inv h
      refine g_if_eq C (tgt := 362) (dk kL_isSo 141 rfl) (by decide) (fun q => absurd q c53) (fun _ => ?_)
      refine g_aload_n C (i := 0) 0 rfl rfl (dk kL_isSo 142 rfl) ?_
      refine g_iload C (i := 12) 10 rfl (dk kL_isSo 143 rfl) ?_
      refine g_iconst C (v := 0) (by decide) (dk kL_isSo 144 rfl) ?_
      obtain ⟨x55, eq54, h⟩ := bd_inv h
      refine g_callSW C E (rest := []) 3 (ct_L_labelOf k0 eq54) wd_4_12 mw_L_labelOf ⟨by decide, by decide, by decide⟩ rfl (by decide) rfl (Nat.le_of_ble_eq_true rfl) (by decide) (dk kL_isSo 145 rfl) ?_
      refine g_aload C (i := 5) 3 rfl (dk kL_isSo 146 rfl) ?_
      refine g_bipush C (v := 10) (by decide) (dk kL_isSo 147 rfl) ?_
      refine g_iload C (i := 12) 10 rfl (dk kL_isSo 148 rfl) ?_
      refine g_imul C (dk kL_isSo 149 rfl) ?_
      obtain ⟨c56, h⟩ := gd_inv h
      refine g_iald C k5 c56 (dk kL_isSo 150 rfl) ?_
      obtain ⟨c57, h⟩ := gd_inv h
      refine g_icmp_ne C (tgt := 362) (dk kL_isSo 151 rfl) (by decide) (fun q => absurd c57 q) (fun _ => ?_)
      refine g_aload_n C (i := 0) 0 rfl rfl (dk kL_isSo 152 rfl) ?_
      refine g_iload C (i := 12) 10 rfl (dk kL_isSo 153 rfl) ?_
      refine g_iconst C (v := 1) (by decide) (dk kL_isSo 154 rfl) ?_
      obtain ⟨x59, eq58, h⟩ := bd_inv h
      refine g_callSW C E (rest := []) 3 (ct_L_labelOf k0 eq58) wd_4_12 mw_L_labelOf ⟨by decide, by decide, by decide⟩ rfl (by decide) rfl (Nat.le_of_ble_eq_true rfl) (by decide) (dk kL_isSo 155 rfl) ?_
      refine g_aload C (i := 5) 3 rfl (dk kL_isSo 156 rfl) ?_
      refine g_bipush C (v := 10) (by decide) (dk kL_isSo 157 rfl) ?_
      refine g_iload C (i := 12) 10 rfl (dk kL_isSo 158 rfl) ?_
      refine g_imul C (dk kL_isSo 159 rfl) ?_
      refine g_iconst C (v := 1) (by decide) (dk kL_isSo 160 rfl) ?_
      refine g_iadd C (dk kL_isSo 161 rfl) ?_
      obtain ⟨c60, h⟩ := gd_inv h
      refine g_iald C k5 c60 (dk kL_isSo 162 rfl) ?_
      obtain ⟨c61, h⟩ := gd_inv h
      refine g_icmp_ne C (tgt := 362) (dk kL_isSo 163 rfl) (by decide) (fun q => absurd c61 q) (fun _ => ?_)
      refine g_aload_n C (i := 0) 0 rfl rfl (dk kL_isSo 164 rfl) ?_
      refine g_iload C (i := 12) 10 rfl (dk kL_isSo 165 rfl) ?_
      refine g_iconst C (v := 2) (by decide) (dk kL_isSo 166 rfl) ?_
      obtain ⟨x63, eq62, h⟩ := bd_inv h
      refine g_callSW C E (rest := []) 3 (ct_L_labelOf k0 eq62) wd_4_12 mw_L_labelOf ⟨by decide, by decide, by decide⟩ rfl (by decide) rfl (Nat.le_of_ble_eq_true rfl) (by decide) (dk kL_isSo 167 rfl) ?_
      refine g_aload C (i := 5) 3 rfl (dk kL_isSo 168 rfl) ?_
      refine g_iload C (i := 12) 10 rfl (dk kL_isSo 169 rfl) ?_
      obtain ⟨x65, eq64, h⟩ := bd_inv h
      refine g_callS C E (rest := [.int x63]) 2 (ct_L_blacks k5 eq64) wd_3_174 mm_L_blacks ⟨by decide, by decide, by decide⟩ rfl (by decide) rfl (Nat.le_of_ble_eq_true rfl) (by decide) (dk kL_isSo 170 rfl) ?_
      obtain ⟨c66, h⟩ := gd_inv h
      refine g_icmp_ne C (tgt := 362) (dk kL_isSo 171 rfl) (by decide) (fun q => absurd c66 q) (fun _ => ?_)
      refine g_aload_n C (i := 0) 0 rfl rfl (dk kL_isSo 172 rfl) ?_
      refine g_iload C (i := 12) 10 rfl (dk kL_isSo 173 rfl) ?_
      refine g_iconst C (v := 3) (by decide) (dk kL_isSo 174 rfl) ?_
      obtain ⟨x68, eq67, h⟩ := bd_inv h
      refine g_callSW C E (rest := []) 3 (ct_L_labelOf k0 eq67) wd_4_12 mw_L_labelOf ⟨by decide, by decide, by decide⟩ rfl (by decide) rfl (Nat.le_of_ble_eq_true rfl) (by decide) (dk kL_isSo 175 rfl) ?_
      refine g_aload C (i := 5) 3 rfl (dk kL_isSo 176 rfl) ?_
      refine g_bipush C (v := 10) (by decide) (dk kL_isSo 177 rfl) ?_
      refine g_iload C (i := 12) 10 rfl (dk kL_isSo 178 rfl) ?_
      refine g_imul C (dk kL_isSo 179 rfl) ?_
      refine g_bipush C (v := 8) (by decide) (dk kL_isSo 180 rfl) ?_
      refine g_iadd C (dk kL_isSo 181 rfl) ?_
      obtain ⟨c69, h⟩ := gd_inv h
      refine g_iald C k5 c69 (dk kL_isSo 182 rfl) ?_
      obtain ⟨c70, h⟩ := gd_inv h
      refine g_icmp_ne C (tgt := 362) (dk kL_isSo 183 rfl) (by decide) (fun q => absurd c70 q) (fun _ => ?_)
      refine g_aload_n C (i := 0) 0 rfl rfl (dk kL_isSo 184 rfl) ?_
      refine g_iload C (i := 12) 10 rfl (dk kL_isSo 185 rfl) ?_
      refine g_iconst C (v := 4) (by decide) (dk kL_isSo 186 rfl) ?_
      obtain ⟨x72, eq71, h⟩ := bd_inv h
      refine g_callSW C E (rest := []) 3 (ct_L_labelOf k0 eq71) wd_4_12 mw_L_labelOf ⟨by decide, by decide, by decide⟩ rfl (by decide) rfl (Nat.le_of_ble_eq_true rfl) (by decide) (dk kL_isSo 187 rfl) ?_
      refine g_aload C (i := 5) 3 rfl (dk kL_isSo 188 rfl) ?_
      refine g_bipush C (v := 10) (by decide) (dk kL_isSo 189 rfl) ?_
      refine g_iload C (i := 12) 10 rfl (dk kL_isSo 190 rfl) ?_
      refine g_imul C (dk kL_isSo 191 rfl) ?_
      refine g_bipush C (v := 9) (by decide) (dk kL_isSo 192 rfl) ?_
      refine g_iadd C (dk kL_isSo 193 rfl) ?_
      obtain ⟨c73, h⟩ := gd_inv h
      refine g_iald C k5 c73 (dk kL_isSo 194 rfl) ?_
      obtain ⟨c74, h⟩ := gd_inv h
      refine g_icmp_ne C (tgt := 362) (dk kL_isSo 195 rfl) (by decide) (fun q => absurd c74 q) (fun _ => ?_)
      refine g_aload_n C (i := 0) 0 rfl rfl (dk kL_isSo 196 rfl) ?_
      refine g_iload C (i := 12) 10 rfl (dk kL_isSo 197 rfl) ?_
      refine g_iconst C (v := 5) (by decide) (dk kL_isSo 198 rfl) ?_
      obtain ⟨x76, eq75, h⟩ := bd_inv h
      refine g_callSW C E (rest := []) 3 (ct_L_labelOf k0 eq75) wd_4_12 mw_L_labelOf ⟨by decide, by decide, by decide⟩ rfl (by decide) rfl (Nat.le_of_ble_eq_true rfl) (by decide) (dk kL_isSo 199 rfl) ?_
      refine g_iload C (i := 13) 11 rfl (dk kL_isSo 200 rfl) ?_
      obtain ⟨c77, h⟩ := gd_inv h
      refine g_icmp_ne C (tgt := 362) (dk kL_isSo 201 rfl) (by decide) (fun q => absurd c77 q) (fun _ => ?_)
      refine g_iconst C (v := 1) (by decide) (dk kL_isSo 202 rfl) ?_
      refine g_goto C (tgt := 363) (dk kL_isSo 203 rfl) (by decide) ?_
      refine g_istore C (i := 7) (lv' := [(7, .int 1), (0, .ref (za Z v0)), (1, .ref (za Z v1)), (3, .ref (za Z v3)), (5, .ref (za Z v5)), (6, .ref (za Z v6)), (8, .int v8), (9, .int v9), (10, .int v10), (11, .int v11), (12, .int v12), (13, .int x52)]) (dk kL_isSo 205 rfl) (by decide) rfl ?_
      obtain ⟨x78, ex78, h⟩ := lt_inv h
      refine g_iinc C (i := 12) (v := x78) (lv' := [(12, .int x78), (7, .int 1), (0, .ref (za Z v0)), (1, .ref (za Z v1)), (3, .ref (za Z v3)), (5, .ref (za Z v5)), (6, .ref (za Z v6)), (8, .int v8), (9, .int v9), (10, .int v10), (11, .int v11), (13, .int x52)]) 10 (dk kL_isSo 206 rfl) rfl (by rw [ex78]; rfl) (by decide) rfl ?_
      refine g_goto C (tgt := 144) (dk kL_isSo 207 rfl) (by decide) ?_
      exact g_sub [2, 3, 4, 5, 6, 1, 7, 8, 9, 10, 0] rfl (ih 1 x78 y h he)
set_option maxRecDepth 100000 in
set_option maxHeartbeats 4000000 in
theorem gl_L_isSo_432 {l : Launch} {Z : ZZ} {X : XX} (v0 : Nat) (v1 : Nat) (v3 : Nat) (v6 : Nat) (v8 : Int32) (v9 : Int32) (v10 : Int32) (v11 : Int32) (v12 : Int32) (k0 : (zk Z v0).1 = 5) (k1 : (zk Z v1).1 = 8) (k3 : (zk Z v3).1 = 8) (k6 : (zk Z v6).1 = 8) (μ : Mm) (C : Cx l Z false X cL_isSo RL 15 (some .boolean)) (hl : l.stackTraces = false) (E : xR X = rmm 9 3 18) : ∀ (n : Nat) (v7 : Int32) (v13 : Int32) (y : Int32), f_L_isSo_l432 (zk Z) μ v0 v1 v3 v6 v8 v9 v10 v11 v12 n v7 v13 = some y → G Z X 15 0 0 479 [(0, .ref (za Z v0)), (1, .ref (za Z v1)), (3, .ref (za Z v3)), (6, .ref (za Z v6)), (7, .int y), (8, .int v8), (9, .int v9), (10, .int v10), (11, .int v11), (12, .int v12)] [] (μ) → G Z X 15 0 0 432 [(0, .ref (za Z v0)), (1, .ref (za Z v1)), (3, .ref (za Z v3)), (6, .ref (za Z v6)), (7, .int v7), (8, .int v8), (9, .int v9), (10, .int v10), (11, .int v11), (12, .int v12), (13, .int v13)] [] μ := by
  intro n
  induction n with
  | zero => intro v7 v13 y h he; unfold f_L_isSo_l432 at h; cases h
  | succ n ih =>
    intro v7 v13 y h he
    unfold f_L_isSo_l432 at h
    refine g_iload C (i := 13) 10 rfl (dk kL_isSo 247 rfl) ?_
    refine g_bipush C (v := 6) (by decide) (dk kL_isSo 248 rfl) ?_
    refine g_icmp_ge C (tgt := 479) (dk kL_isSo 249 rfl) (by decide) (fun c89 => ?_) (fun c89 => ?_)
    · replace h := ite_t h c89
      cases h
      exact g_sub [0, 1, 2, 3, 4, 5, 6, 7, 8, 9] rfl he
    · replace h := ite_f h c89
      refine g_iload C (i := 7) 4 rfl (dk kL_isSo 250 rfl) ?_
      obtain ⟨c90, h⟩ := gd_inv h
      refine g_if_eq C (tgt := 470) (dk kL_isSo 251 rfl) (by decide) (fun q => absurd q c90) (fun _ => ?_)
      refine g_aload_n C (i := 0) 0 rfl rfl (dk kL_isSo 252 rfl) ?_
      refine g_iload C (i := 12) 9 rfl (dk kL_isSo 253 rfl) ?_
      refine g_iload C (i := 13) 10 rfl (dk kL_isSo 254 rfl) ?_
      obtain ⟨x92, eq91, h⟩ := bd_inv h
      refine g_callSW C E (rest := []) 3 (ct_L_customerOf k0 eq91) wd_4_29 mw_L_customerOf ⟨by decide, by decide, by decide⟩ rfl (by decide) rfl (Nat.le_of_ble_eq_true rfl) (by decide) (dk kL_isSo 255 rfl) ?_
      refine g_aload C (i := 6) 3 rfl (dk kL_isSo 256 rfl) ?_
      refine g_bipush C (v := 6) (by decide) (dk kL_isSo 257 rfl) ?_
      refine g_iload C (i := 12) 9 rfl (dk kL_isSo 258 rfl) ?_
      refine g_imul C (dk kL_isSo 259 rfl) ?_
      refine g_iload C (i := 13) 10 rfl (dk kL_isSo 260 rfl) ?_
      refine g_iadd C (dk kL_isSo 261 rfl) ?_
      obtain ⟨c93, h⟩ := gd_inv h
      refine g_iald C k6 c93 (dk kL_isSo 262 rfl) ?_
      obtain ⟨c94, h⟩ := gd_inv h
      refine g_icmp_ne C (tgt := 470) (dk kL_isSo 263 rfl) (by decide) (fun q => absurd c94 q) (fun _ => ?_)
      refine g_iconst C (v := 1) (by decide) (dk kL_isSo 264 rfl) ?_
      refine g_goto C (tgt := 471) (dk kL_isSo 265 rfl) (by decide) ?_
      refine g_istore C (i := 7) (lv' := [(7, .int 1), (0, .ref (za Z v0)), (1, .ref (za Z v1)), (3, .ref (za Z v3)), (6, .ref (za Z v6)), (8, .int v8), (9, .int v9), (10, .int v10), (11, .int v11), (12, .int v12), (13, .int v13)]) (dk kL_isSo 267 rfl) (by decide) rfl ?_
      obtain ⟨x95, ex95, h⟩ := lt_inv h
      refine g_iinc C (i := 13) (v := x95) (lv' := [(13, .int x95), (7, .int 1), (0, .ref (za Z v0)), (1, .ref (za Z v1)), (3, .ref (za Z v3)), (6, .ref (za Z v6)), (8, .int v8), (9, .int v9), (10, .int v10), (11, .int v11), (12, .int v12)]) 10 (dk kL_isSo 268 rfl) rfl (by rw [ex95]; rfl) (by decide) rfl ?_
      refine g_goto C (tgt := 432) (dk kL_isSo 269 rfl) (by decide) ?_
      exact g_sub [2, 3, 4, 5, 1, 6, 7, 8, 9, 10, 0] rfl (ih 1 x95 y h he)
set_option maxRecDepth 100000 in
set_option maxHeartbeats 4000000 in
theorem gl_L_isSo_374 {l : Launch} {Z : ZZ} {X : XX} (v0 : Nat) (v1 : Nat) (v3 : Nat) (v6 : Nat) (v8 : Int32) (v9 : Int32) (k0 : (zk Z v0).1 = 5) (k1 : (zk Z v1).1 = 8) (k3 : (zk Z v3).1 = 8) (k6 : (zk Z v6).1 = 8) (μ : Mm) (C : Cx l Z false X cL_isSo RL 15 (some .boolean)) (hl : l.stackTraces = false) (E : xR X = rmm 9 3 18) : ∀ (n : Nat) (v7 : Int32) (v10 : Int32) (v11 : Int32) (v12 : Int32) (y : Int32 × Int32 × Int32), f_L_isSo_l374 (zk Z) μ v0 v1 v3 v6 v8 v9 n v7 v10 v11 v12 = some y → G Z X 15 0 0 485 [(0, .ref (za Z v0)), (1, .ref (za Z v1)), (3, .ref (za Z v3)), (6, .ref (za Z v6)), (7, .int y.1), (8, .int v8), (9, .int v9), (10, .int y.2.1), (11, .int y.2.2)] [] (μ) → G Z X 15 0 0 374 [(0, .ref (za Z v0)), (1, .ref (za Z v1)), (3, .ref (za Z v3)), (6, .ref (za Z v6)), (7, .int v7), (8, .int v8), (9, .int v9), (10, .int v10), (11, .int v11), (12, .int v12)] [] μ := by
  intro n
  induction n with
  | zero => intro v7 v10 v11 v12 y h he; unfold f_L_isSo_l374 at h; cases h
  | succ n ih =>
    intro v7 v10 v11 v12 y h he
    unfold f_L_isSo_l374 at h
    refine g_iload C (i := 12) 9 rfl (dk kL_isSo 210 rfl) ?_
    refine g_aload_n C (i := 1) 1 rfl rfl (dk kL_isSo 211 rfl) ?_
    refine g_bipush C (v := 9) (by decide) (dk kL_isSo 212 rfl) ?_
    obtain ⟨c81, h⟩ := gd_inv h
    refine g_iald C k1 c81 (dk kL_isSo 213 rfl) ?_
    refine g_icmp_ge C (tgt := 485) (dk kL_isSo 214 rfl) (by decide) (fun c82 => ?_) (fun c82 => ?_)
    · replace h := ite_t h c82
      cases h
      exact g_sub [0, 1, 2, 3, 4, 5, 6, 7, 8] rfl he
    · replace h := ite_f h c82
      refine g_iload C (i := 7) 4 rfl (dk kL_isSo 215 rfl) ?_
      obtain ⟨c83, h⟩ := gd_inv h
      refine g_if_eq C (tgt := 485) (dk kL_isSo 216 rfl) (by decide) (fun q => absurd q c83) (fun _ => ?_)
      refine g_iload C (i := 10) 7 rfl (dk kL_isSo 217 rfl) ?_
      refine g_aload C (i := 6) 3 rfl (dk kL_isSo 218 rfl) ?_
      refine g_bipush C (v := 6) (by decide) (dk kL_isSo 219 rfl) ?_
      refine g_iload C (i := 12) 9 rfl (dk kL_isSo 220 rfl) ?_
      refine g_imul C (dk kL_isSo 221 rfl) ?_
      refine g_iconst C (v := 2) (by decide) (dk kL_isSo 222 rfl) ?_
      refine g_iadd C (dk kL_isSo 223 rfl) ?_
      obtain ⟨c84, h⟩ := gd_inv h
      refine g_iald C k6 c84 (dk kL_isSo 224 rfl) ?_
      refine g_aload C (i := 6) 3 rfl (dk kL_isSo 225 rfl) ?_
      refine g_bipush C (v := 6) (by decide) (dk kL_isSo 226 rfl) ?_
      refine g_iload C (i := 12) 9 rfl (dk kL_isSo 227 rfl) ?_
      refine g_imul C (dk kL_isSo 228 rfl) ?_
      refine g_iconst C (v := 3) (by decide) (dk kL_isSo 229 rfl) ?_
      refine g_iadd C (dk kL_isSo 230 rfl) ?_
      obtain ⟨c85, h⟩ := gd_inv h
      refine g_iald C k6 c85 (dk kL_isSo 231 rfl) ?_
      refine g_isub C (dk kL_isSo 232 rfl) ?_
      refine g_iadd C (dk kL_isSo 233 rfl) ?_
      obtain ⟨x86, ex86, h⟩ := lt_inv h
      refine g_nmi ex86 ?_
      refine g_istore C (i := 10) (lv' := [(10, .int x86), (0, .ref (za Z v0)), (1, .ref (za Z v1)), (3, .ref (za Z v3)), (6, .ref (za Z v6)), (7, .int v7), (8, .int v8), (9, .int v9), (11, .int v11), (12, .int v12)]) (dk kL_isSo 234 rfl) (by decide) rfl ?_
      refine g_iload C (i := 11) 8 rfl (dk kL_isSo 235 rfl) ?_
      refine g_aload C (i := 6) 4 rfl (dk kL_isSo 236 rfl) ?_
      refine g_bipush C (v := 6) (by decide) (dk kL_isSo 237 rfl) ?_
      refine g_iload C (i := 12) 9 rfl (dk kL_isSo 238 rfl) ?_
      refine g_imul C (dk kL_isSo 239 rfl) ?_
      refine g_iconst C (v := 4) (by decide) (dk kL_isSo 240 rfl) ?_
      refine g_iadd C (dk kL_isSo 241 rfl) ?_
      obtain ⟨c87, h⟩ := gd_inv h
      refine g_iald C k6 c87 (dk kL_isSo 242 rfl) ?_
      refine g_iadd C (dk kL_isSo 243 rfl) ?_
      obtain ⟨x88, ex88, h⟩ := lt_inv h
      refine g_nmi ex88 ?_
      refine g_istore C (i := 11) (lv' := [(11, .int x88), (10, .int x86), (0, .ref (za Z v0)), (1, .ref (za Z v1)), (3, .ref (za Z v3)), (6, .ref (za Z v6)), (7, .int v7), (8, .int v8), (9, .int v9), (12, .int v12)]) (dk kL_isSo 244 rfl) (by decide) rfl ?_
      refine g_iconst C (v := 0) (by decide) (dk kL_isSo 245 rfl) ?_
      refine g_istore C (i := 13) (lv' := [(13, .int 0), (11, .int x88), (10, .int x86), (0, .ref (za Z v0)), (1, .ref (za Z v1)), (3, .ref (za Z v3)), (6, .ref (za Z v6)), (7, .int v7), (8, .int v8), (9, .int v9), (12, .int v12)]) (dk kL_isSo 246 rfl) (by decide) rfl ?_
      obtain ⟨q96, eq96, h⟩ := bd_inv h
      refine g_sub [3, 4, 5, 6, 7, 8, 9, 2, 1, 10, 0] (lv' := [(0, .ref (za Z v0)), (1, .ref (za Z v1)), (3, .ref (za Z v3)), (6, .ref (za Z v6)), (7, .int v7), (8, .int v8), (9, .int v9), (10, .int x86), (11, .int x88), (12, .int v12), (13, .int 0)]) rfl ?_
      refine gl_L_isSo_432 v0 v1 v3 v6 v8 v9 x86 x88 v12 k0 k1 k3 k6 μ C hl E FU v7 0 _ eq96 ?_
      obtain ⟨x97, ex97, h⟩ := lt_inv h
      rw [← ex97]
      obtain ⟨x98, ex98, h⟩ := lt_inv h
      refine g_iinc C (i := 12) (v := x98) (lv' := [(12, .int x98), (0, .ref (za Z v0)), (1, .ref (za Z v1)), (3, .ref (za Z v3)), (6, .ref (za Z v6)), (7, .int x97), (8, .int v8), (9, .int v9), (10, .int x86), (11, .int x88)]) 9 (dk kL_isSo 270 rfl) rfl (by rw [ex98]; rfl) (by decide) rfl ?_
      refine g_goto C (tgt := 374) (dk kL_isSo 271 rfl) (by decide) ?_
      exact g_sub [1, 2, 3, 4, 5, 6, 7, 8, 9, 0] rfl (ih x97 x86 x88 x98 y h he)
set_option maxRecDepth 100000 in
set_option maxHeartbeats 4000000 in
theorem gl_L_isSo_491 {l : Launch} {Z : ZZ} {X : XX} (v0 : Nat) (v1 : Nat) (v3 : Nat) (v6 : Nat) (v7 : Int32) (v8 : Int32) (v9 : Int32) (v10 : Int32) (v11 : Int32) (k0 : (zk Z v0).1 = 5) (k1 : (zk Z v1).1 = 8) (k3 : (zk Z v3).1 = 8) (k6 : (zk Z v6).1 = 8) (μ : Mm) (C : Cx l Z false X cL_isSo RL 15 (some .boolean)) (hl : l.stackTraces = false) (E : xR X = rmm 9 3 18) : ∀ (n : Nat) (v12 : Int32) (v13 : Int32) (y : Int32), f_L_isSo_l491 (zk Z) μ v0 v1 v3 v6 v7 v8 v9 v10 v11 n v12 v13 = some y → G Z X 15 0 0 525 [(0, .ref (za Z v0)), (1, .ref (za Z v1)), (6, .ref (za Z v6)), (7, .int v7), (8, .int v8), (9, .int v9), (10, .int v10), (11, .int v11), (12, .int y)] [] (μ) → G Z X 15 0 0 491 [(0, .ref (za Z v0)), (1, .ref (za Z v1)), (3, .ref (za Z v3)), (6, .ref (za Z v6)), (7, .int v7), (8, .int v8), (9, .int v9), (10, .int v10), (11, .int v11), (12, .int v12), (13, .int v13)] [] μ := by
  intro n
  induction n with
  | zero => intro v12 v13 y h he; unfold f_L_isSo_l491 at h; cases h
  | succ n ih =>
    intro v12 v13 y h he
    unfold f_L_isSo_l491 at h
    refine g_iload C (i := 13) 10 rfl (dk kL_isSo 276 rfl) ?_
    refine g_aload_n C (i := 1) 1 rfl rfl (dk kL_isSo 277 rfl) ?_
    refine g_iconst C (v := 0) (by decide) (dk kL_isSo 278 rfl) ?_
    obtain ⟨c103, h⟩ := gd_inv h
    refine g_iald C k1 c103 (dk kL_isSo 279 rfl) ?_
    refine g_icmp_ge C (tgt := 525) (dk kL_isSo 280 rfl) (by decide) (fun c104 => ?_) (fun c104 => ?_)
    · replace h := ite_t h c104
      cases h
      exact g_sub [0, 1, 3, 4, 5, 6, 7, 8, 9] rfl he
    · replace h := ite_f h c104
      refine g_aload_n C (i := 3) 2 rfl rfl (dk kL_isSo 281 rfl) ?_
      refine g_iload C (i := 13) 10 rfl (dk kL_isSo 282 rfl) ?_
      obtain ⟨c105, h⟩ := gd_inv h
      refine g_iald C k3 c105 (dk kL_isSo 283 rfl) ?_
      refine g_aload_n C (i := 3) 2 rfl rfl (dk kL_isSo 284 rfl) ?_
      refine g_iload C (i := 12) 9 rfl (dk kL_isSo 285 rfl) ?_
      obtain ⟨c106, h⟩ := gd_inv h
      refine g_iald C k3 c106 (dk kL_isSo 286 rfl) ?_
      obtain ⟨x107, ex107, h⟩ := lt_inv h
      have kj108 : G Z X 15 0 0 517 [(0, .ref (za Z v0)), (1, .ref (za Z v1)), (3, .ref (za Z v3)), (6, .ref (za Z v6)), (7, .int v7), (8, .int v8), (9, .int v9), (10, .int v10), (11, .int v11), (12, .int v12), (13, .int v13)] [.int x107] μ := by
        refine g_istore C (i := 12) (lv' := [(12, .int x107), (0, .ref (za Z v0)), (1, .ref (za Z v1)), (3, .ref (za Z v3)), (6, .ref (za Z v6)), (7, .int v7), (8, .int v8), (9, .int v9), (10, .int v10), (11, .int v11), (13, .int v13)]) (dk kL_isSo 291 rfl) (by decide) rfl ?_
        obtain ⟨x109, ex109, h⟩ := lt_inv h
        refine g_iinc C (i := 13) (v := x109) (lv' := [(13, .int x109), (12, .int x107), (0, .ref (za Z v0)), (1, .ref (za Z v1)), (3, .ref (za Z v3)), (6, .ref (za Z v6)), (7, .int v7), (8, .int v8), (9, .int v9), (10, .int v10), (11, .int v11)]) 10 (dk kL_isSo 292 rfl) rfl (by rw [ex109]; rfl) (by decide) rfl ?_
        refine g_goto C (tgt := 491) (dk kL_isSo 293 rfl) (by decide) ?_
        exact g_sub [2, 3, 4, 5, 6, 7, 8, 9, 10, 1, 0] rfl (ih x107 x109 y h he)
      clear h
      refine g_icmp_le C (tgt := 515) (dk kL_isSo 287 rfl) (by decide) (fun c110 => ?_) (fun c110 => ?_)
      · refine g_iload C (i := 12) 9 rfl (dk kL_isSo 290 rfl) ?_
        exact g_nmi (by rw [ex107, if_pos c110]) kj108
      · refine g_iload C (i := 13) 10 rfl (dk kL_isSo 288 rfl) ?_
        refine g_goto C (tgt := 517) (dk kL_isSo 289 rfl) (by decide) ?_
        exact g_nmi (by rw [ex107, if_neg c110]) kj108
set_option maxRecDepth 100000 in
set_option maxHeartbeats 4000000 in
theorem gl_L_isSo_528 {l : Launch} {Z : ZZ} {X : XX} (v0 : Nat) (v1 : Nat) (v6 : Nat) (v8 : Int32) (v9 : Int32) (v10 : Int32) (v11 : Int32) (v12 : Int32) (k0 : (zk Z v0).1 = 5) (k1 : (zk Z v1).1 = 8) (k6 : (zk Z v6).1 = 8) (μ : Mm) (C : Cx l Z false X cL_isSo RL 15 (some .boolean)) (hl : l.stackTraces = false) (E : xR X = rmm 9 3 18) : ∀ (n : Nat) (v7 : Int32) (v13 : Int32) (y : Int32), f_L_isSo_l528 (zk Z) μ v0 v1 v6 v8 v9 v10 v11 v12 n v7 v13 = some y → G Z X 15 0 0 566 [(0, .ref (za Z v0)), (1, .ref (za Z v1)), (6, .ref (za Z v6)), (7, .int y), (8, .int v8), (9, .int v9), (10, .int v10), (11, .int v11), (12, .int v12)] [] (μ) → G Z X 15 0 0 528 [(0, .ref (za Z v0)), (1, .ref (za Z v1)), (6, .ref (za Z v6)), (7, .int v7), (8, .int v8), (9, .int v9), (10, .int v10), (11, .int v11), (12, .int v12), (13, .int v13)] [] μ := by
  intro n
  induction n with
  | zero => intro v7 v13 y h he; unfold f_L_isSo_l528 at h; cases h
  | succ n ih =>
    intro v7 v13 y h he
    unfold f_L_isSo_l528 at h
    refine g_iload C (i := 13) 9 rfl (dk kL_isSo 296 rfl) ?_
    refine g_bipush C (v := 10) (by decide) (dk kL_isSo 297 rfl) ?_
    refine g_icmp_ge C (tgt := 566) (dk kL_isSo 298 rfl) (by decide) (fun c113 => ?_) (fun c113 => ?_)
    · replace h := ite_t h c113
      cases h
      exact g_sub [0, 1, 2, 3, 4, 5, 6, 7, 8] rfl he
    · replace h := ite_f h c113
      refine g_iload C (i := 7) 3 rfl (dk kL_isSo 299 rfl) ?_
      obtain ⟨c114, h⟩ := gd_inv h
      refine g_if_eq C (tgt := 557) (dk kL_isSo 300 rfl) (by decide) (fun q => absurd q c114) (fun _ => ?_)
      refine g_aload_n C (i := 0) 0 rfl rfl (dk kL_isSo 301 rfl) ?_
      refine g_iload C (i := 13) 9 rfl (dk kL_isSo 302 rfl) ?_
      obtain ⟨x116, eq115, h⟩ := bd_inv h
      refine g_callSW C E (rest := []) 2 (ct_L_wholeOf k0 eq115) wd_3_215 mw_L_wholeOf ⟨by decide, by decide, by decide⟩ rfl (by decide) rfl (Nat.le_of_ble_eq_true rfl) (by decide) (dk kL_isSo 303 rfl) ?_
      refine g_aload_n C (i := 1) 1 rfl rfl (dk kL_isSo 304 rfl) ?_
      refine g_iload C (i := 13) 9 rfl (dk kL_isSo 305 rfl) ?_
      obtain ⟨c117, h⟩ := gd_inv h
      refine g_iald C k1 c117 (dk kL_isSo 306 rfl) ?_
      obtain ⟨c118, h⟩ := gd_inv h
      refine g_icmp_ne C (tgt := 557) (dk kL_isSo 307 rfl) (by decide) (fun q => absurd c118 q) (fun _ => ?_)
      refine g_iconst C (v := 1) (by decide) (dk kL_isSo 308 rfl) ?_
      refine g_goto C (tgt := 558) (dk kL_isSo 309 rfl) (by decide) ?_
      refine g_istore C (i := 7) (lv' := [(7, .int 1), (0, .ref (za Z v0)), (1, .ref (za Z v1)), (6, .ref (za Z v6)), (8, .int v8), (9, .int v9), (10, .int v10), (11, .int v11), (12, .int v12), (13, .int v13)]) (dk kL_isSo 311 rfl) (by decide) rfl ?_
      obtain ⟨x119, ex119, h⟩ := lt_inv h
      refine g_iinc C (i := 13) (v := x119) (lv' := [(13, .int x119), (7, .int 1), (0, .ref (za Z v0)), (1, .ref (za Z v1)), (6, .ref (za Z v6)), (8, .int v8), (9, .int v9), (10, .int v10), (11, .int v11), (12, .int v12)]) 9 (dk kL_isSo 312 rfl) rfl (by rw [ex119]; rfl) (by decide) rfl ?_
      refine g_goto C (tgt := 528) (dk kL_isSo 313 rfl) (by decide) ?_
      exact g_sub [2, 3, 4, 1, 5, 6, 7, 8, 9, 0] rfl (ih 1 x119 y h he)
set_option maxRecDepth 100000 in
set_option maxHeartbeats 4000000 in
theorem t_L_isSo {l : Launch} {Z : ZZ} {X : XX} (μ : Mm) (a0 : Nat) (a1 : Nat) (a2 : Nat) (a3 : Nat) (a4 : Nat) (a5 : Nat) (a6 : Nat) (r : Int32) (k0 : (zk Z a0).1 = 5) (k1 : (zk Z a1).1 = 8) (k2 : (zk Z a2).1 = 8) (k3 : (zk Z a3).1 = 8) (k4 : (zk Z a4).1 = 8) (k5 : (zk Z a5).1 = 8) (k6 : (zk Z a6).1 = 8) (h : f_L_isSo (zk Z) μ a0 a1 a2 a3 a4 a5 a6 = some r) (C : Cx l Z false X cL_isSo RL 15 (some .boolean)) (hl : l.stackTraces = false) (E : Ex Z X 9 3 18 (some (.int r)) Z μ) : G Z X 15 0 0 0 [(0, .ref (za Z a0)), (1, .ref (za Z a1)), (2, .ref (za Z a2)), (3, .ref (za Z a3)), (4, .ref (za Z a4)), (5, .ref (za Z a5)), (6, .ref (za Z a6))] [] μ := by
  unfold f_L_isSo at h
  refine g_iconst C (v := 1) (by decide) (dk kL_isSo 0 rfl) ?_
  refine g_istore C (i := 7) (lv' := [(7, .int 1), (0, .ref (za Z a0)), (1, .ref (za Z a1)), (2, .ref (za Z a2)), (3, .ref (za Z a3)), (4, .ref (za Z a4)), (5, .ref (za Z a5)), (6, .ref (za Z a6))]) (dk kL_isSo 1 rfl) (by decide) rfl ?_
  refine g_iconst C (v := 0) (by decide) (dk kL_isSo 2 rfl) ?_
  refine g_istore C (i := 8) (lv' := [(8, .int 0), (7, .int 1), (0, .ref (za Z a0)), (1, .ref (za Z a1)), (2, .ref (za Z a2)), (3, .ref (za Z a3)), (4, .ref (za Z a4)), (5, .ref (za Z a5)), (6, .ref (za Z a6))]) (dk kL_isSo 3 rfl) (by decide) rfl ?_
  refine g_iconst C (v := 0) (by decide) (dk kL_isSo 4 rfl) ?_
  refine g_istore C (i := 9) (lv' := [(9, .int 0), (8, .int 0), (7, .int 1), (0, .ref (za Z a0)), (1, .ref (za Z a1)), (2, .ref (za Z a2)), (3, .ref (za Z a3)), (4, .ref (za Z a4)), (5, .ref (za Z a5)), (6, .ref (za Z a6))]) (dk kL_isSo 5 rfl) (by decide) rfl ?_
  refine g_iconst C (v := 0) (by decide) (dk kL_isSo 6 rfl) ?_
  refine g_istore C (i := 10) (lv' := [(10, .int 0), (9, .int 0), (8, .int 0), (7, .int 1), (0, .ref (za Z a0)), (1, .ref (za Z a1)), (2, .ref (za Z a2)), (3, .ref (za Z a3)), (4, .ref (za Z a4)), (5, .ref (za Z a5)), (6, .ref (za Z a6))]) (dk kL_isSo 7 rfl) (by decide) rfl ?_
  refine g_iconst C (v := 0) (by decide) (dk kL_isSo 8 rfl) ?_
  refine g_istore C (i := 11) (lv' := [(11, .int 0), (10, .int 0), (9, .int 0), (8, .int 0), (7, .int 1), (0, .ref (za Z a0)), (1, .ref (za Z a1)), (2, .ref (za Z a2)), (3, .ref (za Z a3)), (4, .ref (za Z a4)), (5, .ref (za Z a5)), (6, .ref (za Z a6))]) (dk kL_isSo 9 rfl) (by decide) rfl ?_
  refine g_iconst C (v := 0) (by decide) (dk kL_isSo 10 rfl) ?_
  refine g_istore C (i := 12) (lv' := [(12, .int 0), (11, .int 0), (10, .int 0), (9, .int 0), (8, .int 0), (7, .int 1), (0, .ref (za Z a0)), (1, .ref (za Z a1)), (2, .ref (za Z a2)), (3, .ref (za Z a3)), (4, .ref (za Z a4)), (5, .ref (za Z a5)), (6, .ref (za Z a6))]) (dk kL_isSo 11 rfl) (by decide) rfl ?_
  obtain ⟨q32, eq32, h⟩ := bd_inv h
  refine g_sub [6, 7, 8, 9, 10, 11, 12, 5, 4, 3, 2, 1, 0] (lv' := [(0, .ref (za Z a0)), (1, .ref (za Z a1)), (2, .ref (za Z a2)), (3, .ref (za Z a3)), (4, .ref (za Z a4)), (5, .ref (za Z a5)), (6, .ref (za Z a6)), (7, .int 1), (8, .int 0), (9, .int 0), (10, .int 0), (11, .int 0), (12, .int 0)]) rfl ?_
  refine gl_L_isSo_18 a0 a1 a2 a3 a4 a5 a6 0 0 k0 k1 k2 k3 k4 k5 k6 μ C hl E.2 FU 1 0 0 0 _ eq32 ?_
  obtain ⟨x33, ex33, h⟩ := lt_inv h
  obtain ⟨x34, ex34, h⟩ := lt_inv h
  obtain ⟨x35, ex35, h⟩ := lt_inv h
  rw [← ex33, ← ex34, ← ex35]
  refine g_iconst C (v := 0) (by decide) (dk kL_isSo 80 rfl) ?_
  refine g_istore C (i := 12) (lv' := [(12, .int 0), (0, .ref (za Z a0)), (1, .ref (za Z a1)), (3, .ref (za Z a3)), (5, .ref (za Z a5)), (6, .ref (za Z a6)), (7, .int x33), (8, .int x34), (9, .int x35), (10, .int 0), (11, .int 0)]) (dk kL_isSo 81 rfl) (by decide) rfl ?_
  obtain ⟨q79, eq79, h⟩ := bd_inv h
  refine g_sub [1, 2, 3, 4, 5, 6, 7, 8, 9, 10, 0] (lv' := [(0, .ref (za Z a0)), (1, .ref (za Z a1)), (3, .ref (za Z a3)), (5, .ref (za Z a5)), (6, .ref (za Z a6)), (7, .int x33), (8, .int x34), (9, .int x35), (10, .int 0), (11, .int 0), (12, .int 0)]) rfl ?_
  refine gl_L_isSo_144 a0 a1 a3 a5 a6 x34 x35 0 0 k0 k1 k3 k5 k6 μ C hl E.2 FU x33 0 _ eq79 ?_
  obtain ⟨x80, ex80, h⟩ := lt_inv h
  rw [← ex80]
  refine g_iconst C (v := 0) (by decide) (dk kL_isSo 208 rfl) ?_
  refine g_istore C (i := 12) (lv' := [(12, .int 0), (0, .ref (za Z a0)), (1, .ref (za Z a1)), (3, .ref (za Z a3)), (6, .ref (za Z a6)), (7, .int x80), (8, .int x34), (9, .int x35), (10, .int 0), (11, .int 0)]) (dk kL_isSo 209 rfl) (by decide) rfl ?_
  obtain ⟨q99, eq99, h⟩ := bd_inv h
  refine g_sub [1, 2, 3, 4, 5, 6, 7, 8, 9, 0] (lv' := [(0, .ref (za Z a0)), (1, .ref (za Z a1)), (3, .ref (za Z a3)), (6, .ref (za Z a6)), (7, .int x80), (8, .int x34), (9, .int x35), (10, .int 0), (11, .int 0), (12, .int 0)]) rfl ?_
  refine gl_L_isSo_374 a0 a1 a3 a6 x34 x35 k0 k1 k3 k6 μ C hl E.2 FU x80 0 0 0 _ eq99 ?_
  obtain ⟨x100, ex100, h⟩ := lt_inv h
  obtain ⟨x101, ex101, h⟩ := lt_inv h
  obtain ⟨x102, ex102, h⟩ := lt_inv h
  rw [← ex100, ← ex101, ← ex102]
  refine g_iconst C (v := 0) (by decide) (dk kL_isSo 272 rfl) ?_
  refine g_istore C (i := 12) (lv' := [(12, .int 0), (0, .ref (za Z a0)), (1, .ref (za Z a1)), (3, .ref (za Z a3)), (6, .ref (za Z a6)), (7, .int x100), (8, .int x34), (9, .int x35), (10, .int x101), (11, .int x102)]) (dk kL_isSo 273 rfl) (by decide) rfl ?_
  refine g_iconst C (v := 0) (by decide) (dk kL_isSo 274 rfl) ?_
  refine g_istore C (i := 13) (lv' := [(13, .int 0), (12, .int 0), (0, .ref (za Z a0)), (1, .ref (za Z a1)), (3, .ref (za Z a3)), (6, .ref (za Z a6)), (7, .int x100), (8, .int x34), (9, .int x35), (10, .int x101), (11, .int x102)]) (dk kL_isSo 275 rfl) (by decide) rfl ?_
  obtain ⟨q111, eq111, h⟩ := bd_inv h
  refine g_sub [2, 3, 4, 5, 6, 7, 8, 9, 10, 1, 0] (lv' := [(0, .ref (za Z a0)), (1, .ref (za Z a1)), (3, .ref (za Z a3)), (6, .ref (za Z a6)), (7, .int x100), (8, .int x34), (9, .int x35), (10, .int x101), (11, .int x102), (12, .int 0), (13, .int 0)]) rfl ?_
  refine gl_L_isSo_491 a0 a1 a3 a6 x100 x34 x35 x101 x102 k0 k1 k3 k6 μ C hl E.2 FU 0 0 _ eq111 ?_
  obtain ⟨x112, ex112, h⟩ := lt_inv h
  rw [← ex112]
  refine g_iconst C (v := 0) (by decide) (dk kL_isSo 294 rfl) ?_
  refine g_istore C (i := 13) (lv' := [(13, .int 0), (0, .ref (za Z a0)), (1, .ref (za Z a1)), (6, .ref (za Z a6)), (7, .int x100), (8, .int x34), (9, .int x35), (10, .int x101), (11, .int x102), (12, .int x112)]) (dk kL_isSo 295 rfl) (by decide) rfl ?_
  obtain ⟨q120, eq120, h⟩ := bd_inv h
  refine g_sub [1, 2, 3, 4, 5, 6, 7, 8, 9, 0] (lv' := [(0, .ref (za Z a0)), (1, .ref (za Z a1)), (6, .ref (za Z a6)), (7, .int x100), (8, .int x34), (9, .int x35), (10, .int x101), (11, .int x102), (12, .int x112), (13, .int 0)]) rfl ?_
  refine gl_L_isSo_528 a0 a1 a6 x34 x35 x101 x102 x112 k0 k1 k6 μ C hl E.2 FU x100 0 _ eq120 ?_
  obtain ⟨x121, ex121, h⟩ := lt_inv h
  rw [← ex121]
  refine g_iload C (i := 7) 3 rfl (dk kL_isSo 314 rfl) ?_
  obtain ⟨c122, h⟩ := gd_inv h
  refine g_if_eq C (tgt := 595) (dk kL_isSo 315 rfl) (by decide) (fun q => absurd q c122) (fun _ => ?_)
  refine g_iload C (i := 11) 7 rfl (dk kL_isSo 316 rfl) ?_
  refine g_aload_n C (i := 1) 1 rfl rfl (dk kL_isSo 317 rfl) ?_
  refine g_bipush C (v := 11) (by decide) (dk kL_isSo 318 rfl) ?_
  obtain ⟨c123, h⟩ := gd_inv h
  refine g_iald C k1 c123 (dk kL_isSo 319 rfl) ?_
  obtain ⟨c124, h⟩ := gd_inv h
  refine g_icmp_ne C (tgt := 595) (dk kL_isSo 320 rfl) (by decide) (fun q => absurd c124 q) (fun _ => ?_)
  refine g_iload C (i := 9) 5 rfl (dk kL_isSo 321 rfl) ?_
  refine g_bipush C (v := 90) (by decide) (dk kL_isSo 322 rfl) ?_
  refine g_aload_n C (i := 1) 1 rfl rfl (dk kL_isSo 323 rfl) ?_
  refine g_iconst C (v := 0) (by decide) (dk kL_isSo 324 rfl) ?_
  obtain ⟨c125, h⟩ := gd_inv h
  refine g_iald C k1 c125 (dk kL_isSo 325 rfl) ?_
  refine g_imul C (dk kL_isSo 326 rfl) ?_
  obtain ⟨c126, h⟩ := gd_inv h
  refine g_icmp_gt C (tgt := 595) (dk kL_isSo 327 rfl) (by decide) (fun q => absurd q c126) (fun _ => ?_)
  refine g_iconst C (v := 1) (by decide) (dk kL_isSo 328 rfl) ?_
  refine g_goto C (tgt := 596) (dk kL_isSo 329 rfl) (by decide) ?_
  refine g_istore C (i := 7) (lv' := [(7, .int 1), (0, .ref (za Z a0)), (1, .ref (za Z a1)), (6, .ref (za Z a6)), (8, .int x34), (9, .int x35), (10, .int x101), (11, .int x102), (12, .int x112)]) (dk kL_isSo 331 rfl) (by decide) rfl ?_
  refine g_iload C (i := 7) 0 rfl (dk kL_isSo 332 rfl) ?_
  refine g_if_eq C (tgt := 755) (dk kL_isSo 333 rfl) (by decide) (fun c => absurd c (by decide)) (fun c127 => ?_)
  refine g_aload_n C (i := 0) 1 rfl rfl (dk kL_isSo 334 rfl) ?_
  obtain ⟨x129, eq128, h⟩ := bd_inv h
  refine g_callV C E.2 (rest := []) 0 (ct_X7_mostWorn k0 eq128) wd_4_44 mm_X7_mostWorn ⟨rfl, by decide, by decide, by decide⟩ rfl (by decide) k0 (by decide) rfl rfl (Nat.le_of_ble_eq_true rfl) (by decide) (dk kL_isSo 335 rfl) ?_
  refine g_iload C (i := 12) 8 rfl (dk kL_isSo 336 rfl) ?_
  obtain ⟨c130, h⟩ := gd_inv h
  refine g_icmp_ne C (tgt := 755) (dk kL_isSo 337 rfl) (by decide) (fun q => absurd c130 q) (fun _ => ?_)
  refine g_aload_n C (i := 0) 1 rfl rfl (dk kL_isSo 338 rfl) ?_
  refine g_bipush C (v := 10) (by decide) (dk kL_isSo 339 rfl) ?_
  obtain ⟨x132, eq131, h⟩ := bd_inv h
  refine g_callSW C E.2 (rest := []) 2 (ct_L_wholeOf k0 eq131) wd_3_215 mw_L_wholeOf ⟨by decide, by decide, by decide⟩ rfl (by decide) rfl (Nat.le_of_ble_eq_true rfl) (by decide) (dk kL_isSo 340 rfl) ?_
  refine g_iload C (i := 8) 4 rfl (dk kL_isSo 341 rfl) ?_
  obtain ⟨c133, h⟩ := gd_inv h
  refine g_icmp_ne C (tgt := 755) (dk kL_isSo 342 rfl) (by decide) (fun q => absurd c133 q) (fun _ => ?_)
  refine g_aload_n C (i := 0) 1 rfl rfl (dk kL_isSo 343 rfl) ?_
  refine g_bipush C (v := 11) (by decide) (dk kL_isSo 344 rfl) ?_
  obtain ⟨x135, eq134, h⟩ := bd_inv h
  refine g_callSW C E.2 (rest := []) 2 (ct_L_wholeOf k0 eq134) wd_3_215 mw_L_wholeOf ⟨by decide, by decide, by decide⟩ rfl (by decide) rfl (Nat.le_of_ble_eq_true rfl) (by decide) (dk kL_isSo 345 rfl) ?_
  refine g_aload_n C (i := 1) 2 rfl rfl (dk kL_isSo 346 rfl) ?_
  refine g_bipush C (v := 10) (by decide) (dk kL_isSo 347 rfl) ?_
  obtain ⟨c136, h⟩ := gd_inv h
  refine g_iald C k1 c136 (dk kL_isSo 348 rfl) ?_
  obtain ⟨c137, h⟩ := gd_inv h
  refine g_icmp_ne C (tgt := 755) (dk kL_isSo 349 rfl) (by decide) (fun q => absurd c137 q) (fun _ => ?_)
  refine g_aload_n C (i := 0) 1 rfl rfl (dk kL_isSo 350 rfl) ?_
  refine g_bipush C (v := 12) (by decide) (dk kL_isSo 351 rfl) ?_
  obtain ⟨x139, eq138, h⟩ := bd_inv h
  refine g_callSW C E.2 (rest := []) 2 (ct_L_wholeOf k0 eq138) wd_3_215 mw_L_wholeOf ⟨by decide, by decide, by decide⟩ rfl (by decide) rfl (Nat.le_of_ble_eq_true rfl) (by decide) (dk kL_isSo 352 rfl) ?_
  refine g_aload_n C (i := 1) 2 rfl rfl (dk kL_isSo 353 rfl) ?_
  refine g_bipush C (v := 11) (by decide) (dk kL_isSo 354 rfl) ?_
  obtain ⟨c140, h⟩ := gd_inv h
  refine g_iald C k1 c140 (dk kL_isSo 355 rfl) ?_
  obtain ⟨c141, h⟩ := gd_inv h
  refine g_icmp_ne C (tgt := 755) (dk kL_isSo 356 rfl) (by decide) (fun q => absurd c141 q) (fun _ => ?_)
  refine g_aload_n C (i := 0) 1 rfl rfl (dk kL_isSo 357 rfl) ?_
  refine g_bipush C (v := 13) (by decide) (dk kL_isSo 358 rfl) ?_
  obtain ⟨x143, eq142, h⟩ := bd_inv h
  refine g_callSW C E.2 (rest := []) 2 (ct_L_wholeOf k0 eq142) wd_3_215 mw_L_wholeOf ⟨by decide, by decide, by decide⟩ rfl (by decide) rfl (Nat.le_of_ble_eq_true rfl) (by decide) (dk kL_isSo 359 rfl) ?_
  refine g_aload_n C (i := 1) 2 rfl rfl (dk kL_isSo 360 rfl) ?_
  refine g_bipush C (v := 12) (by decide) (dk kL_isSo 361 rfl) ?_
  obtain ⟨c144, h⟩ := gd_inv h
  refine g_iald C k1 c144 (dk kL_isSo 362 rfl) ?_
  obtain ⟨c145, h⟩ := gd_inv h
  refine g_icmp_ne C (tgt := 755) (dk kL_isSo 363 rfl) (by decide) (fun q => absurd c145 q) (fun _ => ?_)
  refine g_aload_n C (i := 0) 1 rfl rfl (dk kL_isSo 364 rfl) ?_
  refine g_bipush C (v := 14) (by decide) (dk kL_isSo 365 rfl) ?_
  obtain ⟨x147, eq146, h⟩ := bd_inv h
  refine g_callSW C E.2 (rest := []) 2 (ct_L_wholeOf k0 eq146) wd_3_215 mw_L_wholeOf ⟨by decide, by decide, by decide⟩ rfl (by decide) rfl (Nat.le_of_ble_eq_true rfl) (by decide) (dk kL_isSo 366 rfl) ?_
  refine g_iload C (i := 10) 6 rfl (dk kL_isSo 367 rfl) ?_
  obtain ⟨c148, h⟩ := gd_inv h
  refine g_icmp_ne C (tgt := 755) (dk kL_isSo 368 rfl) (by decide) (fun q => absurd c148 q) (fun _ => ?_)
  refine g_aload_n C (i := 0) 1 rfl rfl (dk kL_isSo 369 rfl) ?_
  refine g_bipush C (v := 15) (by decide) (dk kL_isSo 370 rfl) ?_
  obtain ⟨x150, eq149, h⟩ := bd_inv h
  refine g_callSW C E.2 (rest := []) 2 (ct_L_wholeOf k0 eq149) wd_3_215 mw_L_wholeOf ⟨by decide, by decide, by decide⟩ rfl (by decide) rfl (Nat.le_of_ble_eq_true rfl) (by decide) (dk kL_isSo 371 rfl) ?_
  refine g_aload_n C (i := 1) 2 rfl rfl (dk kL_isSo 372 rfl) ?_
  refine g_aload C (i := 6) 3 rfl (dk kL_isSo 373 rfl) ?_
  obtain ⟨x152, eq151, h⟩ := bd_inv h
  refine g_callS C E.2 (rest := [.int x150]) 2 (ct_L_rented k1 k6 eq151) wd_3_69 mm_L_rented ⟨by decide, by decide, by decide⟩ rfl (by decide) rfl (Nat.le_of_ble_eq_true rfl) (by decide) (dk kL_isSo 374 rfl) ?_
  obtain ⟨c153, h⟩ := gd_inv h
  refine g_icmp_ne C (tgt := 755) (dk kL_isSo 375 rfl) (by decide) (fun q => absurd c153 q) (fun _ => ?_)
  refine g_aload_n C (i := 0) 1 rfl rfl (dk kL_isSo 376 rfl) ?_
  refine g_bipush C (v := 16) (by decide) (dk kL_isSo 377 rfl) ?_
  obtain ⟨x155, eq154, h⟩ := bd_inv h
  refine g_callSW C E.2 (rest := []) 2 (ct_L_wholeOf k0 eq154) wd_3_215 mw_L_wholeOf ⟨by decide, by decide, by decide⟩ rfl (by decide) rfl (Nat.le_of_ble_eq_true rfl) (by decide) (dk kL_isSo 378 rfl) ?_
  refine g_aload_n C (i := 1) 2 rfl rfl (dk kL_isSo 379 rfl) ?_
  refine g_bipush C (v := 13) (by decide) (dk kL_isSo 380 rfl) ?_
  obtain ⟨c156, h⟩ := gd_inv h
  refine g_iald C k1 c156 (dk kL_isSo 381 rfl) ?_
  obtain ⟨c157, h⟩ := gd_inv h
  refine g_icmp_ne C (tgt := 755) (dk kL_isSo 382 rfl) (by decide) (fun q => absurd c157 q) (fun _ => ?_)
  refine g_aload_n C (i := 0) 1 rfl rfl (dk kL_isSo 383 rfl) ?_
  refine g_bipush C (v := 17) (by decide) (dk kL_isSo 384 rfl) ?_
  obtain ⟨x159, eq158, h⟩ := bd_inv h
  refine g_callSW C E.2 (rest := []) 2 (ct_L_wholeOf k0 eq158) wd_3_215 mw_L_wholeOf ⟨by decide, by decide, by decide⟩ rfl (by decide) rfl (Nat.le_of_ble_eq_true rfl) (by decide) (dk kL_isSo 385 rfl) ?_
  obtain ⟨c160, h⟩ := gd_inv h
  refine g_if_ne C (tgt := 755) (dk kL_isSo 386 rfl) (by decide) (fun q => absurd c160 q) (fun _ => ?_)
  refine g_aload_n C (i := 0) 1 rfl rfl (dk kL_isSo 387 rfl) ?_
  refine g_aload_n C (i := 1) 2 rfl rfl (dk kL_isSo 388 rfl) ?_
  refine g_iconst C (v := 0) (by decide) (dk kL_isSo 389 rfl) ?_
  obtain ⟨c161, h⟩ := gd_inv h
  refine g_iald C k1 c161 (dk kL_isSo 390 rfl) ?_
  refine g_iconst C (v := 0) (by decide) (dk kL_isSo 391 rfl) ?_
  obtain ⟨q162, eq162, h⟩ := bd_inv h
  obtain ⟨c163, h⟩ := gd_inv h
  rw [c163] at eq162
  refine g_callSW C E.2 (rest := []) 3 (ctx1_L_dotOf k0 hl eq162) wd_3_195 mw_L_dotOf ⟨by decide, by decide, by decide⟩ rfl (by decide) rfl (Nat.le_of_ble_eq_true rfl) (by decide) (dk kL_isSo 392 rfl) ?_
  refine g_ldc C (v := (-2000001)) (C.w wd_2_194) (dk kL_isSo 393 rfl) ?_
  refine g_icmp_ne C (tgt := 755) (dk kL_isSo 394 rfl) (by decide) (fun c => absurd c (by decide)) (fun c164 => ?_)
  refine g_aload_n C (i := 0) 1 rfl rfl (dk kL_isSo 395 rfl) ?_
  refine g_aload_n C (i := 1) 2 rfl rfl (dk kL_isSo 396 rfl) ?_
  refine g_bipush C (v := 8) (by decide) (dk kL_isSo 397 rfl) ?_
  obtain ⟨c165, h⟩ := gd_inv h
  refine g_iald C k1 c165 (dk kL_isSo 398 rfl) ?_
  refine g_iconst C (v := 0) (by decide) (dk kL_isSo 399 rfl) ?_
  obtain ⟨q166, eq166, h⟩ := bd_inv h
  obtain ⟨c167, h⟩ := gd_inv h
  rw [c167] at eq166
  refine g_callSW C E.2 (rest := []) 3 (ctx1_L_labelOf k0 hl eq166) wd_4_12 mw_L_labelOf ⟨by decide, by decide, by decide⟩ rfl (by decide) rfl (Nat.le_of_ble_eq_true rfl) (by decide) (dk kL_isSo 400 rfl) ?_
  refine g_ldc C (v := (-2000001)) (C.w wd_2_194) (dk kL_isSo 401 rfl) ?_
  refine g_icmp_ne C (tgt := 755) (dk kL_isSo 402 rfl) (by decide) (fun c => absurd c (by decide)) (fun c168 => ?_)
  refine g_aload_n C (i := 0) 1 rfl rfl (dk kL_isSo 403 rfl) ?_
  refine g_aload_n C (i := 1) 2 rfl rfl (dk kL_isSo 404 rfl) ?_
  refine g_bipush C (v := 9) (by decide) (dk kL_isSo 405 rfl) ?_
  obtain ⟨c169, h⟩ := gd_inv h
  refine g_iald C k1 c169 (dk kL_isSo 406 rfl) ?_
  refine g_iconst C (v := 0) (by decide) (dk kL_isSo 407 rfl) ?_
  obtain ⟨q170, eq170, h⟩ := bd_inv h
  obtain ⟨c171, h⟩ := gd_inv h
  rw [c171] at eq170
  refine g_callSW C E.2 (rest := []) 3 (ctx1_L_customerOf k0 hl eq170) wd_4_29 mw_L_customerOf ⟨by decide, by decide, by decide⟩ rfl (by decide) rfl (Nat.le_of_ble_eq_true rfl) (by decide) (dk kL_isSo 408 rfl) ?_
  refine g_ldc C (v := (-2000001)) (C.w wd_2_194) (dk kL_isSo 409 rfl) ?_
  refine g_icmp_ne C (tgt := 755) (dk kL_isSo 410 rfl) (by decide) (fun c => absurd c (by decide)) (fun c172 => ?_)
  refine g_iconst C (v := 1) (by decide) (dk kL_isSo 411 rfl) ?_
  refine g_goto C (tgt := 756) (dk kL_isSo 412 rfl) (by decide) ?_
  have h9 := Option.some.inj h
  subst h9
  exact g_iret C E rfl rfl (by decide) (by decide) (dk kL_isSo 414 rfl)
theorem ct_L_isSo {l : Launch} {Z : ZZ} {μ : Mm} {a0 : Nat} {a1 : Nat} {a2 : Nat} {a3 : Nat} {a4 : Nat} {a5 : Nat} {a6 : Nat} {r : Int32} (k0 : (zk Z a0).1 = 5) (k1 : (zk Z a1).1 = 8) (k2 : (zk Z a2).1 = 8) (k3 : (zk Z a3).1 = 8) (k4 : (zk Z a4).1 = 8) (k5 : (zk Z a5).1 = 8) (k6 : (zk Z a6).1 = 8) (hl : l.stackTraces = false) (h : f_L_isSo (zk Z) μ a0 a1 a2 a3 a4 a5 a6 = some r) : CtM l Z false yL_isSo cL_isSo 15 (some .boolean) 9 3 18 [.ref (za Z a0), .ref (za Z a1), .ref (za Z a2), .ref (za Z a3), .ref (za Z a4), .ref (za Z a5), .ref (za Z a6)] μ (some (.int r)) Z μ := ct_of rfl rfl (Nat.le_of_ble_eq_true rfl) (fun X C E => t_L_isSo μ a0 a1 a2 a3 a4 a5 a6 r k0 k1 k2 k3 k4 k5 k6 h C hl E)
