/-! the law: its code, its links, its calls, the head of its loop -/
noncomputable def yo_z0 : List (Nat × (Instr × Nat)) := [(0, .new 7, 3), (3, .dup, 1), (4, .invokespecial 9, 3), (7, .astore_n 1, 1), (8, .new 10, 3), (11, .dup, 1), (12, .invokespecial 12, 3), (15, .astore_n 2, 1), (16, .iconst 0, 1), (17, .istore_n 3, 1), (18, .iload_n 3, 1), (19, .aload_n 0, 1), (20, .arraylength, 1), (21, .bipush 6, 2), (23, .isub, 1), (24, .if_icmp .gt 1266, 3), (27, .aload_n 0, 1), (28, .iload_n 3, 1), (29, .iaload, 1), (30, .bipush 63, 2), (32, .iand, 1), (33, .tableswitch 1251 0 37 #[167, 210, 243, 266, 309, 352, 425, 458, 521, 574, 587, 610, 633, 656, 699, 722, 755, 788, 811, 834, 857, 870, 913, 926, 939, 952, 975, 1008, 1021, 1044, 1077, 1110, 1143, 1156, 1169, 1192, 1215, 1238], 167)]
theorem yo_z0_ok : ∀ q ∈ yo_z0, decode code q.1 = .ok q.2 := by decide +kernel
noncomputable def yo_z1 : List (Nat × (Instr × Nat)) := []
theorem yo_z1_ok : ∀ q ∈ yo_z1, decode code q.1 = .ok q.2 := by decide +kernel
noncomputable def yo_z2 : List (Nat × (Instr × Nat)) := []
theorem yo_z2_ok : ∀ q ∈ yo_z2, decode code q.1 = .ok q.2 := by decide +kernel
noncomputable def yo_z3 : List (Nat × (Instr × Nat)) := [(200, .aload_n 1, 1), (201, .aload_n 0, 1), (202, .iload_n 3, 1), (203, .iconst 1, 1), (204, .iadd, 1), (205, .iaload, 1), (206, .aload_n 0, 1), (207, .iload_n 3, 1), (208, .iconst 2, 1), (209, .iadd, 1), (210, .iaload, 1), (211, .aload_n 0, 1), (212, .iload_n 3, 1), (213, .iconst 3, 1), (214, .iadd, 1), (215, .iaload, 1), (216, .invokevirtual 13, 3), (219, .pop, 1), (220, .aload_n 2, 1), (221, .aload_n 0, 1), (222, .iload_n 3, 1), (223, .iconst 1, 1), (224, .iadd, 1), (225, .iaload, 1), (226, .aload_n 0, 1), (227, .iload_n 3, 1), (228, .iconst 2, 1), (229, .iadd, 1), (230, .iaload, 1), (231, .aload_n 0, 1), (232, .iload_n 3, 1), (233, .iconst 3, 1), (234, .iadd, 1), (235, .iaload, 1), (236, .invokevirtual 17, 3), (239, .pop, 1), (240, .goto 1044, 3), (243, .aload_n 1, 1), (244, .aload_n 0, 1), (245, .iload_n 3, 1), (246, .iconst 1, 1), (247, .iadd, 1), (248, .iaload, 1), (249, .aload_n 0, 1), (250, .iload_n 3, 1), (251, .iconst 2, 1), (252, .iadd, 1), (253, .iaload, 1), (254, .invokevirtual 18, 3)]
theorem yo_z3_ok : ∀ q ∈ yo_z3, decode code q.1 = .ok q.2 := by decide +kernel
noncomputable def yo_z4 : List (Nat × (Instr × Nat)) := [(257, .pop, 1), (258, .aload_n 2, 1), (259, .aload_n 0, 1), (260, .iload_n 3, 1), (261, .iconst 1, 1), (262, .iadd, 1), (263, .iaload, 1), (264, .aload_n 0, 1), (265, .iload_n 3, 1), (266, .iconst 2, 1), (267, .iadd, 1), (268, .iaload, 1), (269, .invokevirtual 22, 3), (272, .pop, 1), (273, .goto 1011, 3), (276, .aload_n 1, 1), (277, .aload_n 0, 1), (278, .iload_n 3, 1), (279, .iconst 1, 1), (280, .iadd, 1), (281, .iaload, 1), (282, .invokevirtual 23, 3), (285, .pop, 1), (286, .aload_n 2, 1), (287, .aload_n 0, 1), (288, .iload_n 3, 1), (289, .iconst 1, 1), (290, .iadd, 1), (291, .iaload, 1), (292, .invokevirtual 27, 3), (295, .pop, 1), (296, .goto 988, 3), (299, .aload_n 1, 1), (300, .aload_n 0, 1), (301, .iload_n 3, 1), (302, .iconst 1, 1), (303, .iadd, 1), (304, .iaload, 1), (305, .aload_n 0, 1), (306, .iload_n 3, 1), (307, .iconst 2, 1), (308, .iadd, 1), (309, .iaload, 1), (310, .aload_n 0, 1), (311, .iload_n 3, 1), (312, .iconst 3, 1), (313, .iadd, 1), (314, .iaload, 1), (315, .invokevirtual 28, 3), (318, .pop, 1), (319, .aload_n 2, 1)]
theorem yo_z4_ok : ∀ q ∈ yo_z4, decode code q.1 = .ok q.2 := by decide +kernel
noncomputable def yo_z5 : List (Nat × (Instr × Nat)) := [(320, .aload_n 0, 1), (321, .iload_n 3, 1), (322, .iconst 1, 1), (323, .iadd, 1), (324, .iaload, 1), (325, .aload_n 0, 1), (326, .iload_n 3, 1), (327, .iconst 2, 1), (328, .iadd, 1), (329, .iaload, 1), (330, .aload_n 0, 1), (331, .iload_n 3, 1), (332, .iconst 3, 1), (333, .iadd, 1), (334, .iaload, 1), (335, .invokevirtual 31, 3), (338, .pop, 1), (339, .goto 945, 3), (342, .aload_n 1, 1), (343, .aload_n 0, 1), (344, .iload_n 3, 1), (345, .iconst 1, 1), (346, .iadd, 1), (347, .iaload, 1), (348, .aload_n 0, 1), (349, .iload_n 3, 1), (350, .iconst 2, 1), (351, .iadd, 1), (352, .iaload, 1), (353, .aload_n 0, 1), (354, .iload_n 3, 1), (355, .iconst 3, 1), (356, .iadd, 1), (357, .iaload, 1), (358, .invokevirtual 32, 3), (361, .pop, 1), (362, .aload_n 2, 1), (363, .aload_n 0, 1), (364, .iload_n 3, 1), (365, .iconst 1, 1), (366, .iadd, 1), (367, .iaload, 1), (368, .aload_n 0, 1), (369, .iload_n 3, 1), (370, .iconst 2, 1), (371, .iadd, 1), (372, .iaload, 1), (373, .aload_n 0, 1), (374, .iload_n 3, 1), (375, .iconst 3, 1), (376, .iadd, 1), (377, .iaload, 1), (378, .invokevirtual 35, 3), (381, .pop, 1), (382, .goto 902, 3)]
theorem yo_z5_ok : ∀ q ∈ yo_z5, decode code q.1 = .ok q.2 := by decide +kernel
noncomputable def yo_z6 : List (Nat × (Instr × Nat)) := [(385, .aload_n 1, 1), (386, .aload_n 0, 1), (387, .iload_n 3, 1), (388, .iconst 1, 1), (389, .iadd, 1), (390, .iaload, 1), (391, .aload_n 0, 1), (392, .iload_n 3, 1), (393, .iconst 2, 1), (394, .iadd, 1), (395, .iaload, 1), (396, .aload_n 0, 1), (397, .iload_n 3, 1), (398, .iconst 3, 1), (399, .iadd, 1), (400, .iaload, 1), (401, .i2l, 1), (402, .bipush 32, 2), (404, .lshl, 1), (405, .aload_n 0, 1), (406, .iload_n 3, 1), (407, .iconst 4, 1), (408, .iadd, 1), (409, .iaload, 1), (410, .i2l, 1), (411, .ldc2_w 36, 3), (414, .land, 1), (415, .lor, 1), (416, .invokevirtual 38, 3), (419, .pop, 1), (420, .aload_n 2, 1), (421, .aload_n 0, 1), (422, .iload_n 3, 1), (423, .iconst 1, 1), (424, .iadd, 1), (425, .iaload, 1), (426, .aload_n 0, 1), (427, .iload_n 3, 1), (428, .iconst 2, 1), (429, .iadd, 1), (430, .iaload, 1), (431, .aload_n 0, 1), (432, .iload_n 3, 1), (433, .iconst 3, 1), (434, .iadd, 1), (435, .iaload, 1), (436, .i2l, 1), (437, .bipush 32, 2), (439, .lshl, 1), (440, .aload_n 0, 1), (441, .iload_n 3, 1), (442, .iconst 4, 1), (443, .iadd, 1), (444, .iaload, 1), (445, .i2l, 1), (446, .ldc2_w 36, 3)]
theorem yo_z6_ok : ∀ q ∈ yo_z6, decode code q.1 = .ok q.2 := by decide +kernel
noncomputable def yo_z7 : List (Nat × (Instr × Nat)) := [(449, .land, 1), (450, .lor, 1), (451, .invokevirtual 42, 3), (454, .pop, 1), (455, .goto 829, 3), (458, .aload_n 1, 1), (459, .aload_n 0, 1), (460, .iload_n 3, 1), (461, .iconst 1, 1), (462, .iadd, 1), (463, .iaload, 1), (464, .aload_n 0, 1), (465, .iload_n 3, 1), (466, .iconst 2, 1), (467, .iadd, 1), (468, .iaload, 1), (469, .invokevirtual 43, 3), (472, .pop2, 1), (473, .aload_n 2, 1), (474, .aload_n 0, 1), (475, .iload_n 3, 1), (476, .iconst 1, 1), (477, .iadd, 1), (478, .iaload, 1), (479, .aload_n 0, 1), (480, .iload_n 3, 1), (481, .iconst 2, 1), (482, .iadd, 1), (483, .iaload, 1), (484, .invokevirtual 47, 3), (487, .pop2, 1), (488, .goto 796, 3), (491, .aload_n 1, 1), (492, .aload_n 0, 1), (493, .iload_n 3, 1), (494, .iconst 1, 1), (495, .iadd, 1), (496, .iaload, 1), (497, .aload_n 0, 1), (498, .iload_n 3, 1), (499, .iconst 2, 1), (500, .iadd, 1), (501, .iaload, 1), (502, .aload_n 0, 1), (503, .iload_n 3, 1), (504, .iconst 3, 1), (505, .iadd, 1), (506, .iaload, 1), (507, .aload_n 0, 1), (508, .iload_n 3, 1), (509, .iconst 4, 1), (510, .iadd, 1), (511, .iaload, 1)]
theorem yo_z7_ok : ∀ q ∈ yo_z7, decode code q.1 = .ok q.2 := by decide +kernel
noncomputable def yo_z8 : List (Nat × (Instr × Nat)) := [(512, .aload_n 0, 1), (513, .iload_n 3, 1), (514, .iconst 5, 1), (515, .iadd, 1), (516, .iaload, 1), (517, .invokevirtual 48, 3), (520, .pop, 1), (521, .aload_n 2, 1), (522, .aload_n 0, 1), (523, .iload_n 3, 1), (524, .iconst 1, 1), (525, .iadd, 1), (526, .iaload, 1), (527, .aload_n 0, 1), (528, .iload_n 3, 1), (529, .iconst 2, 1), (530, .iadd, 1), (531, .iaload, 1), (532, .aload_n 0, 1), (533, .iload_n 3, 1), (534, .iconst 3, 1), (535, .iadd, 1), (536, .iaload, 1), (537, .aload_n 0, 1), (538, .iload_n 3, 1), (539, .iconst 4, 1), (540, .iadd, 1), (541, .iaload, 1), (542, .aload_n 0, 1), (543, .iload_n 3, 1), (544, .iconst 5, 1), (545, .iadd, 1), (546, .iaload, 1), (547, .invokevirtual 52, 3), (550, .pop, 1), (551, .goto 733, 3), (554, .aload_n 1, 1), (555, .aload_n 0, 1), (556, .iload_n 3, 1), (557, .iconst 1, 1), (558, .iadd, 1), (559, .iaload, 1), (560, .aload_n 0, 1), (561, .iload_n 3, 1), (562, .iconst 2, 1), (563, .iadd, 1), (564, .iaload, 1), (565, .aload_n 0, 1), (566, .iload_n 3, 1), (567, .iconst 3, 1), (568, .iadd, 1), (569, .iaload, 1), (570, .aload_n 0, 1), (571, .iload_n 3, 1), (572, .iconst 4, 1), (573, .iadd, 1), (574, .iaload, 1), (575, .invokevirtual 53, 3)]
theorem yo_z8_ok : ∀ q ∈ yo_z8, decode code q.1 = .ok q.2 := by decide +kernel
noncomputable def yo_z9 : List (Nat × (Instr × Nat)) := [(578, .pop, 1), (579, .aload_n 2, 1), (580, .aload_n 0, 1), (581, .iload_n 3, 1), (582, .iconst 1, 1), (583, .iadd, 1), (584, .iaload, 1), (585, .aload_n 0, 1), (586, .iload_n 3, 1), (587, .iconst 2, 1), (588, .iadd, 1), (589, .iaload, 1), (590, .aload_n 0, 1), (591, .iload_n 3, 1), (592, .iconst 3, 1), (593, .iadd, 1), (594, .iaload, 1), (595, .aload_n 0, 1), (596, .iload_n 3, 1), (597, .iconst 4, 1), (598, .iadd, 1), (599, .iaload, 1), (600, .invokevirtual 57, 3), (603, .pop, 1), (604, .goto 680, 3), (607, .aload_n 1, 1), (608, .invokevirtual 58, 3), (611, .pop, 1), (612, .aload_n 2, 1), (613, .invokevirtual 62, 3), (616, .pop, 1), (617, .goto 667, 3), (620, .aload_n 1, 1), (621, .aload_n 0, 1), (622, .iload_n 3, 1), (623, .iconst 1, 1), (624, .iadd, 1), (625, .iaload, 1), (626, .invokevirtual 63, 3), (629, .pop2, 1), (630, .aload_n 2, 1), (631, .aload_n 0, 1), (632, .iload_n 3, 1), (633, .iconst 1, 1), (634, .iadd, 1), (635, .iaload, 1), (636, .invokevirtual 67, 3), (639, .pop2, 1)]
theorem yo_z9_ok : ∀ q ∈ yo_z9, decode code q.1 = .ok q.2 := by decide +kernel
noncomputable def yo_z10 : List (Nat × (Instr × Nat)) := [(640, .goto 644, 3), (643, .aload_n 1, 1), (644, .aload_n 0, 1), (645, .iload_n 3, 1), (646, .iconst 1, 1), (647, .iadd, 1), (648, .iaload, 1), (649, .invokevirtual 68, 3), (652, .aload_n 2, 1), (653, .aload_n 0, 1), (654, .iload_n 3, 1), (655, .iconst 1, 1), (656, .iadd, 1), (657, .iaload, 1), (658, .invokevirtual 71, 3), (661, .if_icmp .eq 623, 3), (664, .iconst 0, 1), (665, .ireturn, 1), (666, .aload_n 1, 1), (667, .aload_n 0, 1), (668, .iload_n 3, 1), (669, .iconst 1, 1), (670, .iadd, 1), (671, .iaload, 1), (672, .invokevirtual 72, 3), (675, .pop2, 1), (676, .aload_n 2, 1), (677, .aload_n 0, 1), (678, .iload_n 3, 1), (679, .iconst 1, 1), (680, .iadd, 1), (681, .iaload, 1), (682, .invokevirtual 75, 3), (685, .pop2, 1), (686, .goto 598, 3), (689, .aload_n 1, 1), (690, .aload_n 0, 1), (691, .iload_n 3, 1), (692, .iconst 1, 1), (693, .iadd, 1), (694, .iaload, 1), (695, .aload_n 0, 1), (696, .iload_n 3, 1), (697, .iconst 2, 1), (698, .iadd, 1), (699, .iaload, 1), (700, .aload_n 0, 1), (701, .iload_n 3, 1), (702, .iconst 3, 1), (703, .iadd, 1)]
theorem yo_z10_ok : ∀ q ∈ yo_z10, decode code q.1 = .ok q.2 := by decide +kernel
noncomputable def yo_z11 : List (Nat × (Instr × Nat)) := [(704, .iaload, 1), (705, .invokevirtual 76, 3), (708, .pop, 1), (709, .aload_n 2, 1), (710, .aload_n 0, 1), (711, .iload_n 3, 1), (712, .iconst 1, 1), (713, .iadd, 1), (714, .iaload, 1), (715, .aload_n 0, 1), (716, .iload_n 3, 1), (717, .iconst 2, 1), (718, .iadd, 1), (719, .iaload, 1), (720, .aload_n 0, 1), (721, .iload_n 3, 1), (722, .iconst 3, 1), (723, .iadd, 1), (724, .iaload, 1), (725, .invokevirtual 79, 3), (728, .pop, 1), (729, .goto 555, 3), (732, .aload_n 1, 1), (733, .aload_n 0, 1), (734, .iload_n 3, 1), (735, .iconst 1, 1), (736, .iadd, 1), (737, .iaload, 1), (738, .invokevirtual 80, 3), (741, .pop, 1), (742, .aload_n 2, 1), (743, .aload_n 0, 1), (744, .iload_n 3, 1), (745, .iconst 1, 1), (746, .iadd, 1), (747, .iaload, 1), (748, .invokevirtual 83, 3), (751, .pop, 1), (752, .goto 532, 3), (755, .aload_n 1, 1), (756, .aload_n 0, 1), (757, .iload_n 3, 1), (758, .iconst 1, 1), (759, .iadd, 1), (760, .iaload, 1), (761, .aload_n 0, 1), (762, .iload_n 3, 1), (763, .iconst 2, 1), (764, .iadd, 1), (765, .iaload, 1), (766, .invokevirtual 84, 3)]
theorem yo_z11_ok : ∀ q ∈ yo_z11, decode code q.1 = .ok q.2 := by decide +kernel
noncomputable def yo_z12 : List (Nat × (Instr × Nat)) := [(769, .pop, 1), (770, .aload_n 2, 1), (771, .aload_n 0, 1), (772, .iload_n 3, 1), (773, .iconst 1, 1), (774, .iadd, 1), (775, .iaload, 1), (776, .aload_n 0, 1), (777, .iload_n 3, 1), (778, .iconst 2, 1), (779, .iadd, 1), (780, .iaload, 1), (781, .invokevirtual 87, 3), (784, .pop, 1), (785, .goto 499, 3), (788, .aload_n 1, 1), (789, .aload_n 0, 1), (790, .iload_n 3, 1), (791, .iconst 1, 1), (792, .iadd, 1), (793, .iaload, 1), (794, .aload_n 0, 1), (795, .iload_n 3, 1), (796, .iconst 2, 1), (797, .iadd, 1), (798, .iaload, 1), (799, .invokevirtual 88, 3), (802, .pop, 1), (803, .aload_n 2, 1), (804, .aload_n 0, 1), (805, .iload_n 3, 1), (806, .iconst 1, 1), (807, .iadd, 1), (808, .iaload, 1), (809, .aload_n 0, 1), (810, .iload_n 3, 1), (811, .iconst 2, 1), (812, .iadd, 1), (813, .iaload, 1), (814, .invokevirtual 91, 3), (817, .pop, 1), (818, .goto 466, 3), (821, .aload_n 1, 1), (822, .aload_n 0, 1), (823, .iload_n 3, 1), (824, .iconst 1, 1), (825, .iadd, 1), (826, .iaload, 1), (827, .invokevirtual 92, 3), (830, .pop, 1), (831, .aload_n 2, 1)]
theorem yo_z12_ok : ∀ q ∈ yo_z12, decode code q.1 = .ok q.2 := by decide +kernel
noncomputable def yo_z13 : List (Nat × (Instr × Nat)) := [(832, .aload_n 0, 1), (833, .iload_n 3, 1), (834, .iconst 1, 1), (835, .iadd, 1), (836, .iaload, 1), (837, .invokevirtual 95, 3), (840, .pop, 1), (841, .goto 443, 3), (844, .aload_n 1, 1), (845, .aload_n 0, 1), (846, .iload_n 3, 1), (847, .iconst 1, 1), (848, .iadd, 1), (849, .iaload, 1), (850, .invokevirtual 96, 3), (853, .pop, 1), (854, .aload_n 2, 1), (855, .aload_n 0, 1), (856, .iload_n 3, 1), (857, .iconst 1, 1), (858, .iadd, 1), (859, .iaload, 1), (860, .invokevirtual 99, 3), (863, .pop, 1), (864, .goto 420, 3), (867, .aload_n 1, 1), (868, .aload_n 0, 1), (869, .iload_n 3, 1), (870, .iconst 1, 1), (871, .iadd, 1), (872, .iaload, 1), (873, .invokevirtual 100, 3), (876, .pop2, 1), (877, .aload_n 2, 1), (878, .aload_n 0, 1), (879, .iload_n 3, 1), (880, .iconst 1, 1), (881, .iadd, 1), (882, .iaload, 1), (883, .invokevirtual 103, 3), (886, .pop2, 1), (887, .goto 397, 3), (890, .aload_n 1, 1), (891, .invokevirtual 104, 3), (894, .pop, 1), (895, .aload_n 2, 1)]
theorem yo_z13_ok : ∀ q ∈ yo_z13, decode code q.1 = .ok q.2 := by decide +kernel
noncomputable def yo_z14 : List (Nat × (Instr × Nat)) := [(896, .invokevirtual 107, 3), (899, .pop, 1), (900, .goto 384, 3), (903, .aload_n 1, 1), (904, .aload_n 0, 1), (905, .iload_n 3, 1), (906, .iconst 1, 1), (907, .iadd, 1), (908, .iaload, 1), (909, .aload_n 0, 1), (910, .iload_n 3, 1), (911, .iconst 2, 1), (912, .iadd, 1), (913, .iaload, 1), (914, .aload_n 0, 1), (915, .iload_n 3, 1), (916, .iconst 3, 1), (917, .iadd, 1), (918, .iaload, 1), (919, .invokevirtual 108, 3), (922, .pop, 1), (923, .aload_n 2, 1), (924, .aload_n 0, 1), (925, .iload_n 3, 1), (926, .iconst 1, 1), (927, .iadd, 1), (928, .iaload, 1), (929, .aload_n 0, 1), (930, .iload_n 3, 1), (931, .iconst 2, 1), (932, .iadd, 1), (933, .iaload, 1), (934, .aload_n 0, 1), (935, .iload_n 3, 1), (936, .iconst 3, 1), (937, .iadd, 1), (938, .iaload, 1), (939, .invokevirtual 111, 3), (942, .pop, 1), (943, .goto 341, 3), (946, .aload_n 1, 1), (947, .invokevirtual 112, 3), (950, .pop, 1), (951, .aload_n 2, 1), (952, .invokevirtual 115, 3), (955, .pop, 1), (956, .goto 328, 3), (959, .aload_n 1, 1)]
theorem yo_z14_ok : ∀ q ∈ yo_z14, decode code q.1 = .ok q.2 := by decide +kernel
noncomputable def yo_z15 : List (Nat × (Instr × Nat)) := [(960, .invokevirtual 116, 3), (963, .pop, 1), (964, .aload_n 2, 1), (965, .invokevirtual 119, 3), (968, .pop, 1), (969, .goto 315, 3), (972, .aload_n 1, 1), (973, .invokevirtual 120, 3), (976, .pop, 1), (977, .aload_n 2, 1), (978, .invokevirtual 123, 3), (981, .pop, 1), (982, .goto 302, 3), (985, .aload_n 1, 1), (986, .aload_n 0, 1), (987, .iload_n 3, 1), (988, .iconst 1, 1), (989, .iadd, 1), (990, .iaload, 1), (991, .invokevirtual 124, 3), (994, .pop, 1), (995, .aload_n 2, 1), (996, .aload_n 0, 1), (997, .iload_n 3, 1), (998, .iconst 1, 1), (999, .iadd, 1), (1000, .iaload, 1), (1001, .invokevirtual 127, 3), (1004, .pop, 1), (1005, .goto 279, 3), (1008, .aload_n 1, 1), (1009, .aload_n 0, 1), (1010, .iload_n 3, 1), (1011, .iconst 1, 1), (1012, .iadd, 1), (1013, .iaload, 1), (1014, .aload_n 0, 1), (1015, .iload_n 3, 1), (1016, .iconst 2, 1), (1017, .iadd, 1), (1018, .iaload, 1), (1019, .invokevirtual 128, 3), (1022, .pop2, 1), (1023, .aload_n 2, 1)]
theorem yo_z15_ok : ∀ q ∈ yo_z15, decode code q.1 = .ok q.2 := by decide +kernel
noncomputable def yo_z16 : List (Nat × (Instr × Nat)) := [(1024, .aload_n 0, 1), (1025, .iload_n 3, 1), (1026, .iconst 1, 1), (1027, .iadd, 1), (1028, .iaload, 1), (1029, .aload_n 0, 1), (1030, .iload_n 3, 1), (1031, .iconst 2, 1), (1032, .iadd, 1), (1033, .iaload, 1), (1034, .invokevirtual 131, 3), (1037, .pop2, 1), (1038, .goto 246, 3), (1041, .aload_n 1, 1), (1042, .invokevirtual 132, 3), (1045, .pop, 1), (1046, .aload_n 2, 1), (1047, .invokevirtual 135, 3), (1050, .pop, 1), (1051, .goto 233, 3), (1054, .aload_n 1, 1), (1055, .aload_n 0, 1), (1056, .iload_n 3, 1), (1057, .iconst 1, 1), (1058, .iadd, 1), (1059, .iaload, 1), (1060, .invokevirtual 136, 3), (1063, .pop2, 1), (1064, .aload_n 2, 1), (1065, .aload_n 0, 1), (1066, .iload_n 3, 1), (1067, .iconst 1, 1), (1068, .iadd, 1), (1069, .iaload, 1), (1070, .invokevirtual 139, 3), (1073, .pop2, 1), (1074, .goto 210, 3), (1077, .aload_n 1, 1), (1078, .aload_n 0, 1), (1079, .iload_n 3, 1), (1080, .iconst 1, 1), (1081, .iadd, 1), (1082, .iaload, 1), (1083, .aload_n 0, 1), (1084, .iload_n 3, 1), (1085, .iconst 2, 1), (1086, .iadd, 1), (1087, .iaload, 1)]
theorem yo_z16_ok : ∀ q ∈ yo_z16, decode code q.1 = .ok q.2 := by decide +kernel
noncomputable def yo_z17 : List (Nat × (Instr × Nat)) := [(1088, .invokevirtual 140, 3), (1091, .pop, 1), (1092, .aload_n 2, 1), (1093, .aload_n 0, 1), (1094, .iload_n 3, 1), (1095, .iconst 1, 1), (1096, .iadd, 1), (1097, .iaload, 1), (1098, .aload_n 0, 1), (1099, .iload_n 3, 1), (1100, .iconst 2, 1), (1101, .iadd, 1), (1102, .iaload, 1), (1103, .invokevirtual 143, 3), (1106, .pop, 1), (1107, .goto 177, 3), (1110, .aload_n 1, 1), (1111, .aload_n 0, 1), (1112, .iload_n 3, 1), (1113, .iconst 1, 1), (1114, .iadd, 1), (1115, .iaload, 1), (1116, .aload_n 0, 1), (1117, .iload_n 3, 1), (1118, .iconst 2, 1), (1119, .iadd, 1), (1120, .iaload, 1), (1121, .invokevirtual 144, 3), (1124, .pop, 1), (1125, .aload_n 2, 1), (1126, .aload_n 0, 1), (1127, .iload_n 3, 1), (1128, .iconst 1, 1), (1129, .iadd, 1), (1130, .iaload, 1), (1131, .aload_n 0, 1), (1132, .iload_n 3, 1), (1133, .iconst 2, 1), (1134, .iadd, 1), (1135, .iaload, 1), (1136, .invokevirtual 147, 3), (1139, .pop, 1), (1140, .goto 144, 3), (1143, .aload_n 1, 1), (1144, .aload_n 0, 1), (1145, .iload_n 3, 1), (1146, .iconst 1, 1), (1147, .iadd, 1), (1148, .iaload, 1), (1149, .aload_n 0, 1), (1150, .iload_n 3, 1), (1151, .iconst 2, 1)]
theorem yo_z17_ok : ∀ q ∈ yo_z17, decode code q.1 = .ok q.2 := by decide +kernel
noncomputable def yo_z18 : List (Nat × (Instr × Nat)) := [(1152, .iadd, 1), (1153, .iaload, 1), (1154, .invokevirtual 148, 3), (1157, .pop, 1), (1158, .aload_n 2, 1), (1159, .aload_n 0, 1), (1160, .iload_n 3, 1), (1161, .iconst 1, 1), (1162, .iadd, 1), (1163, .iaload, 1), (1164, .aload_n 0, 1), (1165, .iload_n 3, 1), (1166, .iconst 2, 1), (1167, .iadd, 1), (1168, .iaload, 1), (1169, .invokevirtual 151, 3), (1172, .pop, 1), (1173, .goto 111, 3), (1176, .aload_n 1, 1), (1177, .invokevirtual 152, 3), (1180, .pop, 1), (1181, .aload_n 2, 1), (1182, .invokevirtual 155, 3), (1185, .pop, 1), (1186, .goto 98, 3), (1189, .aload_n 1, 1), (1190, .invokevirtual 156, 3), (1193, .pop, 1), (1194, .aload_n 2, 1), (1195, .invokevirtual 159, 3), (1198, .pop, 1), (1199, .goto 85, 3), (1202, .aload_n 1, 1), (1203, .aload_n 0, 1), (1204, .iload_n 3, 1), (1205, .iconst 1, 1), (1206, .iadd, 1), (1207, .iaload, 1), (1208, .invokevirtual 160, 3), (1211, .pop, 1), (1212, .aload_n 2, 1), (1213, .aload_n 0, 1), (1214, .iload_n 3, 1), (1215, .iconst 1, 1)]
theorem yo_z18_ok : ∀ q ∈ yo_z18, decode code q.1 = .ok q.2 := by decide +kernel
noncomputable def yo_z19 : List (Nat × (Instr × Nat)) := [(1216, .iadd, 1), (1217, .iaload, 1), (1218, .invokevirtual 163, 3), (1221, .pop, 1), (1222, .goto 62, 3), (1225, .aload_n 1, 1), (1226, .aload_n 0, 1), (1227, .iload_n 3, 1), (1228, .iconst 1, 1), (1229, .iadd, 1), (1230, .iaload, 1), (1231, .invokevirtual 164, 3), (1234, .pop, 1), (1235, .aload_n 2, 1), (1236, .aload_n 0, 1), (1237, .iload_n 3, 1), (1238, .iconst 1, 1), (1239, .iadd, 1), (1240, .iaload, 1), (1241, .invokevirtual 167, 3), (1244, .pop, 1), (1245, .goto 39, 3), (1248, .aload_n 1, 1), (1249, .aload_n 0, 1), (1250, .iload_n 3, 1), (1251, .iconst 1, 1), (1252, .iadd, 1), (1253, .iaload, 1), (1254, .invokevirtual 168, 3), (1257, .pop, 1), (1258, .aload_n 2, 1), (1259, .aload_n 0, 1), (1260, .iload_n 3, 1), (1261, .iconst 1, 1), (1262, .iadd, 1), (1263, .iaload, 1), (1264, .invokevirtual 171, 3), (1267, .pop, 1), (1268, .goto 16, 3), (1271, .aload_n 1, 1), (1272, .invokevirtual 172, 3), (1275, .pop, 1), (1276, .aload_n 2, 1), (1277, .invokevirtual 175, 3)]
theorem yo_z19_ok : ∀ q ∈ yo_z19, decode code q.1 = .ok q.2 := by decide +kernel
noncomputable def yo_z20 : List (Nat × (Instr × Nat)) := [(1280, .pop, 1), (1281, .goto 3, 3), (1284, .iinc 3 6, 3), (1287, .goto (-1269), 3), (1290, .iconst 1, 1), (1291, .ireturn, 1)]
theorem yo_z20_ok : ∀ q ∈ yo_z20, decode code q.1 = .ok q.2 := by decide +kernel
noncomputable def yo_tab : List (List (Nat × (Instr × Nat))) := [yo_z0, yo_z1, yo_z2, yo_z3, yo_z4, yo_z5, yo_z6, yo_z7, yo_z8, yo_z9, yo_z10, yo_z11, yo_z12, yo_z13, yo_z14, yo_z15, yo_z16, yo_z17, yo_z18, yo_z19, yo_z20]
theorem yo_tab_ok : ∀ t ∈ yo_tab, ∀ q ∈ t, decode code q.1 = .ok q.2 := List.forall_mem_cons.mpr ⟨yo_z0_ok, List.forall_mem_cons.mpr ⟨yo_z1_ok, List.forall_mem_cons.mpr ⟨yo_z2_ok, List.forall_mem_cons.mpr ⟨yo_z3_ok, List.forall_mem_cons.mpr ⟨yo_z4_ok, List.forall_mem_cons.mpr ⟨yo_z5_ok, List.forall_mem_cons.mpr ⟨yo_z6_ok, List.forall_mem_cons.mpr ⟨yo_z7_ok, List.forall_mem_cons.mpr ⟨yo_z8_ok, List.forall_mem_cons.mpr ⟨yo_z9_ok, List.forall_mem_cons.mpr ⟨yo_z10_ok, List.forall_mem_cons.mpr ⟨yo_z11_ok, List.forall_mem_cons.mpr ⟨yo_z12_ok, List.forall_mem_cons.mpr ⟨yo_z13_ok, List.forall_mem_cons.mpr ⟨yo_z14_ok, List.forall_mem_cons.mpr ⟨yo_z15_ok, List.forall_mem_cons.mpr ⟨yo_z16_ok, List.forall_mem_cons.mpr ⟨yo_z17_ok, List.forall_mem_cons.mpr ⟨yo_z18_ok, List.forall_mem_cons.mpr ⟨yo_z19_ok, List.forall_mem_cons.mpr ⟨yo_z20_ok, fun _ h => absurd h List.not_mem_nil⟩⟩⟩⟩⟩⟩⟩⟩⟩⟩⟩⟩⟩⟩⟩⟩⟩⟩⟩⟩⟩
noncomputable def yo_nx (pc : Nat) : Option (Instr × Nat) := match yo_tab[pc / 64]? with
  | some t => t.lookup pc
  | none => none
theorem yo_nx_ok : ∀ pc i, yo_nx pc = some i → decode code pc = .ok i := by
  intro pc i h
  unfold yo_nx at h
  split at h
  · rename_i t ht
    exact yo_tab_ok t (List.mem_of_getElem? ht) (pc, i) (ys_lk3 _ _ _ h)
  · cases h
noncomputable def yo_B : ys_B := ([(0, 3072)], [])
noncomputable def yo_K : ys_K := (((yL_law, code, 4, ret), (10, 400)), ([], yo_B, ([], [])), ([], List.range 122))
noncomputable abbrev yo_T : List Cond := ys_ws yG (ys_K0 yX11_init cX11_init 2 0 0 0)
noncomputable def yo_cj : List (Nat × Int) := [(36, 4294967295)]
theorem yo_lk : ys_Lk RL yo_T vwCl [] [] yo_cj [] := ⟨fun _ _ _ _ h => (by cases h), fun _ _ h => (by cases h), yg_cjc_ok (pls := [(7, 215)]) (by decide +kernel) _, fun _ h => (by cases h)⟩
theorem yo_w13 : ∀ w ∈ wsV RL 13 RX11 yX11_point [Cond.code yX11_point cX11_point 4 (some .int)], w ∈ yG := List.forall_mem_cons.mpr ⟨yG_at (2, 212) rfl, List.forall_mem_cons.mpr ⟨yG_at (2, 213) rfl, List.forall_mem_cons.mpr ⟨yG_at (2, 214) rfl, List.forall_mem_cons.mpr ⟨yG_at (1, 1) rfl, List.forall_mem_cons.mpr ⟨yG_at (2, 215) rfl, fun _ h => absurd h List.not_mem_nil⟩⟩⟩⟩⟩
theorem yo_w17 : ∀ w ∈ wsV RL 17 RX12 yX12_point [Cond.code yX12_point cX12_point 4 (some .int)], w ∈ yG := List.forall_mem_cons.mpr ⟨yG_at (6, 97) rfl, List.forall_mem_cons.mpr ⟨yG_at (6, 98) rfl, List.forall_mem_cons.mpr ⟨yG_at (6, 99) rfl, List.forall_mem_cons.mpr ⟨yG_at (1, 13) rfl, List.forall_mem_cons.mpr ⟨yG_at (6, 100) rfl, fun _ h => absurd h List.not_mem_nil⟩⟩⟩⟩⟩
theorem yo_w18 : ∀ w ∈ wsV RL 18 RX11 yX11_of [Cond.code yX11_of cX11_of 3 (some .int)], w ∈ yG := List.forall_mem_cons.mpr ⟨yG_at (2, 232) rfl, List.forall_mem_cons.mpr ⟨yG_at (2, 233) rfl, List.forall_mem_cons.mpr ⟨yG_at (2, 234) rfl, List.forall_mem_cons.mpr ⟨yG_at (1, 1) rfl, List.forall_mem_cons.mpr ⟨yG_at (2, 235) rfl, fun _ h => absurd h List.not_mem_nil⟩⟩⟩⟩⟩
theorem yo_w22 : ∀ w ∈ wsV RL 22 RX12 yX12_of [Cond.code yX12_of cX12_of 3 (some .int)], w ∈ yG := List.forall_mem_cons.mpr ⟨yG_at (6, 114) rfl, List.forall_mem_cons.mpr ⟨yG_at (6, 115) rfl, List.forall_mem_cons.mpr ⟨yG_at (6, 116) rfl, List.forall_mem_cons.mpr ⟨yG_at (1, 13) rfl, List.forall_mem_cons.mpr ⟨yG_at (6, 117) rfl, fun _ h => absurd h List.not_mem_nil⟩⟩⟩⟩⟩
theorem yo_w23 : ∀ w ∈ wsV RL 23 RX11 yX11_drop [Cond.code yX11_drop cX11_drop 2 (some .int)], w ∈ yG := List.forall_mem_cons.mpr ⟨yG_at (3, 0) rfl, List.forall_mem_cons.mpr ⟨yG_at (3, 1) rfl, List.forall_mem_cons.mpr ⟨yG_at (3, 2) rfl, List.forall_mem_cons.mpr ⟨yG_at (1, 1) rfl, List.forall_mem_cons.mpr ⟨yG_at (3, 3) rfl, fun _ h => absurd h List.not_mem_nil⟩⟩⟩⟩⟩
theorem yo_w27 : ∀ w ∈ wsV RL 27 RX12 yX12_drop [Cond.code yX12_drop cX12_drop 3 (some .int)], w ∈ yG := List.forall_mem_cons.mpr ⟨yG_at (6, 123) rfl, List.forall_mem_cons.mpr ⟨yG_at (6, 124) rfl, List.forall_mem_cons.mpr ⟨yG_at (6, 125) rfl, List.forall_mem_cons.mpr ⟨yG_at (1, 13) rfl, List.forall_mem_cons.mpr ⟨yG_at (6, 126) rfl, fun _ h => absurd h List.not_mem_nil⟩⟩⟩⟩⟩
theorem yo_w28 : ∀ w ∈ wsV RL 28 RX11 yX11_paint [Cond.code yX11_paint cX11_paint 4 (some .int)], w ∈ yG := List.forall_mem_cons.mpr ⟨yG_at (3, 9) rfl, List.forall_mem_cons.mpr ⟨yG_at (3, 10) rfl, List.forall_mem_cons.mpr ⟨yG_at (3, 11) rfl, List.forall_mem_cons.mpr ⟨yG_at (1, 1) rfl, List.forall_mem_cons.mpr ⟨yG_at (3, 12) rfl, fun _ h => absurd h List.not_mem_nil⟩⟩⟩⟩⟩
theorem yo_w31 : ∀ w ∈ wsV RL 31 RX12 yX12_paint [Cond.code yX12_paint cX12_paint 4 (some .int)], w ∈ yG := List.forall_mem_cons.mpr ⟨yG_at (6, 127) rfl, List.forall_mem_cons.mpr ⟨yG_at (6, 128) rfl, List.forall_mem_cons.mpr ⟨yG_at (6, 129) rfl, List.forall_mem_cons.mpr ⟨yG_at (1, 13) rfl, List.forall_mem_cons.mpr ⟨yG_at (6, 130) rfl, fun _ h => absurd h List.not_mem_nil⟩⟩⟩⟩⟩
theorem yo_w32 : ∀ w ∈ wsV RL 32 RX11 yX11_sheet [Cond.code yX11_sheet cX11_sheet 4 (some .int)], w ∈ yG := List.forall_mem_cons.mpr ⟨yG_at (3, 17) rfl, List.forall_mem_cons.mpr ⟨yG_at (3, 18) rfl, List.forall_mem_cons.mpr ⟨yG_at (3, 19) rfl, List.forall_mem_cons.mpr ⟨yG_at (1, 1) rfl, List.forall_mem_cons.mpr ⟨yG_at (3, 20) rfl, fun _ h => absurd h List.not_mem_nil⟩⟩⟩⟩⟩
theorem yo_w35 : ∀ w ∈ wsV RL 35 RX12 yX12_sheet [Cond.code yX12_sheet cX12_sheet 5 (some .int)], w ∈ yG := List.forall_mem_cons.mpr ⟨yG_at (6, 132) rfl, List.forall_mem_cons.mpr ⟨yG_at (6, 133) rfl, List.forall_mem_cons.mpr ⟨yG_at (6, 134) rfl, List.forall_mem_cons.mpr ⟨yG_at (1, 13) rfl, List.forall_mem_cons.mpr ⟨yG_at (6, 135) rfl, fun _ h => absurd h List.not_mem_nil⟩⟩⟩⟩⟩
theorem yo_w38 : ∀ w ∈ wsV RL 38 RX11 yX11_write [Cond.code yX11_write cX11_write 5 (some .int)], w ∈ yG := List.forall_mem_cons.mpr ⟨yG_at (3, 35) rfl, List.forall_mem_cons.mpr ⟨yG_at (3, 36) rfl, List.forall_mem_cons.mpr ⟨yG_at (3, 37) rfl, List.forall_mem_cons.mpr ⟨yG_at (1, 1) rfl, List.forall_mem_cons.mpr ⟨yG_at (3, 38) rfl, fun _ h => absurd h List.not_mem_nil⟩⟩⟩⟩⟩
theorem yo_w42 : ∀ w ∈ wsV RL 42 RX12 yX12_write [Cond.code yX12_write cX12_write 5 (some .int)], w ∈ yG := List.forall_mem_cons.mpr ⟨yG_at (6, 139) rfl, List.forall_mem_cons.mpr ⟨yG_at (6, 140) rfl, List.forall_mem_cons.mpr ⟨yG_at (6, 141) rfl, List.forall_mem_cons.mpr ⟨yG_at (1, 13) rfl, List.forall_mem_cons.mpr ⟨yG_at (6, 142) rfl, fun _ h => absurd h List.not_mem_nil⟩⟩⟩⟩⟩
theorem yo_w43 : ∀ w ∈ wsV RL 43 RX11 yX11_read [Cond.code yX11_read cX11_read 3 (some .long)], w ∈ yG := List.forall_mem_cons.mpr ⟨yG_at (3, 51) rfl, List.forall_mem_cons.mpr ⟨yG_at (3, 52) rfl, List.forall_mem_cons.mpr ⟨yG_at (3, 53) rfl, List.forall_mem_cons.mpr ⟨yG_at (1, 1) rfl, List.forall_mem_cons.mpr ⟨yG_at (3, 54) rfl, fun _ h => absurd h List.not_mem_nil⟩⟩⟩⟩⟩
theorem yo_w47 : ∀ w ∈ wsV RL 47 RX12 yX12_read [Cond.code yX12_read cX12_read 3 (some .long)], w ∈ yG := List.forall_mem_cons.mpr ⟨yG_at (6, 146) rfl, List.forall_mem_cons.mpr ⟨yG_at (6, 147) rfl, List.forall_mem_cons.mpr ⟨yG_at (6, 148) rfl, List.forall_mem_cons.mpr ⟨yG_at (1, 13) rfl, List.forall_mem_cons.mpr ⟨yG_at (6, 149) rfl, fun _ h => absurd h List.not_mem_nil⟩⟩⟩⟩⟩
theorem yo_w48 : ∀ w ∈ wsV RL 48 RX11 yX11_copy [Cond.code yX11_copy cX11_copy 6 (some .int)], w ∈ yG := List.forall_mem_cons.mpr ⟨yG_at (3, 56) rfl, List.forall_mem_cons.mpr ⟨yG_at (3, 57) rfl, List.forall_mem_cons.mpr ⟨yG_at (3, 58) rfl, List.forall_mem_cons.mpr ⟨yG_at (1, 1) rfl, List.forall_mem_cons.mpr ⟨yG_at (3, 59) rfl, fun _ h => absurd h List.not_mem_nil⟩⟩⟩⟩⟩
theorem yo_w52 : ∀ w ∈ wsV RL 52 RX12 yX12_copy [Cond.code yX12_copy cX12_copy 7 (some .int)], w ∈ yG := List.forall_mem_cons.mpr ⟨yG_at (6, 151) rfl, List.forall_mem_cons.mpr ⟨yG_at (6, 152) rfl, List.forall_mem_cons.mpr ⟨yG_at (6, 153) rfl, List.forall_mem_cons.mpr ⟨yG_at (1, 13) rfl, List.forall_mem_cons.mpr ⟨yG_at (6, 154) rfl, fun _ h => absurd h List.not_mem_nil⟩⟩⟩⟩⟩
theorem yo_w53 : ∀ w ∈ wsV RL 53 RX11 yX11_take [Cond.code yX11_take cX11_take 7 (some .int)], w ∈ yG := List.forall_mem_cons.mpr ⟨yG_at (3, 71) rfl, List.forall_mem_cons.mpr ⟨yG_at (3, 72) rfl, List.forall_mem_cons.mpr ⟨yG_at (3, 73) rfl, List.forall_mem_cons.mpr ⟨yG_at (1, 1) rfl, List.forall_mem_cons.mpr ⟨yG_at (3, 74) rfl, fun _ h => absurd h List.not_mem_nil⟩⟩⟩⟩⟩
theorem yo_w57 : ∀ w ∈ wsV RL 57 RX12 yX12_take [Cond.code yX12_take cX12_take 10 (some .int)], w ∈ yG := List.forall_mem_cons.mpr ⟨yG_at (6, 155) rfl, List.forall_mem_cons.mpr ⟨yG_at (6, 156) rfl, List.forall_mem_cons.mpr ⟨yG_at (6, 157) rfl, List.forall_mem_cons.mpr ⟨yG_at (1, 13) rfl, List.forall_mem_cons.mpr ⟨yG_at (6, 158) rfl, fun _ h => absurd h List.not_mem_nil⟩⟩⟩⟩⟩
theorem yo_w58 : ∀ w ∈ wsV RL 58 RX11 yX11_parted [Cond.code yX11_parted cX11_parted 1 (some .int)], w ∈ yG := List.forall_mem_cons.mpr ⟨yG_at (3, 91) rfl, List.forall_mem_cons.mpr ⟨yG_at (3, 92) rfl, List.forall_mem_cons.mpr ⟨yG_at (3, 93) rfl, List.forall_mem_cons.mpr ⟨yG_at (1, 1) rfl, List.forall_mem_cons.mpr ⟨yG_at (3, 94) rfl, fun _ h => absurd h List.not_mem_nil⟩⟩⟩⟩⟩
theorem yo_w62 : ∀ w ∈ wsV RL 62 RX12 yX12_parted [Cond.code yX12_parted cX12_parted 1 (some .int)], w ∈ yG := List.forall_mem_cons.mpr ⟨yG_at (6, 161) rfl, List.forall_mem_cons.mpr ⟨yG_at (6, 162) rfl, List.forall_mem_cons.mpr ⟨yG_at (6, 163) rfl, List.forall_mem_cons.mpr ⟨yG_at (1, 13) rfl, List.forall_mem_cons.mpr ⟨yG_at (6, 164) rfl, fun _ h => absurd h List.not_mem_nil⟩⟩⟩⟩⟩
theorem yo_w63 : ∀ w ∈ wsV RL 63 RX11 yX11_wide [Cond.code yX11_wide cX11_wide 2 (some .long)], w ∈ yG := List.forall_mem_cons.mpr ⟨yG_at (3, 162) rfl, List.forall_mem_cons.mpr ⟨yG_at (3, 163) rfl, List.forall_mem_cons.mpr ⟨yG_at (3, 164) rfl, List.forall_mem_cons.mpr ⟨yG_at (1, 1) rfl, List.forall_mem_cons.mpr ⟨yG_at (3, 165) rfl, fun _ h => absurd h List.not_mem_nil⟩⟩⟩⟩⟩
theorem yo_w67 : ∀ w ∈ wsV RL 67 RX12 yX12_wide [Cond.code yX12_wide cX12_wide 12 (some .long)], w ∈ yG := List.forall_mem_cons.mpr ⟨yG_at (7, 17) rfl, List.forall_mem_cons.mpr ⟨yG_at (7, 18) rfl, List.forall_mem_cons.mpr ⟨yG_at (7, 19) rfl, List.forall_mem_cons.mpr ⟨yG_at (1, 13) rfl, List.forall_mem_cons.mpr ⟨yG_at (7, 20) rfl, fun _ h => absurd h List.not_mem_nil⟩⟩⟩⟩⟩
theorem yo_w68 : ∀ w ∈ wsV RL 68 RX11 yX11_side [Cond.code yX11_side cX11_side 2 (some .int)], w ∈ yG := List.forall_mem_cons.mpr ⟨yG_at (3, 168) rfl, List.forall_mem_cons.mpr ⟨yG_at (3, 169) rfl, List.forall_mem_cons.mpr ⟨yG_at (3, 170) rfl, List.forall_mem_cons.mpr ⟨yG_at (1, 1) rfl, List.forall_mem_cons.mpr ⟨yG_at (3, 171) rfl, fun _ h => absurd h List.not_mem_nil⟩⟩⟩⟩⟩
theorem yo_w71 : ∀ w ∈ wsV RL 71 RX12 yX12_side [Cond.code yX12_side cX12_side 2 (some .int)], w ∈ yG := List.forall_mem_cons.mpr ⟨yG_at (7, 39) rfl, List.forall_mem_cons.mpr ⟨yG_at (7, 40) rfl, List.forall_mem_cons.mpr ⟨yG_at (7, 41) rfl, List.forall_mem_cons.mpr ⟨yG_at (1, 13) rfl, List.forall_mem_cons.mpr ⟨yG_at (7, 42) rfl, fun _ h => absurd h List.not_mem_nil⟩⟩⟩⟩⟩
theorem yo_w72 : ∀ w ∈ wsV RL 72 RX11 yX11_meet [Cond.code yX11_meet cX11_meet 2 (some .long)], w ∈ yG := List.forall_mem_cons.mpr ⟨yG_at (3, 173) rfl, List.forall_mem_cons.mpr ⟨yG_at (3, 174) rfl, List.forall_mem_cons.mpr ⟨yG_at (3, 175) rfl, List.forall_mem_cons.mpr ⟨yG_at (1, 1) rfl, List.forall_mem_cons.mpr ⟨yG_at (3, 176) rfl, fun _ h => absurd h List.not_mem_nil⟩⟩⟩⟩⟩
theorem yo_w75 : ∀ w ∈ wsV RL 75 RX12 yX12_meet [Cond.code yX12_meet cX12_meet 4 (some .long)], w ∈ yG := List.forall_mem_cons.mpr ⟨yG_at (6, 237) rfl, List.forall_mem_cons.mpr ⟨yG_at (6, 238) rfl, List.forall_mem_cons.mpr ⟨yG_at (6, 239) rfl, List.forall_mem_cons.mpr ⟨yG_at (1, 13) rfl, List.forall_mem_cons.mpr ⟨yG_at (7, 0) rfl, fun _ h => absurd h List.not_mem_nil⟩⟩⟩⟩⟩
theorem yo_w76 : ∀ w ∈ wsV RL 76 RX11 yX11_check [Cond.code yX11_check cX11_check 9 (some .int)], w ∈ yG := List.forall_mem_cons.mpr ⟨yG_at (4, 33) rfl, List.forall_mem_cons.mpr ⟨yG_at (4, 34) rfl, List.forall_mem_cons.mpr ⟨yG_at (4, 35) rfl, List.forall_mem_cons.mpr ⟨yG_at (1, 1) rfl, List.forall_mem_cons.mpr ⟨yG_at (4, 36) rfl, fun _ h => absurd h List.not_mem_nil⟩⟩⟩⟩⟩
theorem yo_w79 : ∀ w ∈ wsV RL 79 RX12 yX12_check [Cond.code yX12_check cX12_check 6 (some .int)], w ∈ yG := List.forall_mem_cons.mpr ⟨yG_at (7, 43) rfl, List.forall_mem_cons.mpr ⟨yG_at (7, 44) rfl, List.forall_mem_cons.mpr ⟨yG_at (7, 45) rfl, List.forall_mem_cons.mpr ⟨yG_at (1, 13) rfl, List.forall_mem_cons.mpr ⟨yG_at (7, 46) rfl, fun _ h => absurd h List.not_mem_nil⟩⟩⟩⟩⟩
theorem yo_w80 : ∀ w ∈ wsV RL 80 RX11 yX11_ways [Cond.code yX11_ways cX11_ways 2 (some .int)], w ∈ yG := List.forall_mem_cons.mpr ⟨yG_at (4, 48) rfl, List.forall_mem_cons.mpr ⟨yG_at (4, 49) rfl, List.forall_mem_cons.mpr ⟨yG_at (4, 50) rfl, List.forall_mem_cons.mpr ⟨yG_at (1, 1) rfl, List.forall_mem_cons.mpr ⟨yG_at (4, 51) rfl, fun _ h => absurd h List.not_mem_nil⟩⟩⟩⟩⟩
theorem yo_w83 : ∀ w ∈ wsV RL 83 RX12 yX12_ways [Cond.code yX12_ways cX12_ways 4 (some .int)], w ∈ yG := List.forall_mem_cons.mpr ⟨yG_at (7, 54) rfl, List.forall_mem_cons.mpr ⟨yG_at (7, 55) rfl, List.forall_mem_cons.mpr ⟨yG_at (7, 56) rfl, List.forall_mem_cons.mpr ⟨yG_at (1, 13) rfl, List.forall_mem_cons.mpr ⟨yG_at (7, 57) rfl, fun _ h => absurd h List.not_mem_nil⟩⟩⟩⟩⟩
theorem yo_w84 : ∀ w ∈ wsV RL 84 RX11 yX11_isWay [Cond.code yX11_isWay cX11_isWay 3 (some .int)], w ∈ yG := List.forall_mem_cons.mpr ⟨yG_at (4, 86) rfl, List.forall_mem_cons.mpr ⟨yG_at (4, 87) rfl, List.forall_mem_cons.mpr ⟨yG_at (4, 88) rfl, List.forall_mem_cons.mpr ⟨yG_at (1, 1) rfl, List.forall_mem_cons.mpr ⟨yG_at (4, 89) rfl, fun _ h => absurd h List.not_mem_nil⟩⟩⟩⟩⟩
theorem yo_w87 : ∀ w ∈ wsV RL 87 RX12 yX12_isWay [Cond.code yX12_isWay cX12_isWay 3 (some .int)], w ∈ yG := List.forall_mem_cons.mpr ⟨yG_at (7, 79) rfl, List.forall_mem_cons.mpr ⟨yG_at (7, 80) rfl, List.forall_mem_cons.mpr ⟨yG_at (7, 81) rfl, List.forall_mem_cons.mpr ⟨yG_at (1, 13) rfl, List.forall_mem_cons.mpr ⟨yG_at (7, 82) rfl, fun _ h => absurd h List.not_mem_nil⟩⟩⟩⟩⟩
theorem yo_w88 : ∀ w ∈ wsV RL 88 RX11 yX11_best [Cond.code yX11_best cX11_best 3 (some .int)], w ∈ yG := List.forall_mem_cons.mpr ⟨yG_at (4, 97) rfl, List.forall_mem_cons.mpr ⟨yG_at (4, 98) rfl, List.forall_mem_cons.mpr ⟨yG_at (4, 99) rfl, List.forall_mem_cons.mpr ⟨yG_at (1, 1) rfl, List.forall_mem_cons.mpr ⟨yG_at (4, 100) rfl, fun _ h => absurd h List.not_mem_nil⟩⟩⟩⟩⟩
theorem yo_w91 : ∀ w ∈ wsV RL 91 RX12 yX12_best [Cond.code yX12_best cX12_best 8 (some .int)], w ∈ yG := List.forall_mem_cons.mpr ⟨yG_at (7, 83) rfl, List.forall_mem_cons.mpr ⟨yG_at (7, 84) rfl, List.forall_mem_cons.mpr ⟨yG_at (7, 85) rfl, List.forall_mem_cons.mpr ⟨yG_at (1, 13) rfl, List.forall_mem_cons.mpr ⟨yG_at (7, 86) rfl, fun _ h => absurd h List.not_mem_nil⟩⟩⟩⟩⟩
theorem yo_w92 : ∀ w ∈ wsV RL 92 RX11 yX11_shatter [Cond.code yX11_shatter cX11_shatter 2 (some .int)], w ∈ yG := List.forall_mem_cons.mpr ⟨yG_at (4, 109) rfl, List.forall_mem_cons.mpr ⟨yG_at (4, 110) rfl, List.forall_mem_cons.mpr ⟨yG_at (4, 111) rfl, List.forall_mem_cons.mpr ⟨yG_at (1, 1) rfl, List.forall_mem_cons.mpr ⟨yG_at (4, 112) rfl, fun _ h => absurd h List.not_mem_nil⟩⟩⟩⟩⟩
theorem yo_w95 : ∀ w ∈ wsV RL 95 RX12 yX12_shatter [Cond.code yX12_shatter cX12_shatter 5 (some .int)], w ∈ yG := List.forall_mem_cons.mpr ⟨yG_at (7, 88) rfl, List.forall_mem_cons.mpr ⟨yG_at (7, 89) rfl, List.forall_mem_cons.mpr ⟨yG_at (7, 90) rfl, List.forall_mem_cons.mpr ⟨yG_at (1, 13) rfl, List.forall_mem_cons.mpr ⟨yG_at (7, 91) rfl, fun _ h => absurd h List.not_mem_nil⟩⟩⟩⟩⟩
theorem yo_w96 : ∀ w ∈ wsV RL 96 RX11 yX11_learn [Cond.code yX11_learn cX11_learn 2 (some .int)], w ∈ yG := List.forall_mem_cons.mpr ⟨yG_at (4, 126) rfl, List.forall_mem_cons.mpr ⟨yG_at (4, 127) rfl, List.forall_mem_cons.mpr ⟨yG_at (4, 128) rfl, List.forall_mem_cons.mpr ⟨yG_at (1, 1) rfl, List.forall_mem_cons.mpr ⟨yG_at (4, 129) rfl, fun _ h => absurd h List.not_mem_nil⟩⟩⟩⟩⟩
theorem yo_w99 : ∀ w ∈ wsV RL 99 RX12 yX12_learn [Cond.code yX12_learn cX12_learn 11 (some .int)], w ∈ yG := List.forall_mem_cons.mpr ⟨yG_at (7, 92) rfl, List.forall_mem_cons.mpr ⟨yG_at (7, 93) rfl, List.forall_mem_cons.mpr ⟨yG_at (7, 94) rfl, List.forall_mem_cons.mpr ⟨yG_at (1, 13) rfl, List.forall_mem_cons.mpr ⟨yG_at (7, 95) rfl, fun _ h => absurd h List.not_mem_nil⟩⟩⟩⟩⟩
theorem yo_w100 : ∀ w ∈ wsV RL 100 RX11 yX11_learnt [Cond.code yX11_learnt cX11_learnt 2 (some .long)], w ∈ yG := List.forall_mem_cons.mpr ⟨yG_at (4, 142) rfl, List.forall_mem_cons.mpr ⟨yG_at (4, 143) rfl, List.forall_mem_cons.mpr ⟨yG_at (4, 144) rfl, List.forall_mem_cons.mpr ⟨yG_at (1, 1) rfl, List.forall_mem_cons.mpr ⟨yG_at (4, 145) rfl, fun _ h => absurd h List.not_mem_nil⟩⟩⟩⟩⟩
theorem yo_w103 : ∀ w ∈ wsV RL 103 RX12 yX12_learnt [Cond.code yX12_learnt cX12_learnt 2 (some .long)], w ∈ yG := List.forall_mem_cons.mpr ⟨yG_at (7, 96) rfl, List.forall_mem_cons.mpr ⟨yG_at (7, 97) rfl, List.forall_mem_cons.mpr ⟨yG_at (7, 98) rfl, List.forall_mem_cons.mpr ⟨yG_at (1, 13) rfl, List.forall_mem_cons.mpr ⟨yG_at (7, 99) rfl, fun _ h => absurd h List.not_mem_nil⟩⟩⟩⟩⟩
theorem yo_w104 : ∀ w ∈ wsV RL 104 RX11 yX11_anew [Cond.code yX11_anew cX11_anew 1 (some .int)], w ∈ yG := List.forall_mem_cons.mpr ⟨yG_at (4, 146) rfl, List.forall_mem_cons.mpr ⟨yG_at (4, 147) rfl, List.forall_mem_cons.mpr ⟨yG_at (4, 148) rfl, List.forall_mem_cons.mpr ⟨yG_at (1, 1) rfl, List.forall_mem_cons.mpr ⟨yG_at (4, 149) rfl, fun _ h => absurd h List.not_mem_nil⟩⟩⟩⟩⟩
theorem yo_w107 : ∀ w ∈ wsV RL 107 RX12 yX12_anew [Cond.code yX12_anew cX12_anew 1 (some .int)], w ∈ yG := List.forall_mem_cons.mpr ⟨yG_at (7, 100) rfl, List.forall_mem_cons.mpr ⟨yG_at (7, 101) rfl, List.forall_mem_cons.mpr ⟨yG_at (7, 102) rfl, List.forall_mem_cons.mpr ⟨yG_at (1, 13) rfl, List.forall_mem_cons.mpr ⟨yG_at (7, 103) rfl, fun _ h => absurd h List.not_mem_nil⟩⟩⟩⟩⟩
theorem yo_w108 : ∀ w ∈ wsV RL 108 RX11 yX11_judge [Cond.code yX11_judge cX11_judge 4 (some .int)], w ∈ yG := List.forall_mem_cons.mpr ⟨yG_at (4, 154) rfl, List.forall_mem_cons.mpr ⟨yG_at (4, 155) rfl, List.forall_mem_cons.mpr ⟨yG_at (4, 156) rfl, List.forall_mem_cons.mpr ⟨yG_at (1, 1) rfl, List.forall_mem_cons.mpr ⟨yG_at (4, 157) rfl, fun _ h => absurd h List.not_mem_nil⟩⟩⟩⟩⟩
theorem yo_w111 : ∀ w ∈ wsV RL 111 RX12 yX12_judge [Cond.code yX12_judge cX12_judge 4 (some .int)], w ∈ yG := List.forall_mem_cons.mpr ⟨yG_at (7, 104) rfl, List.forall_mem_cons.mpr ⟨yG_at (7, 105) rfl, List.forall_mem_cons.mpr ⟨yG_at (7, 106) rfl, List.forall_mem_cons.mpr ⟨yG_at (1, 13) rfl, List.forall_mem_cons.mpr ⟨yG_at (7, 107) rfl, fun _ h => absurd h List.not_mem_nil⟩⟩⟩⟩⟩
theorem yo_w112 : ∀ w ∈ wsV RL 112 RX11 yX11_halve [Cond.code yX11_halve cX11_halve 1 (some .int)], w ∈ yG := List.forall_mem_cons.mpr ⟨yG_at (4, 162) rfl, List.forall_mem_cons.mpr ⟨yG_at (4, 163) rfl, List.forall_mem_cons.mpr ⟨yG_at (4, 164) rfl, List.forall_mem_cons.mpr ⟨yG_at (1, 1) rfl, List.forall_mem_cons.mpr ⟨yG_at (4, 165) rfl, fun _ h => absurd h List.not_mem_nil⟩⟩⟩⟩⟩
theorem yo_w115 : ∀ w ∈ wsV RL 115 RX12 yX12_halve [Cond.code yX12_halve cX12_halve 10 (some .int)], w ∈ yG := List.forall_mem_cons.mpr ⟨yG_at (7, 108) rfl, List.forall_mem_cons.mpr ⟨yG_at (7, 109) rfl, List.forall_mem_cons.mpr ⟨yG_at (7, 110) rfl, List.forall_mem_cons.mpr ⟨yG_at (1, 13) rfl, List.forall_mem_cons.mpr ⟨yG_at (7, 111) rfl, fun _ h => absurd h List.not_mem_nil⟩⟩⟩⟩⟩
theorem yo_w116 : ∀ w ∈ wsV RL 116 RX11 yX11_left [Cond.code yX11_left cX11_left 1 (some .int)], w ∈ yG := List.forall_mem_cons.mpr ⟨yG_at (4, 176) rfl, List.forall_mem_cons.mpr ⟨yG_at (4, 177) rfl, List.forall_mem_cons.mpr ⟨yG_at (4, 178) rfl, List.forall_mem_cons.mpr ⟨yG_at (1, 1) rfl, List.forall_mem_cons.mpr ⟨yG_at (4, 179) rfl, fun _ h => absurd h List.not_mem_nil⟩⟩⟩⟩⟩
theorem yo_w119 : ∀ w ∈ wsV RL 119 RX12 yX12_left [Cond.code yX12_left cX12_left 1 (some .int)], w ∈ yG := List.forall_mem_cons.mpr ⟨yG_at (7, 112) rfl, List.forall_mem_cons.mpr ⟨yG_at (7, 113) rfl, List.forall_mem_cons.mpr ⟨yG_at (7, 114) rfl, List.forall_mem_cons.mpr ⟨yG_at (1, 13) rfl, List.forall_mem_cons.mpr ⟨yG_at (7, 115) rfl, fun _ h => absurd h List.not_mem_nil⟩⟩⟩⟩⟩
theorem yo_w120 : ∀ w ∈ wsV RL 120 RX11 yX11_dismiss [Cond.code yX11_dismiss cX11_dismiss 2 (some .int)], w ∈ yG := List.forall_mem_cons.mpr ⟨yG_at (4, 180) rfl, List.forall_mem_cons.mpr ⟨yG_at (4, 181) rfl, List.forall_mem_cons.mpr ⟨yG_at (4, 182) rfl, List.forall_mem_cons.mpr ⟨yG_at (1, 1) rfl, List.forall_mem_cons.mpr ⟨yG_at (4, 183) rfl, fun _ h => absurd h List.not_mem_nil⟩⟩⟩⟩⟩
theorem yo_w123 : ∀ w ∈ wsV RL 123 RX12 yX12_dismiss [Cond.code yX12_dismiss cX12_dismiss 2 (some .int)], w ∈ yG := List.forall_mem_cons.mpr ⟨yG_at (7, 116) rfl, List.forall_mem_cons.mpr ⟨yG_at (7, 117) rfl, List.forall_mem_cons.mpr ⟨yG_at (7, 118) rfl, List.forall_mem_cons.mpr ⟨yG_at (1, 13) rfl, List.forall_mem_cons.mpr ⟨yG_at (7, 119) rfl, fun _ h => absurd h List.not_mem_nil⟩⟩⟩⟩⟩
theorem yo_w124 : ∀ w ∈ wsV RL 124 RX11 yX11_strong [Cond.code yX11_strong cX11_strong 2 (some .int)], w ∈ yG := List.forall_mem_cons.mpr ⟨yG_at (4, 184) rfl, List.forall_mem_cons.mpr ⟨yG_at (4, 185) rfl, List.forall_mem_cons.mpr ⟨yG_at (4, 186) rfl, List.forall_mem_cons.mpr ⟨yG_at (1, 1) rfl, List.forall_mem_cons.mpr ⟨yG_at (4, 187) rfl, fun _ h => absurd h List.not_mem_nil⟩⟩⟩⟩⟩
theorem yo_w127 : ∀ w ∈ wsV RL 127 RX12 yX12_strong [Cond.code yX12_strong cX12_strong 3 (some .int)], w ∈ yG := List.forall_mem_cons.mpr ⟨yG_at (7, 120) rfl, List.forall_mem_cons.mpr ⟨yG_at (7, 121) rfl, List.forall_mem_cons.mpr ⟨yG_at (7, 122) rfl, List.forall_mem_cons.mpr ⟨yG_at (1, 13) rfl, List.forall_mem_cons.mpr ⟨yG_at (7, 123) rfl, fun _ h => absurd h List.not_mem_nil⟩⟩⟩⟩⟩
theorem yo_w128 : ∀ w ∈ wsV RL 128 RX11 yX11_step [Cond.code yX11_step cX11_step 3 (some .long)], w ∈ yG := List.forall_mem_cons.mpr ⟨yG_at (4, 232) rfl, List.forall_mem_cons.mpr ⟨yG_at (4, 233) rfl, List.forall_mem_cons.mpr ⟨yG_at (4, 234) rfl, List.forall_mem_cons.mpr ⟨yG_at (1, 1) rfl, List.forall_mem_cons.mpr ⟨yG_at (4, 235) rfl, fun _ h => absurd h List.not_mem_nil⟩⟩⟩⟩⟩
theorem yo_w131 : ∀ w ∈ wsV RL 131 RX12 yX12_step [Cond.code yX12_step cX12_step 3 (some .long)], w ∈ yG := List.forall_mem_cons.mpr ⟨yG_at (7, 144) rfl, List.forall_mem_cons.mpr ⟨yG_at (7, 145) rfl, List.forall_mem_cons.mpr ⟨yG_at (7, 146) rfl, List.forall_mem_cons.mpr ⟨yG_at (1, 13) rfl, List.forall_mem_cons.mpr ⟨yG_at (7, 147) rfl, fun _ h => absurd h List.not_mem_nil⟩⟩⟩⟩⟩
theorem yo_w132 : ∀ w ∈ wsV RL 132 RX11 yX11_end [Cond.code yX11_end cX11_end 1 (some .int)], w ∈ yG := List.forall_mem_cons.mpr ⟨yG_at (4, 236) rfl, List.forall_mem_cons.mpr ⟨yG_at (4, 237) rfl, List.forall_mem_cons.mpr ⟨yG_at (4, 238) rfl, List.forall_mem_cons.mpr ⟨yG_at (1, 1) rfl, List.forall_mem_cons.mpr ⟨yG_at (4, 239) rfl, fun _ h => absurd h List.not_mem_nil⟩⟩⟩⟩⟩
theorem yo_w135 : ∀ w ∈ wsV RL 135 RX12 yX12_end [Cond.code yX12_end cX12_end 1 (some .int)], w ∈ yG := List.forall_mem_cons.mpr ⟨yG_at (7, 148) rfl, List.forall_mem_cons.mpr ⟨yG_at (7, 149) rfl, List.forall_mem_cons.mpr ⟨yG_at (7, 150) rfl, List.forall_mem_cons.mpr ⟨yG_at (1, 13) rfl, List.forall_mem_cons.mpr ⟨yG_at (7, 151) rfl, fun _ h => absurd h List.not_mem_nil⟩⟩⟩⟩⟩
theorem yo_w136 : ∀ w ∈ wsV RL 136 RX11 yX11_mass [Cond.code yX11_mass cX11_mass 2 (some .long)], w ∈ yG := List.forall_mem_cons.mpr ⟨yG_at (5, 0) rfl, List.forall_mem_cons.mpr ⟨yG_at (5, 1) rfl, List.forall_mem_cons.mpr ⟨yG_at (5, 2) rfl, List.forall_mem_cons.mpr ⟨yG_at (1, 1) rfl, List.forall_mem_cons.mpr ⟨yG_at (5, 3) rfl, fun _ h => absurd h List.not_mem_nil⟩⟩⟩⟩⟩
theorem yo_w139 : ∀ w ∈ wsV RL 139 RX12 yX12_mass [Cond.code yX12_mass cX12_mass 2 (some .long)], w ∈ yG := List.forall_mem_cons.mpr ⟨yG_at (7, 152) rfl, List.forall_mem_cons.mpr ⟨yG_at (7, 153) rfl, List.forall_mem_cons.mpr ⟨yG_at (7, 154) rfl, List.forall_mem_cons.mpr ⟨yG_at (1, 13) rfl, List.forall_mem_cons.mpr ⟨yG_at (7, 155) rfl, fun _ h => absurd h List.not_mem_nil⟩⟩⟩⟩⟩
theorem yo_w140 : ∀ w ∈ wsV RL 140 RX11 yX11_vote [Cond.code yX11_vote cX11_vote 3 (some .int)], w ∈ yG := List.forall_mem_cons.mpr ⟨yG_at (5, 4) rfl, List.forall_mem_cons.mpr ⟨yG_at (5, 5) rfl, List.forall_mem_cons.mpr ⟨yG_at (5, 6) rfl, List.forall_mem_cons.mpr ⟨yG_at (1, 1) rfl, List.forall_mem_cons.mpr ⟨yG_at (5, 7) rfl, fun _ h => absurd h List.not_mem_nil⟩⟩⟩⟩⟩
theorem yo_w143 : ∀ w ∈ wsV RL 143 RX12 yX12_vote [Cond.code yX12_vote cX12_vote 5 (some .int)], w ∈ yG := List.forall_mem_cons.mpr ⟨yG_at (7, 156) rfl, List.forall_mem_cons.mpr ⟨yG_at (7, 157) rfl, List.forall_mem_cons.mpr ⟨yG_at (7, 158) rfl, List.forall_mem_cons.mpr ⟨yG_at (1, 13) rfl, List.forall_mem_cons.mpr ⟨yG_at (7, 159) rfl, fun _ h => absurd h List.not_mem_nil⟩⟩⟩⟩⟩
theorem yo_w144 : ∀ w ∈ wsV RL 144 RX11 yX11_hull [Cond.code yX11_hull cX11_hull 3 (some .int)], w ∈ yG := List.forall_mem_cons.mpr ⟨yG_at (5, 20) rfl, List.forall_mem_cons.mpr ⟨yG_at (5, 21) rfl, List.forall_mem_cons.mpr ⟨yG_at (5, 22) rfl, List.forall_mem_cons.mpr ⟨yG_at (1, 1) rfl, List.forall_mem_cons.mpr ⟨yG_at (5, 23) rfl, fun _ h => absurd h List.not_mem_nil⟩⟩⟩⟩⟩
theorem yo_w147 : ∀ w ∈ wsV RL 147 RX12 yX12_hull [Cond.code yX12_hull cX12_hull 3 (some .int)], w ∈ yG := List.forall_mem_cons.mpr ⟨yG_at (7, 165) rfl, List.forall_mem_cons.mpr ⟨yG_at (7, 166) rfl, List.forall_mem_cons.mpr ⟨yG_at (7, 167) rfl, List.forall_mem_cons.mpr ⟨yG_at (1, 13) rfl, List.forall_mem_cons.mpr ⟨yG_at (7, 168) rfl, fun _ h => absurd h List.not_mem_nil⟩⟩⟩⟩⟩
theorem yo_w148 : ∀ w ∈ wsV RL 148 RX11 yX11_depth [Cond.code yX11_depth cX11_depth 3 (some .int)], w ∈ yG := List.forall_mem_cons.mpr ⟨yG_at (5, 43) rfl, List.forall_mem_cons.mpr ⟨yG_at (5, 44) rfl, List.forall_mem_cons.mpr ⟨yG_at (5, 45) rfl, List.forall_mem_cons.mpr ⟨yG_at (1, 1) rfl, List.forall_mem_cons.mpr ⟨yG_at (5, 46) rfl, fun _ h => absurd h List.not_mem_nil⟩⟩⟩⟩⟩
theorem yo_w151 : ∀ w ∈ wsV RL 151 RX12 yX12_depth [Cond.code yX12_depth cX12_depth 23 (some .int)], w ∈ yG := List.forall_mem_cons.mpr ⟨yG_at (7, 177) rfl, List.forall_mem_cons.mpr ⟨yG_at (7, 178) rfl, List.forall_mem_cons.mpr ⟨yG_at (7, 179) rfl, List.forall_mem_cons.mpr ⟨yG_at (1, 13) rfl, List.forall_mem_cons.mpr ⟨yG_at (7, 180) rfl, fun _ h => absurd h List.not_mem_nil⟩⟩⟩⟩⟩
theorem yo_w152 : ∀ w ∈ wsV RL 152 RX11 yX11_halves [Cond.code yX11_halves cX11_halves 2 (some .int)], w ∈ yG := List.forall_mem_cons.mpr ⟨yG_at (5, 55) rfl, List.forall_mem_cons.mpr ⟨yG_at (5, 56) rfl, List.forall_mem_cons.mpr ⟨yG_at (5, 57) rfl, List.forall_mem_cons.mpr ⟨yG_at (1, 1) rfl, List.forall_mem_cons.mpr ⟨yG_at (5, 58) rfl, fun _ h => absurd h List.not_mem_nil⟩⟩⟩⟩⟩
theorem yo_w155 : ∀ w ∈ wsV RL 155 RX12 yX12_halves [Cond.code yX12_halves cX12_halves 5 (some .int)], w ∈ yG := List.forall_mem_cons.mpr ⟨yG_at (7, 182) rfl, List.forall_mem_cons.mpr ⟨yG_at (7, 183) rfl, List.forall_mem_cons.mpr ⟨yG_at (7, 184) rfl, List.forall_mem_cons.mpr ⟨yG_at (1, 13) rfl, List.forall_mem_cons.mpr ⟨yG_at (7, 185) rfl, fun _ h => absurd h List.not_mem_nil⟩⟩⟩⟩⟩
theorem yo_w156 : ∀ w ∈ wsV RL 156 RX11 yX11_boxes [Cond.code yX11_boxes cX11_boxes 1 (some .int)], w ∈ yG := List.forall_mem_cons.mpr ⟨yG_at (5, 67) rfl, List.forall_mem_cons.mpr ⟨yG_at (5, 68) rfl, List.forall_mem_cons.mpr ⟨yG_at (5, 69) rfl, List.forall_mem_cons.mpr ⟨yG_at (1, 1) rfl, List.forall_mem_cons.mpr ⟨yG_at (5, 70) rfl, fun _ h => absurd h List.not_mem_nil⟩⟩⟩⟩⟩
theorem yo_w159 : ∀ w ∈ wsV RL 159 RX12 yX12_boxes [Cond.code yX12_boxes cX12_boxes 9 (some .int)], w ∈ yG := List.forall_mem_cons.mpr ⟨yG_at (7, 190) rfl, List.forall_mem_cons.mpr ⟨yG_at (7, 191) rfl, List.forall_mem_cons.mpr ⟨yG_at (7, 192) rfl, List.forall_mem_cons.mpr ⟨yG_at (1, 13) rfl, List.forall_mem_cons.mpr ⟨yG_at (7, 193) rfl, fun _ h => absurd h List.not_mem_nil⟩⟩⟩⟩⟩
theorem yo_w160 : ∀ w ∈ wsV RL 160 RX11 yX11_image [Cond.code yX11_image cX11_image 2 (some .int)], w ∈ yG := List.forall_mem_cons.mpr ⟨yG_at (5, 106) rfl, List.forall_mem_cons.mpr ⟨yG_at (5, 107) rfl, List.forall_mem_cons.mpr ⟨yG_at (5, 108) rfl, List.forall_mem_cons.mpr ⟨yG_at (1, 1) rfl, List.forall_mem_cons.mpr ⟨yG_at (5, 109) rfl, fun _ h => absurd h List.not_mem_nil⟩⟩⟩⟩⟩
theorem yo_w163 : ∀ w ∈ wsV RL 163 RX12 yX12_image [Cond.code yX12_image cX12_image 3 (some .int)], w ∈ yG := List.forall_mem_cons.mpr ⟨yG_at (7, 198) rfl, List.forall_mem_cons.mpr ⟨yG_at (7, 199) rfl, List.forall_mem_cons.mpr ⟨yG_at (7, 200) rfl, List.forall_mem_cons.mpr ⟨yG_at (1, 13) rfl, List.forall_mem_cons.mpr ⟨yG_at (7, 201) rfl, fun _ h => absurd h List.not_mem_nil⟩⟩⟩⟩⟩
theorem yo_w164 : ∀ w ∈ wsV RL 164 RX11 yX11_back [Cond.code yX11_back cX11_back 2 (some .int)], w ∈ yG := List.forall_mem_cons.mpr ⟨yG_at (5, 127) rfl, List.forall_mem_cons.mpr ⟨yG_at (5, 128) rfl, List.forall_mem_cons.mpr ⟨yG_at (5, 129) rfl, List.forall_mem_cons.mpr ⟨yG_at (1, 1) rfl, List.forall_mem_cons.mpr ⟨yG_at (5, 130) rfl, fun _ h => absurd h List.not_mem_nil⟩⟩⟩⟩⟩
theorem yo_w167 : ∀ w ∈ wsV RL 167 RX12 yX12_back [Cond.code yX12_back cX12_back 3 (some .int)], w ∈ yG := List.forall_mem_cons.mpr ⟨yG_at (7, 203) rfl, List.forall_mem_cons.mpr ⟨yG_at (7, 204) rfl, List.forall_mem_cons.mpr ⟨yG_at (7, 205) rfl, List.forall_mem_cons.mpr ⟨yG_at (1, 13) rfl, List.forall_mem_cons.mpr ⟨yG_at (7, 206) rfl, fun _ h => absurd h List.not_mem_nil⟩⟩⟩⟩⟩
theorem yo_w168 : ∀ w ∈ wsV RL 168 RX11 yX11_count [Cond.code yX11_count cX11_count 2 (some .int)], w ∈ yG := List.forall_mem_cons.mpr ⟨yG_at (5, 131) rfl, List.forall_mem_cons.mpr ⟨yG_at (5, 132) rfl, List.forall_mem_cons.mpr ⟨yG_at (5, 133) rfl, List.forall_mem_cons.mpr ⟨yG_at (1, 1) rfl, List.forall_mem_cons.mpr ⟨yG_at (5, 134) rfl, fun _ h => absurd h List.not_mem_nil⟩⟩⟩⟩⟩
theorem yo_w171 : ∀ w ∈ wsV RL 171 RX12 yX12_count [Cond.code yX12_count cX12_count 4 (some .int)], w ∈ yG := List.forall_mem_cons.mpr ⟨yG_at (7, 207) rfl, List.forall_mem_cons.mpr ⟨yG_at (7, 208) rfl, List.forall_mem_cons.mpr ⟨yG_at (7, 209) rfl, List.forall_mem_cons.mpr ⟨yG_at (1, 13) rfl, List.forall_mem_cons.mpr ⟨yG_at (7, 210) rfl, fun _ h => absurd h List.not_mem_nil⟩⟩⟩⟩⟩
theorem yo_w172 : ∀ w ∈ wsV RL 172 RX11 yX11_status [Cond.code yX11_status cX11_status 1 (some .int)], w ∈ yG := List.forall_mem_cons.mpr ⟨yG_at (5, 143) rfl, List.forall_mem_cons.mpr ⟨yG_at (5, 144) rfl, List.forall_mem_cons.mpr ⟨yG_at (5, 145) rfl, List.forall_mem_cons.mpr ⟨yG_at (1, 1) rfl, List.forall_mem_cons.mpr ⟨yG_at (5, 146) rfl, fun _ h => absurd h List.not_mem_nil⟩⟩⟩⟩⟩
theorem yo_w175 : ∀ w ∈ wsV RL 175 RX12 yX12_status [Cond.code yX12_status cX12_status 1 (some .int)], w ∈ yG := List.forall_mem_cons.mpr ⟨yG_at (7, 211) rfl, List.forall_mem_cons.mpr ⟨yG_at (7, 212) rfl, List.forall_mem_cons.mpr ⟨yG_at (7, 213) rfl, List.forall_mem_cons.mpr ⟨yG_at (1, 13) rfl, List.forall_mem_cons.mpr ⟨yG_at (7, 214) rfl, fun _ h => absurd h List.not_mem_nil⟩⟩⟩⟩⟩
noncomputable def yo_ca : List yt_CE := [(((13, false), (110, false, [0, 1, 2, 3, 4, 5, 6, 10, 11, 12, 13, 14, 15, 16, 18, 29, 31, 41, 43])), (yw_s38, xk_127)),
  (((17, false), (111, false, [85, 86, 87, 88, 89, 90, 91, 92, 93, 94, 95, 96, 97, 98, 99, 100, 101, 102, 103, 104, 105, 106, 107, 108, 109, 110, 111, 112, 113, 114, 115, 116, 117, 118, 119, 120, 121])), (yw_s514, xk_1062)),
  (((18, false), (140, false, [0, 1, 2, 3, 4, 5, 6, 10, 11, 12, 13, 14, 15, 16, 18, 29, 31, 41, 43])), (yw_s38, xk_121)),
  (((22, false), (141, false, [85, 86, 87, 88, 89, 90, 91, 92, 93, 94, 95, 96, 97, 98, 99, 100, 101, 102, 103, 104, 105, 106, 107, 108, 109, 110, 111, 112, 113, 114, 115, 116, 117, 118, 119, 120, 121])), (yw_s514, xk_1058)),
  (((23, false), (112, false, [0, 1, 2, 3, 4, 5, 6, 10, 11, 12, 13, 14, 15, 16, 18, 29, 31, 41, 43])), (yw_s38, xk_50)),
  (((27, false), (113, false, [85, 86, 87, 88, 89, 90, 91, 92, 93, 94, 95, 96, 97, 98, 99, 100, 101, 102, 103, 104, 105, 106, 107, 108, 109, 110, 111, 112, 113, 114, 115, 116, 117, 118, 119, 120, 121])), (yw_s514, xk_1030)),
  (((28, false), (114, false, [0, 1, 4, 5, 2, 3, 6, 10, 11, 12, 13, 14, 15, 16, 18, 29, 31, 41, 43])), (yw_s70, xk_123)),
  (((31, false), (115, false, [85, 88, 89, 86, 87, 90, 91, 92, 93, 94, 95, 96, 97, 98, 99, 100, 101, 102, 103, 104, 105, 106, 107, 108, 109, 110, 111, 112, 113, 114, 115, 116, 117, 118, 119, 120, 121])), (yw_s518, xk_1059)),
  (((32, false), (60, false, [0, 11, 47, 48, 49, 50, 51, 52, 53, 54, 1, 6, 10, 12, 13, 14, 15, 16, 18, 29, 31, 41, 43])), (yw_s30, xk_136)),
  (((35, false), (61, false, [85, 90, 91, 92, 86, 87, 88, 89, 93, 94, 95, 96, 97, 98, 99, 100, 101, 102, 103, 104, 105, 106, 107, 108, 109, 110, 111, 112, 113, 114, 115, 116, 117, 118, 119, 120, 121])), (yw_s519, xk_1065)),
  (((38, false), (75, false, [0, 11, 47, 48, 49, 50, 51, 52, 53, 54, 1, 6, 10, 12, 13, 14, 15, 16, 18, 29, 31, 41, 43])), (yw_s30, xk_166)),
  (((42, false), (76, false, [85, 90, 91, 92, 86, 87, 88, 89, 93, 94, 95, 96, 97, 98, 99, 100, 101, 102, 103, 104, 105, 106, 107, 108, 109, 110, 111, 112, 113, 114, 115, 116, 117, 118, 119, 120, 121])), (yw_s519, xk_1087)),
  (((43, false), (100, false, [0, 11, 47, 48, 49, 50, 51, 52, 53, 54, 1, 6, 10, 12, 13, 14, 15, 16, 18, 29, 31, 41, 43])), (yw_s30, xk_129)),
  (((47, false), (101, false, [85, 90, 91, 92, 86, 87, 88, 89, 93, 94, 95, 96, 97, 98, 99, 100, 101, 102, 103, 104, 105, 106, 107, 108, 109, 110, 111, 112, 113, 114, 115, 116, 117, 118, 119, 120, 121])), (yw_s519, xk_1063)),
  (((48, false), (77, false, [0, 11, 47, 48, 49, 50, 51, 52, 53, 54, 1, 6, 10, 12, 13, 14, 15, 16, 18, 29, 31, 41, 43])), (yw_s30, xk_40)),
  (((52, false), (78, false, [85, 90, 91, 92, 93, 86, 87, 88, 89, 94, 95, 96, 97, 98, 99, 100, 101, 102, 103, 104, 105, 106, 107, 108, 109, 110, 111, 112, 113, 114, 115, 116, 117, 118, 119, 120, 121])), (yw_s512, xk_1025)),
  (((53, false), (116, false, [0, 1, 2, 3, 4, 5, 11, 47, 48, 49, 50, 51, 52, 53, 54, 6, 10, 12, 13, 14, 15, 16, 18, 29, 31, 41, 43])), (yw_s81, xk_155)),
  (((57, false), (3, false, [85, 86, 87, 88, 89, 90, 91, 92, 93, 94, 95, 96, 97, 98, 99, 100, 101, 102, 103, 104, 105, 106, 107, 108, 109, 110, 111, 112, 113, 114, 115, 116, 117, 118, 119, 120, 121])), (yw_s521, xk_1075)),
  (((58, false), (307, false, [0, 1, 2, 3, 4, 16, 17, 5, 6, 10, 11, 12, 13, 14, 15, 18, 29, 31, 41, 43])), (yw_s56, xk_124)),
  (((62, false), (311, false, [85, 86, 87, 88, 94, 95, 96, 89, 90, 91, 92, 93, 97, 98, 99, 100, 101, 102, 103, 104, 105, 106, 107, 108, 109, 110, 111, 112, 113, 114, 115, 116, 117, 118, 119, 120, 121])), (yw_s508, xk_1060)),
  (((63, false), (309, false, [0, 1, 2, 3, 4, 16, 17, 5, 6, 10, 11, 12, 13, 14, 15, 18, 29, 31, 41, 43])), (yw_s56, xk_164)),
  (((67, false), (335, false, [85, 86, 87, 88, 89, 90, 91, 92, 93, 94, 95, 96, 97, 98, 99, 100, 101, 102, 103, 104, 105, 106, 107, 108, 109, 110, 111, 112, 113, 114, 115, 116, 117, 118, 119, 120, 121])), (yw_s511, xk_1086)),
  (((68, false), (308, false, [0, 1, 2, 3, 4, 16, 17, 5, 6, 10, 11, 12, 13, 14, 15, 18, 29, 31, 41, 43])), (yw_s56, xk_137)),
  (((71, false), (336, false, [85, 86, 87, 88, 89, 90, 91, 92, 93, 94, 95, 96, 97, 98, 99, 100, 101, 102, 103, 104, 105, 106, 107, 108, 109, 110, 111, 112, 113, 114, 115, 116, 117, 118, 119, 120, 121])), (yw_s511, xk_1070)),
  (((72, false), (310, false, [0, 1, 2, 3, 4, 16, 17, 18, 19, 20, 21, 22, 25, 26, 27, 28, 23, 24, 5, 6, 10, 11, 12, 13, 14, 15, 29, 31, 41, 43])), (yw_s69, xk_120)),
  (((75, false), (27, false, [85, 86, 87, 88, 94, 95, 96, 89, 90, 91, 92, 93, 97, 98, 99, 100, 101, 102, 103, 104, 105, 106, 107, 108, 109, 110, 111, 112, 113, 114, 115, 116, 117, 118, 119, 120, 121])), (yw_s508, xk_1057)),
  (((76, false), (160, false, [0, 1, 2, 3, 4, 5, 6, 10, 11, 12, 13, 14, 15, 16, 18, 29, 31, 41, 43])), (yw_s26, xk_34)),
  (((79, false), (162, false, [85, 86, 87, 88, 89, 90, 91, 92, 93, 94, 95, 96, 97, 98, 99, 100, 101, 102, 103, 104, 105, 106, 107, 108, 109, 110, 111, 112, 113, 114, 115, 116, 117, 118, 119, 120, 121])), (yw_s511, xk_1022)),
  (((80, false), (0, false, [0, 1, 2, 3, 29, 30, 4, 5, 6, 10, 11, 12, 13, 14, 15, 16, 18, 31, 41, 43])), (yw_s45, xk_163)),
  (((83, false), (0, false, [85, 86, 87, 97, 98, 99, 88, 89, 90, 91, 92, 93, 94, 95, 96, 100, 101, 102, 103, 104, 105, 106, 107, 108, 109, 110, 111, 112, 113, 114, 115, 116, 117, 118, 119, 120, 121])), (yw_s504, xk_1080)),
  (((84, false), (0, false, [0, 1, 2, 3, 29, 30, 4, 5, 6, 10, 11, 12, 13, 14, 15, 16, 18, 31, 41, 43])), (yw_s45, xk_70)),
  (((87, false), (0, false, [85, 86, 87, 97, 98, 99, 88, 89, 90, 91, 92, 93, 94, 95, 96, 100, 101, 102, 103, 104, 105, 106, 107, 108, 109, 110, 111, 112, 113, 114, 115, 116, 117, 118, 119, 120, 121])), (yw_s504, xk_1038)),
  (((88, false), (0, false, [0, 1, 2, 3, 4, 5, 29, 30, 6, 10, 11, 12, 13, 14, 15, 16, 18, 31, 41, 43])), (yw_s15, xk_20)),
  (((91, false), (0, false, [85, 86, 87, 88, 89, 97, 98, 99, 90, 91, 92, 93, 94, 95, 96, 100, 101, 102, 103, 104, 105, 106, 107, 108, 109, 110, 111, 112, 113, 114, 115, 116, 117, 118, 119, 120, 121])), (yw_s505, xk_1013)),
  (((92, false), (0, false, [0, 1, 2, 3, 4, 5, 6, 10, 11, 12, 13, 14, 15, 16, 18, 29, 31, 41, 43])), (yw_s34, xk_132)),
  (((95, false), (0, false, [85, 86, 87, 97, 98, 99, 88, 89, 90, 91, 92, 93, 94, 95, 96, 100, 101, 102, 103, 104, 105, 106, 107, 108, 109, 110, 111, 112, 113, 114, 115, 116, 117, 118, 119, 120, 121])), (yw_s504, xk_1064)),
  (((96, false), (0, false, [0, 1, 2, 3, 4, 10, 5, 6, 11, 12, 13, 14, 15, 16, 18, 29, 31, 41, 43])), (yw_s48, xk_76)),
  (((99, false), (0, false, [85, 86, 87, 88, 89, 90, 91, 92, 93, 94, 95, 96, 97, 98, 99, 100, 101, 102, 103, 104, 105, 106, 107, 108, 109, 110, 111, 112, 113, 114, 115, 116, 117, 118, 119, 120, 121])), (yw_s511, xk_1040)),
  (((100, false), (0, false, [0, 10, 1, 6, 11, 12, 13, 14, 15, 16, 18, 29, 31, 41, 43])), (yw_s1, xk_77)),
  (((103, false), (0, false, [85, 86, 87, 88, 89, 90, 91, 92, 93, 94, 95, 96, 97, 98, 99, 100, 101, 102, 103, 104, 105, 106, 107, 108, 109, 110, 111, 112, 113, 114, 115, 116, 117, 118, 119, 120, 121])), (yw_s500, xk_1036)),
  (((104, false), (0, false, [0, 10, 1, 6, 11, 12, 13, 14, 15, 16, 18, 29, 31, 41, 43])), (yw_s1, xk_1)),
  (((107, false), (0, false, [85, 86, 87, 88, 89, 90, 91, 92, 93, 94, 95, 96, 97, 98, 99, 100, 101, 102, 103, 104, 105, 106, 107, 108, 109, 110, 111, 112, 113, 114, 115, 116, 117, 118, 119, 120, 121])), (yw_s500, xk_1000)),
  (((108, false), (71, false, [0, 6, 7, 8, 9, 1, 10, 11, 12, 13, 14, 15, 16, 18, 29, 31, 41, 43])), (yw_s46, xk_72)),
  (((111, false), (74, false, [85, 100, 101, 102, 86, 87, 88, 89, 90, 91, 92, 93, 94, 95, 96, 97, 98, 99, 103, 104, 105, 106, 107, 108, 109, 110, 111, 112, 113, 114, 115, 116, 117, 118, 119, 120, 121])), (yw_s516, xk_1039)),
  (((112, false), (0, false, [0, 1, 2, 3, 4, 6, 7, 8, 9, 5, 10, 11, 12, 13, 14, 15, 16, 18, 29, 31, 41, 43])), (yw_s42, xk_56)),
  (((115, false), (0, false, [85, 86, 87, 88, 100, 101, 102, 89, 90, 91, 92, 93, 94, 95, 96, 97, 98, 99, 103, 104, 105, 106, 107, 108, 109, 110, 111, 112, 113, 114, 115, 116, 117, 118, 119, 120, 121])), (yw_s515, xk_1033)),
  (((116, false), (0, false, [0, 6, 1, 7, 8, 9, 10, 11, 12, 13, 14, 15, 16, 18, 29, 31, 41, 43])), (yw_s35, xk_78)),
  (((119, false), (0, false, [85, 86, 87, 88, 89, 90, 91, 92, 93, 94, 95, 96, 97, 98, 99, 100, 101, 102, 103, 104, 105, 106, 107, 108, 109, 110, 111, 112, 113, 114, 115, 116, 117, 118, 119, 120, 121])), (yw_s500, xk_1041)),
  (((120, false), (0, false, [0, 6, 1, 7, 8, 9, 10, 11, 12, 13, 14, 15, 16, 18, 29, 31, 41, 43])), (yw_s35, xk_47)),
  (((123, false), (0, false, [85, 86, 87, 88, 89, 90, 91, 92, 93, 94, 95, 96, 97, 98, 99, 100, 101, 102, 103, 104, 105, 106, 107, 108, 109, 110, 111, 112, 113, 114, 115, 116, 117, 118, 119, 120, 121])), (yw_s500, xk_1028)),
  (((124, false), (0, false, [0, 1, 2, 3, 4, 5, 31, 32, 33, 34, 35, 36, 37, 38, 6, 10, 11, 12, 13, 14, 15, 16, 18, 29, 39, 40, 41, 43])), (yw_s80, xk_151)),
  (((127, false), (45, false, [85, 86, 87, 88, 89, 103, 104, 105, 106, 107, 108, 90, 91, 92, 93, 94, 95, 96, 97, 98, 99, 100, 101, 102, 109, 110, 111, 112, 113, 114, 115, 116, 117, 118, 119, 120, 121])), (yw_s529, xk_1305)),
  (((128, false), (0, false, [0, 31, 32, 33, 34, 35, 36, 1, 6, 10, 11, 12, 13, 14, 15, 16, 18, 29, 37, 38, 39, 40, 41, 43])), (yw_s72, xk_139)),
  (((131, false), (0, false, [85, 103, 104, 105, 106, 107, 86, 87, 88, 89, 90, 91, 92, 93, 94, 95, 96, 97, 98, 99, 100, 101, 102, 108, 109, 110, 111, 112, 113, 114, 115, 116, 117, 118, 119, 120, 121])), (yw_s520, xk_1072)),
  (((132, false), (0, false, [0, 31, 1, 6, 10, 11, 12, 13, 14, 15, 16, 18, 29, 32, 33, 34, 35, 36, 37, 38, 39, 40, 41, 43])), (yw_s39, xk_51)),
  (((135, false), (0, false, [85, 86, 87, 88, 89, 90, 91, 92, 93, 94, 95, 96, 97, 98, 99, 100, 101, 102, 103, 104, 105, 106, 107, 108, 109, 110, 111, 112, 113, 114, 115, 116, 117, 118, 119, 120, 121])), (yw_s500, xk_1031)),
  (((136, false), (0, false, [0, 31, 37, 1, 6, 10, 11, 12, 13, 14, 15, 16, 18, 29, 32, 33, 34, 35, 36, 38, 39, 40, 41, 43])), (yw_s49, xk_79)),
  (((139, false), (0, false, [85, 108, 86, 87, 88, 89, 90, 91, 92, 93, 94, 95, 96, 97, 98, 99, 100, 101, 102, 103, 104, 105, 106, 107, 109, 110, 111, 112, 113, 114, 115, 116, 117, 118, 119, 120, 121])), (yw_s517, xk_1042)),
  (((140, false), (0, false, [0, 31, 32, 33, 34, 35, 36, 39, 40, 1, 6, 10, 11, 12, 13, 14, 15, 16, 18, 29, 37, 38, 41, 43])), (yw_s84, xk_160)),
  (((143, false), (0, false, [85, 103, 104, 105, 106, 107, 109, 110, 111, 86, 87, 88, 89, 90, 91, 92, 93, 94, 95, 96, 97, 98, 99, 100, 101, 102, 108, 112, 113, 114, 115, 116, 117, 118, 119, 120, 121])), (yw_s524, xk_1079)),
  (((144, false), (0, false, [0, 1, 2, 3, 4, 41, 42, 5, 6, 10, 11, 12, 13, 14, 15, 16, 18, 29, 31, 43])), (yw_s44, xk_67)),
  (((147, false), (0, false, [85, 86, 87, 88, 112, 89, 90, 91, 92, 93, 94, 95, 96, 97, 98, 99, 100, 101, 102, 103, 104, 105, 106, 107, 108, 109, 110, 111, 113, 114, 115, 116, 117, 118, 119, 120, 121])), (yw_s525, xk_1202)),
  (((148, false), (0, false, [0, 1, 2, 3, 4, 5, 6, 10, 11, 12, 13, 14, 15, 16, 18, 29, 31, 41, 43])), (yw_s34, xk_46)),
  (((151, false), (0, false, [85, 86, 87, 88, 89, 90, 91, 92, 93, 94, 95, 96, 97, 98, 99, 100, 101, 102, 103, 104, 105, 106, 107, 108, 109, 110, 111, 112, 113, 114, 115, 116, 117, 118, 119, 120, 121])), (yw_s503, xk_1027)),
  (((152, false), (0, false, [0, 1, 2, 3, 4, 5, 6, 10, 11, 12, 13, 14, 15, 16, 18, 29, 31, 41, 43])), (yw_s26, xk_60)),
  (((155, false), (0, false, [85, 86, 87, 88, 89, 90, 91, 92, 93, 94, 95, 96, 97, 98, 99, 100, 101, 102, 103, 104, 105, 106, 107, 108, 109, 110, 111, 112, 113, 114, 115, 116, 117, 118, 119, 120, 121])), (yw_s511, xk_1035)),
  (((156, false), (0, false, [0, 1, 2, 3, 4, 43, 44, 45, 46, 5, 6, 10, 11, 12, 13, 14, 15, 16, 18, 29, 31, 41])), (yw_s25, xk_30)),
  (((159, false), (2, false, [85, 86, 87, 88, 94, 95, 96, 113, 114, 115, 89, 90, 91, 92, 93, 97, 98, 99, 100, 101, 102, 103, 104, 105, 106, 107, 108, 109, 110, 111, 112, 116, 117, 118, 119, 120, 121])), (yw_s510, xk_1019)),
  (((160, false), (62, false, [0, 1, 2, 3, 4, 5, 6, 7, 8, 9, 10, 12, 55, 56, 57, 58, 59, 65, 66, 67, 68, 69, 75, 76, 77, 78, 79, 13, 60, 61, 62, 63, 70, 71, 72, 73, 80, 81, 82, 83, 14, 64, 74, 84, 15, 11, 16, 18, 29, 31, 41, 43])), (yw_s7, xk_68)),
  (((163, false), (50, true, [85, 86, 87, 88, 89, 100, 101, 102, 116, 117, 118, 119, 120, 121, 90, 91, 92, 93, 94, 95, 96, 97, 98, 99, 103, 104, 105, 106, 107, 108, 109, 110, 111, 112, 113, 114, 115])), (yw_s501, xk_1037)),
  (((164, false), (63, false, [0, 1, 2, 3, 4, 5, 6, 7, 8, 9, 10, 12, 55, 56, 57, 58, 59, 65, 66, 67, 68, 69, 75, 76, 77, 78, 79, 13, 60, 61, 62, 63, 70, 71, 72, 73, 80, 81, 82, 83, 14, 64, 74, 84, 15, 11, 16, 18, 29, 31, 41, 43])), (yw_s7, xk_7)),
  (((167, false), (51, true, [85, 86, 87, 88, 89, 100, 101, 102, 116, 117, 118, 119, 120, 121, 90, 91, 92, 93, 94, 95, 96, 97, 98, 99, 103, 104, 105, 106, 107, 108, 109, 110, 111, 112, 113, 114, 115])), (yw_s501, xk_1003)),
  (((168, false), (153, false, [0, 1, 4, 5, 6, 11, 47, 49, 51, 53, 2, 3, 7, 8, 9, 10, 48, 50, 52, 54, 12, 13, 14, 15, 16, 18, 29, 31, 41, 43])), (yw_s33, xk_43)),
  (((171, false), (154, false, [85, 88, 89, 91, 86, 87, 90, 92, 93, 94, 95, 96, 97, 98, 99, 100, 101, 102, 103, 104, 105, 106, 107, 108, 109, 110, 111, 112, 113, 114, 115, 116, 117, 118, 119, 120, 121])), (yw_s513, xk_1026)),
  (((172, false), (0, false, [0, 1, 6, 10, 11, 12, 13, 14, 15, 16, 18, 29, 31, 41, 43])), (yw_s3, xk_138)),
  (((175, false), (0, false, [85, 86, 87, 88, 89, 90, 91, 92, 93, 94, 95, 96, 97, 98, 99, 100, 101, 102, 103, 104, 105, 106, 107, 108, 109, 110, 111, 112, 113, 114, 115, 116, 117, 118, 119, 120, 121])), (yw_s500, xk_1071))]
noncomputable def yo_tb : yt_Tb := fun d => match d with
  | 2 => xP_1019
  | 3 => xP_1075
  | 27 => xP_1057
  | 45 => xP_1305
  | 50 => xP_1037
  | 51 => xP_1003
  | 60 => xP_136
  | 61 => xP_1065
  | 62 => xP_68
  | 63 => xP_7
  | 71 => xP_72
  | 74 => xP_1039
  | 75 => xP_166
  | 76 => xP_1087
  | 77 => xP_40
  | 78 => xP_1025
  | 100 => xP_129
  | 101 => xP_1063
  | 110 => xP_127
  | 111 => xP_1062
  | 112 => xP_50
  | 113 => xP_1030
  | 114 => xP_123
  | 115 => xP_1059
  | 116 => xP_155
  | 140 => xP_121
  | 141 => xP_1058
  | 153 => xP_43
  | 154 => xP_1026
  | 160 => xP_34
  | 162 => xP_1022
  | 307 => xP_124
  | 308 => xP_137
  | 309 => xP_164
  | 310 => xP_120
  | 311 => xP_1060
  | 335 => xP_1086
  | 336 => xP_1070
  | 998 => fun i r _ _ => yt_hwp i r
  | _ => fun _ _ _ _ => True
noncomputable def yo_pt : Nat → yt_Ps := fun d => match d with
  | 2 => xR_1019
  | 3 => xR_1075
  | 27 => xR_1057
  | 45 => xR_1305
  | 50 => xR_1037
  | 51 => xR_1003
  | 60 => xR_136
  | 61 => xR_1065
  | 62 => xR_68
  | 63 => xR_7
  | 71 => xR_72
  | 74 => xR_1039
  | 75 => xR_166
  | 76 => xR_1087
  | 77 => xR_40
  | 78 => xR_1025
  | 100 => xR_129
  | 101 => xR_1063
  | 110 => xR_127
  | 111 => xR_1062
  | 112 => xR_50
  | 113 => xR_1030
  | 114 => xR_123
  | 115 => xR_1059
  | 116 => xR_155
  | 140 => xR_121
  | 141 => xR_1058
  | 153 => xR_43
  | 154 => xR_1026
  | 160 => xR_34
  | 162 => xR_1022
  | 307 => xR_124
  | 308 => xR_137
  | 309 => xR_164
  | 310 => xR_120
  | 311 => xR_1060
  | 335 => xR_1086
  | 336 => xR_1070
  | _ => fun _ _ => True
theorem yo_shs : yo_ca.all (fun C => yt_shok C.1.2.2.2 C.2.1 yk_sh) = true := by decide +kernel
theorem yo_ca1 {l : Launch} {D : va_G} {cT : Nat → ClassId} {tys : List (ClassId × FieldType)} (hty : yx_Ty tys cT) : ∀ C ∈ yo_ca, yt_Con l D vwCl cT tys yG C.2.1 C.2.2 (yo_pt C.1.2.1) (yo_tb C.1.2.1) ∧ ys_CL RL yo_T vwCl C.2.1 yG (if C.1.1.2 = true then .invokestatic C.1.1.1 else .invokevirtual C.1.1.1) C.2.2 ∧ (C.1.2.2.1 = false → ∀ r g, yo_pt C.1.2.1 r g) := List.forall_mem_cons.mpr ⟨⟨xc_127 hty, yg_CLv rfl rfl rfl yo_w13 yd_yX11_point, fun _ _ _ => trivial⟩, List.forall_mem_cons.mpr ⟨⟨xc_1062 hty, yg_CLv rfl rfl rfl yo_w17 yd_yX12_point, fun _ _ _ => trivial⟩, List.forall_mem_cons.mpr ⟨⟨xc_121 hty, yg_CLv rfl rfl rfl yo_w18 yd_yX11_of, fun _ _ _ => trivial⟩, List.forall_mem_cons.mpr ⟨⟨xc_1058 hty, yg_CLv rfl rfl rfl yo_w22 yd_yX12_of, fun _ _ _ => trivial⟩, List.forall_mem_cons.mpr ⟨⟨xc_50 hty, yg_CLv rfl rfl rfl yo_w23 yd_yX11_drop, fun _ _ _ => trivial⟩, List.forall_mem_cons.mpr ⟨⟨xc_1030 hty, yg_CLv rfl rfl rfl yo_w27 yd_yX12_drop, fun _ _ _ => trivial⟩, List.forall_mem_cons.mpr ⟨⟨xc_123 hty, yg_CLv rfl rfl rfl yo_w28 yd_yX11_paint, fun _ _ _ => trivial⟩, List.forall_mem_cons.mpr ⟨⟨xc_1059 hty, yg_CLv rfl rfl rfl yo_w31 yd_yX12_paint, fun _ _ _ => trivial⟩, List.forall_mem_cons.mpr ⟨⟨xc_136 hty, yg_CLv rfl rfl rfl yo_w32 yd_yX11_sheet, fun _ _ _ => trivial⟩, List.forall_mem_cons.mpr ⟨⟨xc_1065 hty, yg_CLv rfl rfl rfl yo_w35 yd_yX12_sheet, fun _ _ _ => trivial⟩, List.forall_mem_cons.mpr ⟨⟨xc_166 hty, yg_CLv rfl rfl rfl yo_w38 yd_yX11_write, fun _ _ _ => trivial⟩, List.forall_mem_cons.mpr ⟨⟨xc_1087 hty, yg_CLv rfl rfl rfl yo_w42 yd_yX12_write, fun _ _ _ => trivial⟩, List.forall_mem_cons.mpr ⟨⟨xc_129 hty, yg_CLv rfl rfl rfl yo_w43 yd_yX11_read, fun _ _ _ => trivial⟩, List.forall_mem_cons.mpr ⟨⟨xc_1063 hty, yg_CLv rfl rfl rfl yo_w47 yd_yX12_read, fun _ _ _ => trivial⟩, List.forall_mem_cons.mpr ⟨⟨xc_40 hty, yg_CLv rfl rfl rfl yo_w48 yd_yX11_copy, fun _ _ _ => trivial⟩, List.forall_mem_cons.mpr ⟨⟨xc_1025 hty, yg_CLv rfl rfl rfl yo_w52 yd_yX12_copy, fun _ _ _ => trivial⟩, List.forall_mem_cons.mpr ⟨⟨xc_155 hty, yg_CLv rfl rfl rfl yo_w53 yd_yX11_take, fun _ _ _ => trivial⟩, List.forall_mem_cons.mpr ⟨⟨xc_1075 hty, yg_CLv rfl rfl rfl yo_w57 yd_yX12_take, fun _ _ _ => trivial⟩, List.forall_mem_cons.mpr ⟨⟨xc_124 hty, yg_CLv rfl rfl rfl yo_w58 yd_yX11_parted, fun _ _ _ => trivial⟩, List.forall_mem_cons.mpr ⟨⟨xc_1060 hty, yg_CLv rfl rfl rfl yo_w62 yd_yX12_parted, fun _ _ _ => trivial⟩, List.forall_mem_cons.mpr ⟨⟨xc_164 hty, yg_CLv rfl rfl rfl yo_w63 yd_yX11_wide, fun _ _ _ => trivial⟩, List.forall_mem_cons.mpr ⟨⟨xc_1086 hty, yg_CLv rfl rfl rfl yo_w67 yd_yX12_wide, fun _ _ _ => trivial⟩, List.forall_mem_cons.mpr ⟨⟨xc_137 hty, yg_CLv rfl rfl rfl yo_w68 yd_yX11_side, fun _ _ _ => trivial⟩, List.forall_mem_cons.mpr ⟨⟨xc_1070 hty, yg_CLv rfl rfl rfl yo_w71 yd_yX12_side, fun _ _ _ => trivial⟩, List.forall_mem_cons.mpr ⟨⟨xc_120 hty, yg_CLv rfl rfl rfl yo_w72 yd_yX11_meet, fun _ _ _ => trivial⟩, List.forall_mem_cons.mpr ⟨⟨xc_1057 hty, yg_CLv rfl rfl rfl yo_w75 yd_yX12_meet, fun _ _ _ => trivial⟩, List.forall_mem_cons.mpr ⟨⟨xc_34 hty, yg_CLv rfl rfl rfl yo_w76 yd_yX11_check, fun _ _ _ => trivial⟩, List.forall_mem_cons.mpr ⟨⟨xc_1022 hty, yg_CLv rfl rfl rfl yo_w79 yd_yX12_check, fun _ _ _ => trivial⟩, List.forall_mem_cons.mpr ⟨⟨xc_163 hty, yg_CLv rfl rfl rfl yo_w80 yd_yX11_ways, fun _ _ _ => trivial⟩, List.forall_mem_cons.mpr ⟨⟨xc_1080 hty, yg_CLv rfl rfl rfl yo_w83 yd_yX12_ways, fun _ _ _ => trivial⟩, List.forall_mem_cons.mpr ⟨⟨xc_70 hty, yg_CLv rfl rfl rfl yo_w84 yd_yX11_isWay, fun _ _ _ => trivial⟩, List.forall_mem_cons.mpr ⟨⟨xc_1038 hty, yg_CLv rfl rfl rfl yo_w87 yd_yX12_isWay, fun _ _ _ => trivial⟩, List.forall_mem_cons.mpr ⟨⟨xc_20 hty, yg_CLv rfl rfl rfl yo_w88 yd_yX11_best, fun _ _ _ => trivial⟩, List.forall_mem_cons.mpr ⟨⟨xc_1013 hty, yg_CLv rfl rfl rfl yo_w91 yd_yX12_best, fun _ _ _ => trivial⟩, List.forall_mem_cons.mpr ⟨⟨xc_132 hty, yg_CLv rfl rfl rfl yo_w92 yd_yX11_shatter, fun _ _ _ => trivial⟩, List.forall_mem_cons.mpr ⟨⟨xc_1064 hty, yg_CLv rfl rfl rfl yo_w95 yd_yX12_shatter, fun _ _ _ => trivial⟩, List.forall_mem_cons.mpr ⟨⟨xc_76 hty, yg_CLv rfl rfl rfl yo_w96 yd_yX11_learn, fun _ _ _ => trivial⟩, List.forall_mem_cons.mpr ⟨⟨xc_1040 hty, yg_CLv rfl rfl rfl yo_w99 yd_yX12_learn, fun _ _ _ => trivial⟩, List.forall_mem_cons.mpr ⟨⟨xc_77 hty, yg_CLv rfl rfl rfl yo_w100 yd_yX11_learnt, fun _ _ _ => trivial⟩, List.forall_mem_cons.mpr ⟨⟨xc_1036 hty, yg_CLv rfl rfl rfl yo_w103 yd_yX12_learnt, fun _ _ _ => trivial⟩, List.forall_mem_cons.mpr ⟨⟨xc_1 hty, yg_CLv rfl rfl rfl yo_w104 yd_yX11_anew, fun _ _ _ => trivial⟩, List.forall_mem_cons.mpr ⟨⟨xc_1000 hty, yg_CLv rfl rfl rfl yo_w107 yd_yX12_anew, fun _ _ _ => trivial⟩, List.forall_mem_cons.mpr ⟨⟨xc_72 hty, yg_CLv rfl rfl rfl yo_w108 yd_yX11_judge, fun _ _ _ => trivial⟩, List.forall_mem_cons.mpr ⟨⟨xc_1039 hty, yg_CLv rfl rfl rfl yo_w111 yd_yX12_judge, fun _ _ _ => trivial⟩, List.forall_mem_cons.mpr ⟨⟨xc_56 hty, yg_CLv rfl rfl rfl yo_w112 yd_yX11_halve, fun _ _ _ => trivial⟩, List.forall_mem_cons.mpr ⟨⟨xc_1033 hty, yg_CLv rfl rfl rfl yo_w115 yd_yX12_halve, fun _ _ _ => trivial⟩, List.forall_mem_cons.mpr ⟨⟨xc_78 hty, yg_CLv rfl rfl rfl yo_w116 yd_yX11_left, fun _ _ _ => trivial⟩, List.forall_mem_cons.mpr ⟨⟨xc_1041 hty, yg_CLv rfl rfl rfl yo_w119 yd_yX12_left, fun _ _ _ => trivial⟩, List.forall_mem_cons.mpr ⟨⟨xc_47 hty, yg_CLv rfl rfl rfl yo_w120 yd_yX11_dismiss, fun _ _ _ => trivial⟩, List.forall_mem_cons.mpr ⟨⟨xc_1028 hty, yg_CLv rfl rfl rfl yo_w123 yd_yX12_dismiss, fun _ _ _ => trivial⟩, List.forall_mem_cons.mpr ⟨⟨xc_151 hty, yg_CLv rfl rfl rfl yo_w124 yd_yX11_strong, fun _ _ _ => trivial⟩, List.forall_mem_cons.mpr ⟨⟨xc_1305 hty, yg_CLv rfl rfl rfl yo_w127 yd_yX12_strong, fun _ _ _ => trivial⟩, List.forall_mem_cons.mpr ⟨⟨xc_139 hty, yg_CLv rfl rfl rfl yo_w128 yd_yX11_step, fun _ _ _ => trivial⟩, List.forall_mem_cons.mpr ⟨⟨xc_1072 hty, yg_CLv rfl rfl rfl yo_w131 yd_yX12_step, fun _ _ _ => trivial⟩, List.forall_mem_cons.mpr ⟨⟨xc_51 hty, yg_CLv rfl rfl rfl yo_w132 yd_yX11_end, fun _ _ _ => trivial⟩, List.forall_mem_cons.mpr ⟨⟨xc_1031 hty, yg_CLv rfl rfl rfl yo_w135 yd_yX12_end, fun _ _ _ => trivial⟩, List.forall_mem_cons.mpr ⟨⟨xc_79 hty, yg_CLv rfl rfl rfl yo_w136 yd_yX11_mass, fun _ _ _ => trivial⟩, List.forall_mem_cons.mpr ⟨⟨xc_1042 hty, yg_CLv rfl rfl rfl yo_w139 yd_yX12_mass, fun _ _ _ => trivial⟩, List.forall_mem_cons.mpr ⟨⟨xc_160 hty, yg_CLv rfl rfl rfl yo_w140 yd_yX11_vote, fun _ _ _ => trivial⟩, List.forall_mem_cons.mpr ⟨⟨xc_1079 hty, yg_CLv rfl rfl rfl yo_w143 yd_yX12_vote, fun _ _ _ => trivial⟩, List.forall_mem_cons.mpr ⟨⟨xc_67 hty, yg_CLv rfl rfl rfl yo_w144 yd_yX11_hull, fun _ _ _ => trivial⟩, List.forall_mem_cons.mpr ⟨⟨xc_1202 hty, yg_CLv rfl rfl rfl yo_w147 yd_yX12_hull, fun _ _ _ => trivial⟩, List.forall_mem_cons.mpr ⟨⟨xc_46 hty, yg_CLv rfl rfl rfl yo_w148 yd_yX11_depth, fun _ _ _ => trivial⟩, List.forall_mem_cons.mpr ⟨⟨xc_1027 hty, yg_CLv rfl rfl rfl yo_w151 yd_yX12_depth, fun _ _ _ => trivial⟩, List.forall_mem_cons.mpr ⟨⟨xc_60 hty, yg_CLv rfl rfl rfl yo_w152 yd_yX11_halves, fun _ _ _ => trivial⟩, List.forall_mem_cons.mpr ⟨⟨xc_1035 hty, yg_CLv rfl rfl rfl yo_w155 yd_yX12_halves, fun _ _ _ => trivial⟩, List.forall_mem_cons.mpr ⟨⟨xc_30 hty, yg_CLv rfl rfl rfl yo_w156 yd_yX11_boxes, fun _ _ _ => trivial⟩, List.forall_mem_cons.mpr ⟨⟨xc_1019 hty, yg_CLv rfl rfl rfl yo_w159 yd_yX12_boxes, fun _ _ _ => trivial⟩, List.forall_mem_cons.mpr ⟨⟨xc_68 hty, yg_CLv rfl rfl rfl yo_w160 yd_yX11_image, fun _ _ _ => trivial⟩, List.forall_mem_cons.mpr ⟨⟨xc_1037 hty, yg_CLv rfl rfl rfl yo_w163 yd_yX12_image, fun h => absurd h (by decide)⟩, List.forall_mem_cons.mpr ⟨⟨xc_7 hty, yg_CLv rfl rfl rfl yo_w164 yd_yX11_back, fun _ _ _ => trivial⟩, List.forall_mem_cons.mpr ⟨⟨xc_1003 hty, yg_CLv rfl rfl rfl yo_w167 yd_yX12_back, fun h => absurd h (by decide)⟩, List.forall_mem_cons.mpr ⟨⟨xc_43 hty, yg_CLv rfl rfl rfl yo_w168 yd_yX11_count, fun _ _ _ => trivial⟩, List.forall_mem_cons.mpr ⟨⟨xc_1026 hty, yg_CLv rfl rfl rfl yo_w171 yd_yX12_count, fun _ _ _ => trivial⟩, List.forall_mem_cons.mpr ⟨⟨xc_138 hty, yg_CLv rfl rfl rfl yo_w172 yd_yX11_status, fun _ _ _ => trivial⟩, List.forall_mem_cons.mpr ⟨⟨xc_1071 hty, yg_CLv rfl rfl rfl yo_w175 yd_yX12_status, fun _ _ _ => trivial⟩, fun _ h => absurd h List.not_mem_nil⟩⟩⟩⟩⟩⟩⟩⟩⟩⟩⟩⟩⟩⟩⟩⟩⟩⟩⟩⟩⟩⟩⟩⟩⟩⟩⟩⟩⟩⟩⟩⟩⟩⟩⟩⟩⟩⟩⟩⟩⟩⟩⟩⟩⟩⟩⟩⟩⟩⟩⟩⟩⟩⟩⟩⟩⟩⟩⟩⟩⟩⟩⟩⟩⟩⟩⟩⟩⟩⟩⟩⟩⟩⟩⟩⟩
theorem yo_ca_ok {l : Launch} {D : va_G} {cT : Nat → ClassId} {tys : List (ClassId × FieldType)} (hty : yx_Ty tys cT) : ∀ C ∈ yo_ca, yt_Con l D vwCl cT tys yG C.2.1 C.2.2 (yo_pt C.1.2.1) (yo_tb C.1.2.1) ∧ ys_CL RL yo_T vwCl C.2.1 yG (if C.1.1.2 = true then .invokestatic C.1.1.1 else .invokevirtual C.1.1.1) C.2.2 ∧ yt_shok C.1.2.2.2 C.2.1 yk_sh = true ∧ (C.1.2.2.1 = false → ∀ r g, yo_pt C.1.2.1 r g) := fun C hC => ⟨(yo_ca1 (l := l) (D := D) hty C hC).1, (yo_ca1 (l := l) (D := D) hty C hC).2.1, List.all_eq_true.mp yo_shs C hC, (yo_ca1 (l := l) (D := D) hty C hC).2.2⟩
noncomputable def yn_flL : ys_FL := []
noncomputable def yn_ffL : List (Nat × (Nat × Nat)) := []
noncomputable def yn_nwL : List (Nat × (Nat × List ys_V)) := [(7, 11, [.inr none, .inr none, .inr none, .inr none, .inr none, .inr none, .inr none, .inr none, .inr none, .inr none, .inr none, .inr none, .inr none, .inr none, .inl (.inl ([], 0))]), (10, 12, [.inl (.inl ([], 0)), .inl (.inl ([], 0)), .inr none, .inr none, .inr none, .inr none, .inl (.inl ([], 0)), .inr none, .inr none, .inr none, .inr none, .inl (.inl ([], 0)), .inl (.inl ([], 0)), .inr none, .inr none, .inr none, .inl (.inr ([], 0)), .inl (.inr ([], 0)), .inl (.inr ([], 0)), .inl (.inl ([], 0)), .inl (.inr ([], 0)), .inl (.inr ([], 0)), .inl (.inr ([], 0)), .inl (.inr ([], 0)), .inr none, .inr none, .inl (.inl ([], 0)), .inr none, .inl (.inr ([], 0)), .inl (.inr ([], 0)), .inl (.inr ([], 0)), .inl (.inr ([], 0)), .inl (.inr ([], 0)), .inr none, .inr none, .inr none, .inl (.inl ([], 0)), .inl (.inl ([], 0)), .inr none, .inr none, .inr none, .inr none, .inr none, .inl (.inl ([], 0)), .inl (.inl ([], 0)), .inr none, .inl (.inl ([], 0)), .inr none, .inr none, .inr none, .inr none, .inl (.inl ([], 0)), .inr none, .inr none, .inr none, .inr none, .inr none, .inr none, .inr none, .inr none, .inr none])]
noncomputable def yn_naL : List (Nat × Nat) := []
noncomputable def yn_XL : ys_X := ((yn_flL, [], [], []), (yn_ffL, yn_nwL, yn_naL, []), (yn_rk, [], [(9, xnn_29, none), (12, xnn_30, none)]))
theorem yn_LL {l : Launch} {D : va_G} {cT : Nat → ClassId} {tys : List (ClassId × FieldType)} (hTL : ys_TL yn_tyl tys cT) (y : MethodName) (cc : ByteArray) (nL : Nat) : ys_LN l D vwCl cT tys yG yn_NN yn_AA yn_tyl RL (Cond.code y cc nL none :: yG) yn_XL := ⟨⟨yg_flc_ok (pls := []) (by decide +kernel) (ys_K0 y cc nL 0 0 0), fun _ _ h => (by cases h), fun _ _ h => (by cases h), fun _ h => (by cases h)⟩, yg_ffc_ok (pls := []) (by decide +kernel) _, yg_nwc_ok (pls := [((1, 19), (1, 20), (1, 1)), ((5, 147), (5, 148), (1, 13))]) (by decide +kernel) _, fun _ h => absurd h List.not_mem_nil, fun _ h => absurd h List.not_mem_nil, yn_rk_ok, fun _ h => absurd h List.not_mem_nil, List.forall_mem_cons.mpr ⟨⟨xm_29 hTL, yg_CLN rfl (yG_at (1, 23) rfl) (yG_at (1, 1) rfl) (yG_at (1, 22) rfl) rfl yn_dyX11_init (yG_at (1, 21) rfl)⟩, List.forall_mem_cons.mpr ⟨⟨xm_30 hTL, yg_CLN rfl (yG_at (5, 151) rfl) (yG_at (1, 13) rfl) (yG_at (5, 150) rfl) rfl yn_dyX12_init (yG_at (5, 149) rfl)⟩, fun _ h => absurd h List.not_mem_nil⟩⟩⟩
noncomputable def yo_Y : ys_Y := (122, 20116, yk_sh, 18, (yk_f0, yk_r0), [(3, .inl (.inl ([], 0))), (2, .inr (some 85)), (1, .inr (some 0)), (0, .inr (some 1000))], [])
theorem yo_pre : ys_runN yn_XL yX11_init code 4 10 400 600000 7302250 122 yn_tyl.length 0 yo_nx yo_Y 20 (0, 0, [], 0, ([], []), [(0, .inr (some 1000))], []) = true := by decide +kernel
noncomputable def yo_hi : ys_E := [(0, 3072), ((-2147483648), 2147483647), (0, 40), ((-2147483648), 2147483647), (0, 12), ((-2147483648), 2147483647), ((-9223372036854775808), 9223372036854775807), ((-9223372036854775808), 9223372036854775807), ((-9223372036854775808), 9223372036854775807), ((-9223372036854775808), 9223372036854775807), ((-9223372036854775808), 9223372036854775807), (0, 1), ((-9223372036854775808), 9223372036854775807), ((-9223372036854775808), 9223372036854775807), ((-9223372036854775808), 9223372036854775807), (0, 40), ((-2147483648), 2147483647), ((-600), 600), ((-600), 600), ((-1000000), 1000000), ((-1000000), 1000000), ((-9223372036854775808), 9223372036854775807), ((-9223372036854775808), 9223372036854775807), ((-2147483648), 2147483647), (0, 4), (0, 40), (0, 40), ((-2147483648), 2147483647), ((-9223372036854775808), 9223372036854775807), ((-9223372036854775808), 9223372036854775807), ((-9223372036854775808), 9223372036854775807), ((-9223372036854775808), 9223372036854775807), ((-9223372036854775808), 9223372036854775807), ((-9223372036854775808), 9223372036854775807), ((-9223372036854775808), 9223372036854775807), ((-9223372036854775808), 9223372036854775807), ((-9223372036854775808), 9223372036854775807), ((-9223372036854775808), 9223372036854775807), ((-9223372036854775808), 9223372036854775807), ((-9223372036854775808), 9223372036854775807), ((-2147483648), 2147483647), ((-2147483648), 2147483647), (0, 4095), (0, 40), (0, 12), ((-2147483648), 2147483647), ((-2147483648), 2147483647), ((-2147483648), 2147483647), ((-2147483648), 2147483647), ((-9223372036854775808), 9223372036854775807), ((-9223372036854775808), 9223372036854775807), (0, 40), (0, 12), (0, 144), (0, 1), ((-2147483648), 2147483647), (0, 100), (0, 1), ((-2147483648), 2147483647), (0, 100), (0, 1), ((-2147483648), 2147483647), (0, 100), (0, 1), ((-2147483648), 2147483647), (0, 100), (0, 40), ((-2147483648), 2147483647), (0, 12), ((-2147483648), 2147483647), ((-9223372036854775808), 9223372036854775807), ((-9223372036854775808), 9223372036854775807), ((-9223372036854775808), 9223372036854775807), ((-9223372036854775808), 9223372036854775807), ((-9223372036854775808), 9223372036854775807), (0, 40), ((-2147483648), 2147483647), (0, 12), ((-2147483648), 2147483647), ((-9223372036854775808), 9223372036854775807), ((-9223372036854775808), 9223372036854775807), ((-9223372036854775808), 9223372036854775807), ((-9223372036854775808), 9223372036854775807), ((-9223372036854775808), 9223372036854775807), (0, 40), ((-2147483648), 2147483647), (0, 12), ((-2147483648), 2147483647), ((-9223372036854775808), 9223372036854775807), ((-9223372036854775808), 9223372036854775807), ((-9223372036854775808), 9223372036854775807), ((-9223372036854775808), 9223372036854775807), ((-9223372036854775808), 9223372036854775807), ((-2147483648), 2147483647), ((-2147483648), 2147483647), (0, 40), ((-2147483648), 2147483647), (0, 4), ((-9223372036854775808), 9223372036854775807), ((-9223372036854775808), 9223372036854775807), ((-9223372036854775808), 9223372036854775807), (0, 1), ((-4000), 4000), ((-4000), 4000), ((-8000000), 8000000), ((-8000000), 8000000), (0, 12), ((-9223372036854775808), 9223372036854775807), ((-9223372036854775808), 9223372036854775807), ((-9223372036854775808), 9223372036854775807), ((-9223372036854775808), 9223372036854775807), ((-9223372036854775808), 9223372036854775807), (0, 12), ((-2147483648), 2147483647), (0, 12), ((-2147483648), 2147483647), (0, 40), (0, 40)]
noncomputable def yo_hf : List (List ys_V) := [[.inr (some 1), .inr (some 6), .inr (some 10), .inr (some 11), .inr (some 12), .inr (some 13), .inr (some 14), .inr (some 15), .inr (some 16), .inr (some 18), .inr (some 29), .inr (some 31), .inr (some 41), .inr (some 43), .inl (.inl ([(2, 1)], 0))],
  [.inr (some 2), .inr (some 3), .inr (some 4), .inr (some 5), .inl (.inl ([(3, 1)], 0)), .inl (.inl ([(4, 1)], 0))],
  [],
  [],
  [],
  [],
  [.inl (.inl ([(5, 1)], 0)), .inl (.inl ([(6, 1)], 0)), .inr (some 7), .inr (some 8), .inr (some 9)],
  [],
  [],
  [],
  [.inl (.inr ([(7, 1)], 0)), .inl (.inr ([(8, 1)], 0)), .inl (.inr ([(9, 1)], 0)), .inl (.inr ([(10, 1)], 0)), .inl (.inr ([(11, 1)], 0))],
  [],
  [],
  [],
  [],
  [],
  [.inr (some 17), .inl (.inl ([(12, 1)], 0)), .inl (.inr ([(13, 1)], 0)), .inl (.inr ([(14, 1)], 0)), .inl (.inr ([(15, 1)], 0)), .inl (.inl ([(16, 1)], 0)), .inl (.inl ([(17, 1)], 0)), .inl (.inl ([(18, 1)], 0)), .inl (.inl ([(19, 1)], 0)), .inl (.inl ([(20, 1)], 0)), .inl (.inl ([(21, 1)], 0))],
  [.inl (.inr ([(22, 1)], 0)), .inl (.inr ([(23, 1)], 0))],
  [.inr (some 19), .inr (some 20), .inl (.inl ([(24, 1)], 0)), .inl (.inl ([(25, 1)], 0)), .inr (some 21), .inr (some 22), .inr (some 23), .inr (some 24), .inl (.inl ([(26, 1)], 0)), .inl (.inl ([(27, 1)], 0)), .inl (.inl ([(28, 1)], 0))],
  [.inl (.inr ([(29, 1)], 0)), .inl (.inr ([(30, 1)], 0))],
  [.inl (.inr ([(31, 1)], 0)), .inl (.inr ([(32, 1)], 0))],
  [],
  [],
  [],
  [],
  [.inl (.inr ([(33, 1)], 0)), .inl (.inr ([(34, 1)], 0))],
  [.inl (.inr ([(35, 1)], 0)), .inl (.inr ([(36, 1)], 0))],
  [.inl (.inr ([(37, 1)], 0)), .inl (.inr ([(38, 1)], 0))],
  [.inl (.inr ([(39, 1)], 0)), .inl (.inr ([(40, 1)], 0))],
  [.inl (.inl ([(41, 1)], 0)), .inl (.inl ([(42, 1)], 0)), .inr (some 30), .inl (.inl ([(43, 1)], 0))],
  [],
  [.inr (some 32), .inr (some 33), .inr (some 34), .inr (some 35), .inr (some 36), .inr (some 37), .inl (.inl ([(44, 1)], 0)), .inl (.inl ([(45, 1)], 0)), .inl (.inl ([(46, 1)], 0)), .inr (some 38), .inr (some 39), .inr (some 40), .inl (.inl ([(47, 1)], 0)), .inl (.inl ([(48, 1)], 0)), .inl (.inl ([(49, 1)], 0)), .inl (.inr ([(50, 1)], 0)), .inl (.inr ([(51, 1)], 0))],
  [],
  [],
  [],
  [],
  [],
  [],
  [],
  [],
  [],
  [.inr (some 42), .inl (.inl ([(52, 1)], 0))],
  [],
  [.inr (some 44), .inl (.inl ([(53, 1)], 0)), .inr (some 45), .inl (.inl ([(54, 1)], 0)), .inr (some 46)],
  [],
  [],
  [],
  [.inr (some 48), .inl (.inl ([(55, 1)], 0)), .inl (.inl ([(56, 1)], 0)), .inl (.inl ([(57, 1)], 0))],
  [],
  [.inr (some 50), .inl (.inl ([(58, 1)], 0)), .inl (.inl ([(59, 1)], 0)), .inl (.inl ([(60, 1)], 0))],
  [],
  [.inr (some 52), .inl (.inl ([(61, 1)], 0)), .inl (.inl ([(62, 1)], 0)), .inl (.inl ([(63, 1)], 0))],
  [],
  [.inr (some 54), .inl (.inl ([(64, 1)], 0)), .inl (.inl ([(65, 1)], 0)), .inl (.inl ([(66, 1)], 0))],
  [],
  [.inr (some 56), .inr (some 57), .inr (some 58), .inr (some 59), .inl (.inl ([(67, 1)], 0)), .inl (.inl ([(68, 1)], 0))],
  [],
  [],
  [],
  [],
  [.inl (.inl ([(69, 1)], 0)), .inl (.inl ([(70, 1)], 0)), .inr (some 61), .inr (some 62), .inr (some 63)],
  [],
  [],
  [],
  [.inl (.inr ([(71, 1)], 0)), .inl (.inr ([(72, 1)], 0)), .inl (.inr ([(73, 1)], 0)), .inl (.inr ([(74, 1)], 0)), .inl (.inr ([(75, 1)], 0))],
  [.inr (some 66), .inr (some 67), .inr (some 68), .inr (some 69), .inl (.inl ([(76, 1)], 0)), .inl (.inl ([(77, 1)], 0))],
  [],
  [],
  [],
  [],
  [.inl (.inl ([(78, 1)], 0)), .inl (.inl ([(79, 1)], 0)), .inr (some 71), .inr (some 72), .inr (some 73)],
  [],
  [],
  [],
  [.inl (.inr ([(80, 1)], 0)), .inl (.inr ([(81, 1)], 0)), .inl (.inr ([(82, 1)], 0)), .inl (.inr ([(83, 1)], 0)), .inl (.inr ([(84, 1)], 0))],
  [.inr (some 76), .inr (some 77), .inr (some 78), .inr (some 79), .inl (.inl ([(85, 1)], 0)), .inl (.inl ([(86, 1)], 0))],
  [],
  [],
  [],
  [],
  [.inl (.inl ([(87, 1)], 0)), .inl (.inl ([(88, 1)], 0)), .inr (some 81), .inr (some 82), .inr (some 83)],
  [],
  [],
  [],
  [.inl (.inr ([(89, 1)], 0)), .inl (.inr ([(90, 1)], 0)), .inl (.inr ([(91, 1)], 0)), .inl (.inr ([(92, 1)], 0)), .inl (.inr ([(93, 1)], 0))],
  [.inl (.inl ([(94, 1)], 0)), .inl (.inl ([(95, 1)], 0)), .inr (some 86), .inr (some 87), .inr (some 88), .inr (some 89), .inl (.inl ([(96, 1)], 0)), .inr (some 90), .inr (some 91), .inr (some 92), .inr (some 93), .inl (.inl ([(97, 1)], 0)), .inl (.inl ([(98, 1)], 0)), .inr (some 94), .inr (some 95), .inr (some 96), .inl (.inr ([(99, 1)], 0)), .inl (.inr ([(100, 1)], 0)), .inl (.inr ([(101, 1)], 0)), .inl (.inl ([(102, 1)], 0)), .inl (.inr ([(103, 1)], 0)), .inl (.inr ([(104, 1)], 0)), .inl (.inr ([(105, 1)], 0)), .inl (.inr ([(106, 1)], 0)), .inr (some 97), .inr (some 98), .inl (.inl ([(107, 1)], 0)), .inr (some 99), .inl (.inr ([(108, 1)], 0)), .inl (.inr ([(109, 1)], 0)), .inl (.inr ([(110, 1)], 0)), .inl (.inr ([(111, 1)], 0)), .inl (.inr ([(112, 1)], 0)), .inr (some 100), .inr (some 101), .inr (some 102), .inl (.inl ([(113, 1)], 0)), .inl (.inl ([(114, 1)], 0)), .inr (some 103), .inr (some 104), .inr (some 105), .inr (some 106), .inr (some 107), .inl (.inl ([(115, 1)], 0)), .inl (.inl ([(116, 1)], 0)), .inr (some 108), .inl (.inl ([(117, 1)], 0)), .inr (some 109), .inr (some 110), .inr (some 111), .inr (some 112), .inl (.inl ([(118, 1)], 0)), .inr (some 113), .inr (some 114), .inr (some 115), .inr (some 116), .inr (some 117), .inr (some 118), .inr (some 119), .inr (some 120), .inr (some 121)],
  [],
  [],
  [],
  [],
  [],
  [],
  [],
  [],
  [],
  [],
  [],
  [],
  [],
  [],
  [],
  [],
  [],
  [],
  [],
  [],
  [],
  [],
  [],
  [],
  [],
  [],
  [],
  [],
  [],
  [],
  [],
  [],
  [],
  [],
  [],
  []]
noncomputable def yo_hr : List ys_R := [((0, 0), []), ((0, 0), []), (((-300), 300), []), (((-300), 300), []), ((0, 1), []), ((0, 1000), []), ((0, 0), []), (((-2147483648), 2147483647), []), (((-2147483648), 2147483647), []), (((-2147483648), 2147483647), []), ((0, 0), []), ((0, 0), []), ((0, 0), []), ((0, 0), []), ((0, 0), []), ((0, 1), []), ((0, 0), []), ((0, 0), []), ((0, 0), []), ((0, 0), []), ((0, 0), []), ((0, 39), []), ((0, 0), []), ((0, 39), []), ((0, 39), []), ((0, 0), []), ((0, 0), []), ((0, 0), []), ((0, 0), []), ((0, 0), []), (((-9223372036854775808), 9223372036854775807), []), ((0, 0), []), (((-2147483648), 2147483647), []), (((-2147483648), 2147483647), []), (((-2147483648), 2147483647), []), (((-9223372036854775808), 9223372036854775807), []), (((-9223372036854775808), 9223372036854775807), []), (((-9223372036854775808), 9223372036854775807), []), (((-9223372036854775808), 9223372036854775807), []), (((-9223372036854775808), 9223372036854775807), []), (((-9223372036854775808), 9223372036854775807), []), ((0, 0), []), (((-2147483648), 2147483647), []), ((0, 0), []), ((0, 39), []), ((0, 4095), []), (((-128), 127), []), ((0, 0), []), (((-9223372036854775808), 9223372036854775807), []), ((0, 0), []), (((-9223372036854775808), 9223372036854775807), []), ((0, 0), []), (((-9223372036854775808), 9223372036854775807), []), ((0, 0), []), (((-9223372036854775808), 9223372036854775807), []), ((0, 0), []), (((-300), 300), []), (((-300), 300), []), ((0, 1), []), ((0, 1000), []), ((0, 0), []), (((-2147483648), 2147483647), []), (((-2147483648), 2147483647), []), (((-2147483648), 2147483647), []), ((0, 0), []), ((0, 0), []), (((-300), 300), []), (((-300), 300), []), ((0, 1), []), ((0, 1000), []), ((0, 0), []), (((-2147483648), 2147483647), []), (((-2147483648), 2147483647), []), (((-2147483648), 2147483647), []), ((0, 0), []), ((0, 0), []), (((-300), 300), []), (((-300), 300), []), ((0, 1), []), ((0, 1000), []), ((0, 0), []), (((-2147483648), 2147483647), []), (((-2147483648), 2147483647), []), (((-2147483648), 2147483647), []), ((0, 0), []), ((0, 0), []), (((-300), 1000), []), (((-300), 1000), []), (((-300), 1000), []), ((0, 1000), []), (((-9223372036854775808), 9223372036854775807), []), (((-2147483648), 2147483647), []), ((0, 100), []), (((-9223372036854775808), 9223372036854775807), []), (((-2147483648), 2147483647), []), (((-9223372036854775808), 9223372036854775807), []), (((-9223372036854775808), 9223372036854775807), []), ((0, 1), []), ((0, 11), []), ((0, 11), []), (((-2147483648), 2147483647), []), (((-2147483648), 2147483647), []), (((-2147483648), 2147483647), []), (((-2147483648), 2147483647), []), (((-2147483648), 2147483647), []), (((-2147483648), 2147483647), []), ((0, 70368744177664), []), ((0, 70368744177664), []), ((0, 1099511627776), []), (((-2147483648), 2147483647), []), (((-2147483648), 2147483647), []), (((-2147483648), 2147483647), []), (((-2147483648), 2147483647), []), ((0, 39), []), (((-2147483648), 2147483647), []), ((0, 1), []), ((0, 1), []), ((0, 40), []), (((-300), 1000), []), ((0, 12), []), (((-2147483648), 2147483647), []), (((-9223372036854775808), 9223372036854775807), [])]
noncomputable def yo_H : ys_T := (yo_hi, [], (yo_hf, yo_hr), [(3, .inl (.inl ([(1, 1)], 0))), (2, .inr (some 85)), (1, .inr (some 0)), (0, .inr (some 1000))], [], ([(1, (-1))], 4000))
noncomputable def yo_t0 : List ys_L := [([], 0), ([], 0), ([], 0), ([], 0), ([], 0), ([], 0), ([], 0), ([], 0), ([], 0), ([], 0), ([], 0), ([], 0), ([], 0), ([], 0), ([], 0), ([], 0), ([], (-1)), ([], 0), ([], 0), ([], 0), ([], 0), ([], 0), ([], 1), ([], 0), ([], 0), ([], 0), ([], 0), ([], (-1)), ([], 0), ([], 1), ([], 0), ([], 1), ([], 0), ([], 1), ([], 0), ([], 1), ([], 0), ([], 1), ([], 0), ([], 1), ([], 0), ([], 0), ([], 0), ([], 0), ([], 0), ([], (-1)), ([], 0), ([], 0), ([], 0), ([], 0), ([], 0), ([], 0), ([], 0), ([], 0), ([], 0), ([], 0), ([], 0), ([], 0), ([], 0), ([], 0), ([], 0), ([], 0), ([], 0), ([], 0), ([], 0), ([], 0), ([], 0), ([], 0), ([], 0), ([], 0), ([], 0), ([], 0), ([], 0), ([], 0), ([], 0), ([], 0), ([], 0), ([], 0), ([], 0), ([], 0), ([], 0), ([], 0), ([], 0), ([], 0), ([], 0), ([], 0), ([], 0), ([], 0), ([], 0), ([], 0), ([], 0), ([], 0), ([], 0), ([], 0), ([], 0), ([], 0), ([], 0), ([], 0), ([], 0), ([], 0), ([], 0), ([], 0), ([], 0), ([], 0), ([], 0), ([], 0), ([], 0), ([], 0), ([], 0), ([], 0), ([], 0), ([], 0), ([], 0), ([], 0), ([], 0), ([], (-1)), ([], 0), ([], 0)]
theorem yo_ent2 : yt_cck 1 none yo_B yo_Y.2.2.2.2.1 yo_Y.2.2.2.2.2.1 yo_Y.2.2.2.2.2.2 yo_H = some yo_t0 := by decide +kernel
theorem yo_y119 : yk_r0[119]? = some ((0, 0), []) := by decide +kernel
theorem yo_y91 : yk_r0[91]? = some ((0, 0), [(3, ((-1), (-1))), (2, ((-1), (-1))), (1, ((-1), (-1))), (0, ((-1), (-1)))]) := by decide +kernel
theorem yo_y92 : yk_r0[92]? = some ((0, 0), []) := by decide +kernel
theorem yo_y117 : yk_r0[117]? = some ((0, 0), []) := by decide +kernel
theorem yo_ent : (yt_cck 1 none yo_B yo_Y.2.2.2.2.1 yo_Y.2.2.2.2.2.1 yo_Y.2.2.2.2.2.2 yo_H).isSome = true := by decide +kernel
theorem yo_scb : ys_scb (ys_sT yo_B yo_H) = true := by decide +kernel
theorem yo_geb : ys_geb (yo_B.1 ++ yo_H.1) yo_H.2.2.2.2.2 0 = true := by decide +kernel
theorem yo_bel : ys_bel 119 yo_H.2.2.2.2.2 = true := by decide +kernel
theorem yo_hlen : (yo_B.1 ++ yo_H.1).length = 119 := by decide +kernel
noncomputable def yo_stop (pc : Nat) : Bool := decide (200 ≤ pc)
noncomputable def yo_lv : List yt_U := (yu_exp yo_stop yo_cj yo_ca yo_K yo_nx 40 18 (ys_sT yo_B yo_H) []).getD []
noncomputable def yo_ro (x : Option yt_U) : Option (List yt_VC) := match x with
  | some q => yv_run 118 10 10 [1] [5, 113, 69, 78, 87, 55, 57, 58, 60, 61, 63, 64, 66, 56, 59, 62, 65, 3, 96, 67, 76, 85, 4, 17, 12, 18, 19, 20, 21, 22, 23, 13, 14, 15, 16] [15, 116, 119, 91, 92, 90, 48, 50, 52, 54, 117, 2, 3, 4, 5, 86, 87, 88, 89, 118, 56, 57, 58, 59, 66, 67, 68, 69, 76, 77, 78, 79] yo_cj yo_ca yo_K yo_nx yo_H 200 false q.1 q.2.1 q.2.2
  | none => none
theorem yo_num : yk_r0[118]? = some ((0, 0), []) := by decide +kernel
noncomputable def yo_q_img (r : Nat → Int) (g : yt_G) : Prop := g 15 = g 116
theorem yo_k_img {r r' : Nat → Int} {g g' : yt_G}  (z15 : g' 15 = g 15) (z116 : g' 116 = g 116) (h : yo_q_img r g) : yo_q_img r' g' := by
  unfold yo_q_img
  rw [z15, z116]
  exact h
noncomputable def yo_q_J (r : Nat → Int) (g : yt_G) : Prop := r 5 = r 113
theorem yo_k_J {r r' : Nat → Int} {g g' : yt_G} (s5 : r' 5 = r 5) (s113 : r' 113 = r 113)  (h : yo_q_J r g) : yo_q_J r' g' := by
  unfold yo_q_J
  rw [s5, s113]
  exact h
noncomputable def yo_q_K0 (r : Nat → Int) (g : yt_G) : Prop := r 69 = g 119 0
theorem yo_k_K0 {r r' : Nat → Int} {g g' : yt_G} (s69 : r' 69 = r 69) (z119 : g' 119 = g 119) (h : yo_q_K0 r g) : yo_q_K0 r' g' := by
  unfold yo_q_K0
  rw [s69, z119]
  exact h
noncomputable def yo_q_K1 (r : Nat → Int) (g : yt_G) : Prop := r 78 = g 119 1
theorem yo_k_K1 {r r' : Nat → Int} {g g' : yt_G} (s78 : r' 78 = r 78) (z119 : g' 119 = g 119) (h : yo_q_K1 r g) : yo_q_K1 r' g' := by
  unfold yo_q_K1
  rw [s78, z119]
  exact h
noncomputable def yo_q_K2 (r : Nat → Int) (g : yt_G) : Prop := r 87 = g 119 2
theorem yo_k_K2 {r r' : Nat → Int} {g g' : yt_G} (s87 : r' 87 = r 87) (z119 : g' 119 = g 119) (h : yo_q_K2 r g) : yo_q_K2 r' g' := by
  unfold yo_q_K2
  rw [s87, z119]
  exact h
noncomputable def yo_q_T0 (r : Nat → Int) (g : yt_G) : Prop := ((0 ≤ g 91 0 ∧ r 55 = 1) ∨ (g 91 0 < 0 ∧ r 55 = 0))
theorem yo_k_T0 {r r' : Nat → Int} {g g' : yt_G} (s55 : r' 55 = r 55) (z91 : g' 91 = g 91) (h : yo_q_T0 r g) : yo_q_T0 r' g' := by
  unfold yo_q_T0
  rw [s55, z91]
  exact h
noncomputable def yo_q_L0 (r : Nat → Int) (g : yt_G) : Prop := r 57 = g 92 0
theorem yo_k_L0 {r r' : Nat → Int} {g g' : yt_G} (s57 : r' 57 = r 57) (z92 : g' 92 = g 92) (h : yo_q_L0 r g) : yo_q_L0 r' g' := by
  unfold yo_q_L0
  rw [s57, z92]
  exact h
noncomputable def yo_q_T1 (r : Nat → Int) (g : yt_G) : Prop := ((0 ≤ g 91 1 ∧ r 58 = 1) ∨ (g 91 1 < 0 ∧ r 58 = 0))
theorem yo_k_T1 {r r' : Nat → Int} {g g' : yt_G} (s58 : r' 58 = r 58) (z91 : g' 91 = g 91) (h : yo_q_T1 r g) : yo_q_T1 r' g' := by
  unfold yo_q_T1
  rw [s58, z91]
  exact h
noncomputable def yo_q_L1 (r : Nat → Int) (g : yt_G) : Prop := r 60 = g 92 1
theorem yo_k_L1 {r r' : Nat → Int} {g g' : yt_G} (s60 : r' 60 = r 60) (z92 : g' 92 = g 92) (h : yo_q_L1 r g) : yo_q_L1 r' g' := by
  unfold yo_q_L1
  rw [s60, z92]
  exact h
noncomputable def yo_q_T2 (r : Nat → Int) (g : yt_G) : Prop := ((0 ≤ g 91 2 ∧ r 61 = 1) ∨ (g 91 2 < 0 ∧ r 61 = 0))
theorem yo_k_T2 {r r' : Nat → Int} {g g' : yt_G} (s61 : r' 61 = r 61) (z91 : g' 91 = g 91) (h : yo_q_T2 r g) : yo_q_T2 r' g' := by
  unfold yo_q_T2
  rw [s61, z91]
  exact h
noncomputable def yo_q_L2 (r : Nat → Int) (g : yt_G) : Prop := r 63 = g 92 2
theorem yo_k_L2 {r r' : Nat → Int} {g g' : yt_G} (s63 : r' 63 = r 63) (z92 : g' 92 = g 92) (h : yo_q_L2 r g) : yo_q_L2 r' g' := by
  unfold yo_q_L2
  rw [s63, z92]
  exact h
noncomputable def yo_q_T3 (r : Nat → Int) (g : yt_G) : Prop := ((0 ≤ g 91 3 ∧ r 64 = 1) ∨ (g 91 3 < 0 ∧ r 64 = 0))
theorem yo_k_T3 {r r' : Nat → Int} {g g' : yt_G} (s64 : r' 64 = r 64) (z91 : g' 91 = g 91) (h : yo_q_T3 r g) : yo_q_T3 r' g' := by
  unfold yo_q_T3
  rw [s64, z91]
  exact h
noncomputable def yo_q_L3 (r : Nat → Int) (g : yt_G) : Prop := r 66 = g 92 3
theorem yo_k_L3 {r r' : Nat → Int} {g g' : yt_G} (s66 : r' 66 = r 66) (z92 : g' 92 = g 92) (h : yo_q_L3 r g) : yo_q_L3 r' g' := by
  unfold yo_q_L3
  rw [s66, z92]
  exact h
noncomputable def yo_q_D0 (r : Nat → Int) (g : yt_G) : Prop := (g 91 0 < 0 ∨ r 56 = g 91 0)
theorem yo_k_D0 {r r' : Nat → Int} {g g' : yt_G} (s56 : r' 56 = r 56) (z91 : g' 91 = g 91) (h : yo_q_D0 r g) : yo_q_D0 r' g' := by
  unfold yo_q_D0
  rw [s56, z91]
  exact h
noncomputable def yo_q_E0 (r : Nat → Int) (g : yt_G) : Prop := (0 ≤ g 91 0 ∨ g 92 0 = 0)
theorem yo_k_E0 {r r' : Nat → Int} {g g' : yt_G}  (z91 : g' 91 = g 91) (z92 : g' 92 = g 92) (h : yo_q_E0 r g) : yo_q_E0 r' g' := by
  unfold yo_q_E0
  rw [z91, z92]
  exact h
noncomputable def yo_q_W0 (r : Nat → Int) (g : yt_G) : Prop := (∀ j : Nat, (j : Int) < r 57 → g 48 j = g 90 (100 * 0 + j))
theorem yo_k_W0 {r r' : Nat → Int} {g g' : yt_G} (s57 : r' 57 = r 57) (z48 : g' 48 = g 48) (z90 : g' 90 = g 90) (h : yo_q_W0 r g) : yo_q_W0 r' g' := by
  unfold yo_q_W0
  rw [s57, z48, z90]
  exact h
noncomputable def yo_q_D1 (r : Nat → Int) (g : yt_G) : Prop := (g 91 1 < 0 ∨ r 59 = g 91 1)
theorem yo_k_D1 {r r' : Nat → Int} {g g' : yt_G} (s59 : r' 59 = r 59) (z91 : g' 91 = g 91) (h : yo_q_D1 r g) : yo_q_D1 r' g' := by
  unfold yo_q_D1
  rw [s59, z91]
  exact h
noncomputable def yo_q_E1 (r : Nat → Int) (g : yt_G) : Prop := (0 ≤ g 91 1 ∨ g 92 1 = 0)
theorem yo_k_E1 {r r' : Nat → Int} {g g' : yt_G}  (z91 : g' 91 = g 91) (z92 : g' 92 = g 92) (h : yo_q_E1 r g) : yo_q_E1 r' g' := by
  unfold yo_q_E1
  rw [z91, z92]
  exact h
noncomputable def yo_q_W1 (r : Nat → Int) (g : yt_G) : Prop := (∀ j : Nat, (j : Int) < r 60 → g 50 j = g 90 (100 * 1 + j))
theorem yo_k_W1 {r r' : Nat → Int} {g g' : yt_G} (s60 : r' 60 = r 60) (z50 : g' 50 = g 50) (z90 : g' 90 = g 90) (h : yo_q_W1 r g) : yo_q_W1 r' g' := by
  unfold yo_q_W1
  rw [s60, z50, z90]
  exact h
noncomputable def yo_q_D2 (r : Nat → Int) (g : yt_G) : Prop := (g 91 2 < 0 ∨ r 62 = g 91 2)
theorem yo_k_D2 {r r' : Nat → Int} {g g' : yt_G} (s62 : r' 62 = r 62) (z91 : g' 91 = g 91) (h : yo_q_D2 r g) : yo_q_D2 r' g' := by
  unfold yo_q_D2
  rw [s62, z91]
  exact h
noncomputable def yo_q_E2 (r : Nat → Int) (g : yt_G) : Prop := (0 ≤ g 91 2 ∨ g 92 2 = 0)
theorem yo_k_E2 {r r' : Nat → Int} {g g' : yt_G}  (z91 : g' 91 = g 91) (z92 : g' 92 = g 92) (h : yo_q_E2 r g) : yo_q_E2 r' g' := by
  unfold yo_q_E2
  rw [z91, z92]
  exact h
noncomputable def yo_q_W2 (r : Nat → Int) (g : yt_G) : Prop := (∀ j : Nat, (j : Int) < r 63 → g 52 j = g 90 (100 * 2 + j))
theorem yo_k_W2 {r r' : Nat → Int} {g g' : yt_G} (s63 : r' 63 = r 63) (z52 : g' 52 = g 52) (z90 : g' 90 = g 90) (h : yo_q_W2 r g) : yo_q_W2 r' g' := by
  unfold yo_q_W2
  rw [s63, z52, z90]
  exact h
noncomputable def yo_q_D3 (r : Nat → Int) (g : yt_G) : Prop := (g 91 3 < 0 ∨ r 65 = g 91 3)
theorem yo_k_D3 {r r' : Nat → Int} {g g' : yt_G} (s65 : r' 65 = r 65) (z91 : g' 91 = g 91) (h : yo_q_D3 r g) : yo_q_D3 r' g' := by
  unfold yo_q_D3
  rw [s65, z91]
  exact h
noncomputable def yo_q_E3 (r : Nat → Int) (g : yt_G) : Prop := (0 ≤ g 91 3 ∨ g 92 3 = 0)
theorem yo_k_E3 {r r' : Nat → Int} {g g' : yt_G}  (z91 : g' 91 = g 91) (z92 : g' 92 = g 92) (h : yo_q_E3 r g) : yo_q_E3 r' g' := by
  unfold yo_q_E3
  rw [z91, z92]
  exact h
noncomputable def yo_q_W3 (r : Nat → Int) (g : yt_G) : Prop := (∀ j : Nat, (j : Int) < r 66 → g 54 j = g 90 (100 * 3 + j))
theorem yo_k_W3 {r r' : Nat → Int} {g g' : yt_G} (s66 : r' 66 = r 66) (z54 : g' 54 = g 54) (z90 : g' 90 = g 90) (h : yo_q_W3 r g) : yo_q_W3 r' g' := by
  unfold yo_q_W3
  rw [s66, z54, z90]
  exact h
noncomputable def yo_q_P (r : Nat → Int) (g : yt_G) : Prop := r 3 = r 96
theorem yo_k_P {r r' : Nat → Int} {g g' : yt_G} (s3 : r' 3 = r 3) (s96 : r' 96 = r 96)  (h : yo_q_P r g) : yo_q_P r' g' := by
  unfold yo_q_P
  rw [s3, s96]
  exact h
noncomputable def yo_q_Q0 (r : Nat → Int) (g : yt_G) : Prop := r 67 = g 117 0
theorem yo_k_Q0 {r r' : Nat → Int} {g g' : yt_G} (s67 : r' 67 = r 67) (z117 : g' 117 = g 117) (h : yo_q_Q0 r g) : yo_q_Q0 r' g' := by
  unfold yo_q_Q0
  rw [s67, z117]
  exact h
noncomputable def yo_q_Q1 (r : Nat → Int) (g : yt_G) : Prop := r 76 = g 117 1
theorem yo_k_Q1 {r r' : Nat → Int} {g g' : yt_G} (s76 : r' 76 = r 76) (z117 : g' 117 = g 117) (h : yo_q_Q1 r g) : yo_q_Q1 r' g' := by
  unfold yo_q_Q1
  rw [s76, z117]
  exact h
noncomputable def yo_q_Q2 (r : Nat → Int) (g : yt_G) : Prop := r 85 = g 117 2
theorem yo_k_Q2 {r r' : Nat → Int} {g g' : yt_G} (s85 : r' 85 = r 85) (z117 : g' 117 = g 117) (h : yo_q_Q2 r g) : yo_q_Q2 r' g' := by
  unfold yo_q_Q2
  rw [s85, z117]
  exact h
noncomputable def yo_q_A0 (r : Nat → Int) (g : yt_G) : Prop := (∀ j : Nat, (j : Int) < r 3 → g 2 j = g 86 j)
theorem yo_k_A0 {r r' : Nat → Int} {g g' : yt_G} (s3 : r' 3 = r 3) (z2 : g' 2 = g 2) (z86 : g' 86 = g 86) (h : yo_q_A0 r g) : yo_q_A0 r' g' := by
  unfold yo_q_A0
  rw [s3, z2, z86]
  exact h
noncomputable def yo_q_A1 (r : Nat → Int) (g : yt_G) : Prop := (∀ j : Nat, (j : Int) < r 3 → g 3 j = g 87 j)
theorem yo_k_A1 {r r' : Nat → Int} {g g' : yt_G} (s3 : r' 3 = r 3) (z3 : g' 3 = g 3) (z87 : g' 87 = g 87) (h : yo_q_A1 r g) : yo_q_A1 r' g' := by
  unfold yo_q_A1
  rw [s3, z3, z87]
  exact h
noncomputable def yo_q_A2 (r : Nat → Int) (g : yt_G) : Prop := (∀ j : Nat, (j : Int) < r 3 → g 4 j = g 88 j)
theorem yo_k_A2 {r r' : Nat → Int} {g g' : yt_G} (s3 : r' 3 = r 3) (z4 : g' 4 = g 4) (z88 : g' 88 = g 88) (h : yo_q_A2 r g) : yo_q_A2 r' g' := by
  unfold yo_q_A2
  rw [s3, z4, z88]
  exact h
noncomputable def yo_q_A3 (r : Nat → Int) (g : yt_G) : Prop := (∀ j : Nat, (j : Int) < r 3 → g 5 j = g 89 j)
theorem yo_k_A3 {r r' : Nat → Int} {g g' : yt_G} (s3 : r' 3 = r 3) (z5 : g' 5 = g 5) (z89 : g' 89 = g 89) (h : yo_q_A3 r g) : yo_q_A3 r' g' := by
  unfold yo_q_A3
  rw [s3, z5, z89]
  exact h
noncomputable def yo_q_B00 (r : Nat → Int) (g : yt_G) : Prop := (∀ j : Nat, (j : Int) < r 67 → g 56 j = g 118 (160 * 0 + 4 * j + 0))
theorem yo_k_B00 {r r' : Nat → Int} {g g' : yt_G} (s67 : r' 67 = r 67) (z56 : g' 56 = g 56) (z118 : g' 118 = g 118) (h : yo_q_B00 r g) : yo_q_B00 r' g' := by
  unfold yo_q_B00
  rw [s67, z56, z118]
  exact h
noncomputable def yo_q_B01 (r : Nat → Int) (g : yt_G) : Prop := (∀ j : Nat, (j : Int) < r 67 → g 57 j = g 118 (160 * 0 + 4 * j + 1))
theorem yo_k_B01 {r r' : Nat → Int} {g g' : yt_G} (s67 : r' 67 = r 67) (z57 : g' 57 = g 57) (z118 : g' 118 = g 118) (h : yo_q_B01 r g) : yo_q_B01 r' g' := by
  unfold yo_q_B01
  rw [s67, z57, z118]
  exact h
noncomputable def yo_q_B02 (r : Nat → Int) (g : yt_G) : Prop := (∀ j : Nat, (j : Int) < r 67 → g 58 j = g 118 (160 * 0 + 4 * j + 2))
theorem yo_k_B02 {r r' : Nat → Int} {g g' : yt_G} (s67 : r' 67 = r 67) (z58 : g' 58 = g 58) (z118 : g' 118 = g 118) (h : yo_q_B02 r g) : yo_q_B02 r' g' := by
  unfold yo_q_B02
  rw [s67, z58, z118]
  exact h
noncomputable def yo_q_B03 (r : Nat → Int) (g : yt_G) : Prop := (∀ j : Nat, (j : Int) < r 67 → g 59 j = g 118 (160 * 0 + 4 * j + 3))
theorem yo_k_B03 {r r' : Nat → Int} {g g' : yt_G} (s67 : r' 67 = r 67) (z59 : g' 59 = g 59) (z118 : g' 118 = g 118) (h : yo_q_B03 r g) : yo_q_B03 r' g' := by
  unfold yo_q_B03
  rw [s67, z59, z118]
  exact h
noncomputable def yo_q_B10 (r : Nat → Int) (g : yt_G) : Prop := (∀ j : Nat, (j : Int) < r 76 → g 66 j = g 118 (160 * 1 + 4 * j + 0))
theorem yo_k_B10 {r r' : Nat → Int} {g g' : yt_G} (s76 : r' 76 = r 76) (z66 : g' 66 = g 66) (z118 : g' 118 = g 118) (h : yo_q_B10 r g) : yo_q_B10 r' g' := by
  unfold yo_q_B10
  rw [s76, z66, z118]
  exact h
noncomputable def yo_q_B11 (r : Nat → Int) (g : yt_G) : Prop := (∀ j : Nat, (j : Int) < r 76 → g 67 j = g 118 (160 * 1 + 4 * j + 1))
theorem yo_k_B11 {r r' : Nat → Int} {g g' : yt_G} (s76 : r' 76 = r 76) (z67 : g' 67 = g 67) (z118 : g' 118 = g 118) (h : yo_q_B11 r g) : yo_q_B11 r' g' := by
  unfold yo_q_B11
  rw [s76, z67, z118]
  exact h
noncomputable def yo_q_B12 (r : Nat → Int) (g : yt_G) : Prop := (∀ j : Nat, (j : Int) < r 76 → g 68 j = g 118 (160 * 1 + 4 * j + 2))
theorem yo_k_B12 {r r' : Nat → Int} {g g' : yt_G} (s76 : r' 76 = r 76) (z68 : g' 68 = g 68) (z118 : g' 118 = g 118) (h : yo_q_B12 r g) : yo_q_B12 r' g' := by
  unfold yo_q_B12
  rw [s76, z68, z118]
  exact h
noncomputable def yo_q_B13 (r : Nat → Int) (g : yt_G) : Prop := (∀ j : Nat, (j : Int) < r 76 → g 69 j = g 118 (160 * 1 + 4 * j + 3))
theorem yo_k_B13 {r r' : Nat → Int} {g g' : yt_G} (s76 : r' 76 = r 76) (z69 : g' 69 = g 69) (z118 : g' 118 = g 118) (h : yo_q_B13 r g) : yo_q_B13 r' g' := by
  unfold yo_q_B13
  rw [s76, z69, z118]
  exact h
noncomputable def yo_q_B20 (r : Nat → Int) (g : yt_G) : Prop := (∀ j : Nat, (j : Int) < r 85 → g 76 j = g 118 (160 * 2 + 4 * j + 0))
theorem yo_k_B20 {r r' : Nat → Int} {g g' : yt_G} (s85 : r' 85 = r 85) (z76 : g' 76 = g 76) (z118 : g' 118 = g 118) (h : yo_q_B20 r g) : yo_q_B20 r' g' := by
  unfold yo_q_B20
  rw [s85, z76, z118]
  exact h
noncomputable def yo_q_B21 (r : Nat → Int) (g : yt_G) : Prop := (∀ j : Nat, (j : Int) < r 85 → g 77 j = g 118 (160 * 2 + 4 * j + 1))
theorem yo_k_B21 {r r' : Nat → Int} {g g' : yt_G} (s85 : r' 85 = r 85) (z77 : g' 77 = g 77) (z118 : g' 118 = g 118) (h : yo_q_B21 r g) : yo_q_B21 r' g' := by
  unfold yo_q_B21
  rw [s85, z77, z118]
  exact h
noncomputable def yo_q_B22 (r : Nat → Int) (g : yt_G) : Prop := (∀ j : Nat, (j : Int) < r 85 → g 78 j = g 118 (160 * 2 + 4 * j + 2))
theorem yo_k_B22 {r r' : Nat → Int} {g g' : yt_G} (s85 : r' 85 = r 85) (z78 : g' 78 = g 78) (z118 : g' 118 = g 118) (h : yo_q_B22 r g) : yo_q_B22 r' g' := by
  unfold yo_q_B22
  rw [s85, z78, z118]
  exact h
noncomputable def yo_q_B23 (r : Nat → Int) (g : yt_G) : Prop := (∀ j : Nat, (j : Int) < r 85 → g 79 j = g 118 (160 * 2 + 4 * j + 3))
theorem yo_k_B23 {r r' : Nat → Int} {g g' : yt_G} (s85 : r' 85 = r 85) (z79 : g' 79 = g 79) (z118 : g' 118 = g 118) (h : yo_q_B23 r g) : yo_q_B23 r' g' := by
  unfold yo_q_B23
  rw [s85, z79, z118]
  exact h
noncomputable def yo_q_X (r : Nat → Int) (g : yt_G) : Prop := (0 ≤ r 4 ∧ r 4 ≤ 7 * r 1)
noncomputable def yo_q_U (r : Nat → Int) (g : yt_G) : Prop := ye_ky (g 2) (g 3) (g 4) (r 3).toNat (r 4) (r 17) (r 12, r 18, r 19, r 20, r 21)
theorem yo_k_U {r r' : Nat → Int} {g g' : yt_G} (s3 : r' 3 = r 3) (s4 : r' 4 = r 4) (s17 : r' 17 = r 17) (s12 : r' 12 = r 12) (s18 : r' 18 = r 18) (s19 : r' 19 = r 19) (s20 : r' 20 = r 20) (s21 : r' 21 = r 21) (z2 : g' 2 = g 2) (z3 : g' 3 = g 3) (z4 : g' 4 = g 4) (h : yo_q_U r g) : yo_q_U r' g' := by
  unfold yo_q_U
  rw [s3, s4, s17, s12, s18, s19, s20, s21, z2, z3, z4]
  exact h
noncomputable def yo_q_O (r : Nat → Int) (g : yt_G) : Prop := ye_ko (g 2) (g 3) (r 3).toNat (r 4) (r 17) (r 12, r 18, r 19, r 20, r 21) (r 22, r 23, r 13, r 14, r 15, r 16)
theorem yo_k_O {r r' : Nat → Int} {g g' : yt_G} (s3 : r' 3 = r 3) (s4 : r' 4 = r 4) (s17 : r' 17 = r 17) (s12 : r' 12 = r 12) (s18 : r' 18 = r 18) (s19 : r' 19 = r 19) (s20 : r' 20 = r 20) (s21 : r' 21 = r 21) (s22 : r' 22 = r 22) (s23 : r' 23 = r 23) (s13 : r' 13 = r 13) (s14 : r' 14 = r 14) (s15 : r' 15 = r 15) (s16 : r' 16 = r 16) (z2 : g' 2 = g 2) (z3 : g' 3 = g 3) (h : yo_q_O r g) : yo_q_O r' g' := by
  unfold yo_q_O
  rw [s3, s4, s17, s12, s18, s19, s20, s21, s22, s23, s13, s14, s15, s16, z2, z3]
  exact h
noncomputable def yo_Rel (r : Nat → Int) (g : yt_G) : Prop := yo_q_img r g ∧ yo_q_J r g ∧ yo_q_K0 r g ∧ yo_q_K1 r g ∧ yo_q_K2 r g ∧ yo_q_T0 r g ∧ yo_q_L0 r g ∧ yo_q_T1 r g ∧ yo_q_L1 r g ∧ yo_q_T2 r g ∧ yo_q_L2 r g ∧ yo_q_T3 r g ∧ yo_q_L3 r g ∧ yo_q_D0 r g ∧ yo_q_E0 r g ∧ yo_q_W0 r g ∧ yo_q_D1 r g ∧ yo_q_E1 r g ∧ yo_q_W1 r g ∧ yo_q_D2 r g ∧ yo_q_E2 r g ∧ yo_q_W2 r g ∧ yo_q_D3 r g ∧ yo_q_E3 r g ∧ yo_q_W3 r g ∧ yo_q_P r g ∧ yo_q_Q0 r g ∧ yo_q_Q1 r g ∧ yo_q_Q2 r g ∧ yo_q_A0 r g ∧ yo_q_A1 r g ∧ yo_q_A2 r g ∧ yo_q_A3 r g ∧ yo_q_B00 r g ∧ yo_q_B01 r g ∧ yo_q_B02 r g ∧ yo_q_B03 r g ∧ yo_q_B10 r g ∧ yo_q_B11 r g ∧ yo_q_B12 r g ∧ yo_q_B13 r g ∧ yo_q_B20 r g ∧ yo_q_B21 r g ∧ yo_q_B22 r g ∧ yo_q_B23 r g ∧ yo_q_X r g ∧ yo_q_U r g ∧ yo_q_O r g
theorem yo_p_img {r : Nat → Int} {g : yt_G} (h : yo_Rel r g) : g 15 = g 116 := h.1
theorem yo_p_J {r : Nat → Int} {g : yt_G} (h : yo_Rel r g) : r 5 = r 113 := h.2.1
theorem yo_p_K0 {r : Nat → Int} {g : yt_G} (h : yo_Rel r g) : r 69 = g 119 0 := h.2.2.1
theorem yo_p_K1 {r : Nat → Int} {g : yt_G} (h : yo_Rel r g) : r 78 = g 119 1 := h.2.2.2.1
theorem yo_p_K2 {r : Nat → Int} {g : yt_G} (h : yo_Rel r g) : r 87 = g 119 2 := h.2.2.2.2.1
theorem yo_p_T0 {r : Nat → Int} {g : yt_G} (h : yo_Rel r g) : ((0 ≤ g 91 0 ∧ r 55 = 1) ∨ (g 91 0 < 0 ∧ r 55 = 0)) := h.2.2.2.2.2.1
theorem yo_p_L0 {r : Nat → Int} {g : yt_G} (h : yo_Rel r g) : r 57 = g 92 0 := h.2.2.2.2.2.2.1
theorem yo_p_T1 {r : Nat → Int} {g : yt_G} (h : yo_Rel r g) : ((0 ≤ g 91 1 ∧ r 58 = 1) ∨ (g 91 1 < 0 ∧ r 58 = 0)) := h.2.2.2.2.2.2.2.1
theorem yo_p_L1 {r : Nat → Int} {g : yt_G} (h : yo_Rel r g) : r 60 = g 92 1 := h.2.2.2.2.2.2.2.2.1
theorem yo_p_T2 {r : Nat → Int} {g : yt_G} (h : yo_Rel r g) : ((0 ≤ g 91 2 ∧ r 61 = 1) ∨ (g 91 2 < 0 ∧ r 61 = 0)) := h.2.2.2.2.2.2.2.2.2.1
theorem yo_p_L2 {r : Nat → Int} {g : yt_G} (h : yo_Rel r g) : r 63 = g 92 2 := h.2.2.2.2.2.2.2.2.2.2.1
theorem yo_p_T3 {r : Nat → Int} {g : yt_G} (h : yo_Rel r g) : ((0 ≤ g 91 3 ∧ r 64 = 1) ∨ (g 91 3 < 0 ∧ r 64 = 0)) := h.2.2.2.2.2.2.2.2.2.2.2.1
theorem yo_p_L3 {r : Nat → Int} {g : yt_G} (h : yo_Rel r g) : r 66 = g 92 3 := h.2.2.2.2.2.2.2.2.2.2.2.2.1
theorem yo_p_D0 {r : Nat → Int} {g : yt_G} (h : yo_Rel r g) : (g 91 0 < 0 ∨ r 56 = g 91 0) := h.2.2.2.2.2.2.2.2.2.2.2.2.2.1
theorem yo_p_E0 {r : Nat → Int} {g : yt_G} (h : yo_Rel r g) : (0 ≤ g 91 0 ∨ g 92 0 = 0) := h.2.2.2.2.2.2.2.2.2.2.2.2.2.2.1
theorem yo_p_W0 {r : Nat → Int} {g : yt_G} (h : yo_Rel r g) : (∀ j : Nat, (j : Int) < r 57 → g 48 j = g 90 (100 * 0 + j)) := h.2.2.2.2.2.2.2.2.2.2.2.2.2.2.2.1
theorem yo_p_D1 {r : Nat → Int} {g : yt_G} (h : yo_Rel r g) : (g 91 1 < 0 ∨ r 59 = g 91 1) := h.2.2.2.2.2.2.2.2.2.2.2.2.2.2.2.2.1
theorem yo_p_E1 {r : Nat → Int} {g : yt_G} (h : yo_Rel r g) : (0 ≤ g 91 1 ∨ g 92 1 = 0) := h.2.2.2.2.2.2.2.2.2.2.2.2.2.2.2.2.2.1
theorem yo_p_W1 {r : Nat → Int} {g : yt_G} (h : yo_Rel r g) : (∀ j : Nat, (j : Int) < r 60 → g 50 j = g 90 (100 * 1 + j)) := h.2.2.2.2.2.2.2.2.2.2.2.2.2.2.2.2.2.2.1
theorem yo_p_D2 {r : Nat → Int} {g : yt_G} (h : yo_Rel r g) : (g 91 2 < 0 ∨ r 62 = g 91 2) := h.2.2.2.2.2.2.2.2.2.2.2.2.2.2.2.2.2.2.2.1
theorem yo_p_E2 {r : Nat → Int} {g : yt_G} (h : yo_Rel r g) : (0 ≤ g 91 2 ∨ g 92 2 = 0) := h.2.2.2.2.2.2.2.2.2.2.2.2.2.2.2.2.2.2.2.2.1
theorem yo_p_W2 {r : Nat → Int} {g : yt_G} (h : yo_Rel r g) : (∀ j : Nat, (j : Int) < r 63 → g 52 j = g 90 (100 * 2 + j)) := h.2.2.2.2.2.2.2.2.2.2.2.2.2.2.2.2.2.2.2.2.2.1
theorem yo_p_D3 {r : Nat → Int} {g : yt_G} (h : yo_Rel r g) : (g 91 3 < 0 ∨ r 65 = g 91 3) := h.2.2.2.2.2.2.2.2.2.2.2.2.2.2.2.2.2.2.2.2.2.2.1
theorem yo_p_E3 {r : Nat → Int} {g : yt_G} (h : yo_Rel r g) : (0 ≤ g 91 3 ∨ g 92 3 = 0) := h.2.2.2.2.2.2.2.2.2.2.2.2.2.2.2.2.2.2.2.2.2.2.2.1
theorem yo_p_W3 {r : Nat → Int} {g : yt_G} (h : yo_Rel r g) : (∀ j : Nat, (j : Int) < r 66 → g 54 j = g 90 (100 * 3 + j)) := h.2.2.2.2.2.2.2.2.2.2.2.2.2.2.2.2.2.2.2.2.2.2.2.2.1
theorem yo_p_P {r : Nat → Int} {g : yt_G} (h : yo_Rel r g) : r 3 = r 96 := h.2.2.2.2.2.2.2.2.2.2.2.2.2.2.2.2.2.2.2.2.2.2.2.2.2.1
theorem yo_p_Q0 {r : Nat → Int} {g : yt_G} (h : yo_Rel r g) : r 67 = g 117 0 := h.2.2.2.2.2.2.2.2.2.2.2.2.2.2.2.2.2.2.2.2.2.2.2.2.2.2.1
theorem yo_p_Q1 {r : Nat → Int} {g : yt_G} (h : yo_Rel r g) : r 76 = g 117 1 := h.2.2.2.2.2.2.2.2.2.2.2.2.2.2.2.2.2.2.2.2.2.2.2.2.2.2.2.1
theorem yo_p_Q2 {r : Nat → Int} {g : yt_G} (h : yo_Rel r g) : r 85 = g 117 2 := h.2.2.2.2.2.2.2.2.2.2.2.2.2.2.2.2.2.2.2.2.2.2.2.2.2.2.2.2.1
theorem yo_p_A0 {r : Nat → Int} {g : yt_G} (h : yo_Rel r g) : (∀ j : Nat, (j : Int) < r 3 → g 2 j = g 86 j) := h.2.2.2.2.2.2.2.2.2.2.2.2.2.2.2.2.2.2.2.2.2.2.2.2.2.2.2.2.2.1
theorem yo_p_A1 {r : Nat → Int} {g : yt_G} (h : yo_Rel r g) : (∀ j : Nat, (j : Int) < r 3 → g 3 j = g 87 j) := h.2.2.2.2.2.2.2.2.2.2.2.2.2.2.2.2.2.2.2.2.2.2.2.2.2.2.2.2.2.2.1
theorem yo_p_A2 {r : Nat → Int} {g : yt_G} (h : yo_Rel r g) : (∀ j : Nat, (j : Int) < r 3 → g 4 j = g 88 j) := h.2.2.2.2.2.2.2.2.2.2.2.2.2.2.2.2.2.2.2.2.2.2.2.2.2.2.2.2.2.2.2.1
theorem yo_p_A3 {r : Nat → Int} {g : yt_G} (h : yo_Rel r g) : (∀ j : Nat, (j : Int) < r 3 → g 5 j = g 89 j) := h.2.2.2.2.2.2.2.2.2.2.2.2.2.2.2.2.2.2.2.2.2.2.2.2.2.2.2.2.2.2.2.2.1
theorem yo_p_B00 {r : Nat → Int} {g : yt_G} (h : yo_Rel r g) : (∀ j : Nat, (j : Int) < r 67 → g 56 j = g 118 (160 * 0 + 4 * j + 0)) := h.2.2.2.2.2.2.2.2.2.2.2.2.2.2.2.2.2.2.2.2.2.2.2.2.2.2.2.2.2.2.2.2.2.1
theorem yo_p_B01 {r : Nat → Int} {g : yt_G} (h : yo_Rel r g) : (∀ j : Nat, (j : Int) < r 67 → g 57 j = g 118 (160 * 0 + 4 * j + 1)) := h.2.2.2.2.2.2.2.2.2.2.2.2.2.2.2.2.2.2.2.2.2.2.2.2.2.2.2.2.2.2.2.2.2.2.1
theorem yo_p_B02 {r : Nat → Int} {g : yt_G} (h : yo_Rel r g) : (∀ j : Nat, (j : Int) < r 67 → g 58 j = g 118 (160 * 0 + 4 * j + 2)) := h.2.2.2.2.2.2.2.2.2.2.2.2.2.2.2.2.2.2.2.2.2.2.2.2.2.2.2.2.2.2.2.2.2.2.2.1
theorem yo_p_B03 {r : Nat → Int} {g : yt_G} (h : yo_Rel r g) : (∀ j : Nat, (j : Int) < r 67 → g 59 j = g 118 (160 * 0 + 4 * j + 3)) := h.2.2.2.2.2.2.2.2.2.2.2.2.2.2.2.2.2.2.2.2.2.2.2.2.2.2.2.2.2.2.2.2.2.2.2.2.1
theorem yo_p_B10 {r : Nat → Int} {g : yt_G} (h : yo_Rel r g) : (∀ j : Nat, (j : Int) < r 76 → g 66 j = g 118 (160 * 1 + 4 * j + 0)) := h.2.2.2.2.2.2.2.2.2.2.2.2.2.2.2.2.2.2.2.2.2.2.2.2.2.2.2.2.2.2.2.2.2.2.2.2.2.1
theorem yo_p_B11 {r : Nat → Int} {g : yt_G} (h : yo_Rel r g) : (∀ j : Nat, (j : Int) < r 76 → g 67 j = g 118 (160 * 1 + 4 * j + 1)) := h.2.2.2.2.2.2.2.2.2.2.2.2.2.2.2.2.2.2.2.2.2.2.2.2.2.2.2.2.2.2.2.2.2.2.2.2.2.2.1
theorem yo_p_B12 {r : Nat → Int} {g : yt_G} (h : yo_Rel r g) : (∀ j : Nat, (j : Int) < r 76 → g 68 j = g 118 (160 * 1 + 4 * j + 2)) := h.2.2.2.2.2.2.2.2.2.2.2.2.2.2.2.2.2.2.2.2.2.2.2.2.2.2.2.2.2.2.2.2.2.2.2.2.2.2.2.1
theorem yo_p_B13 {r : Nat → Int} {g : yt_G} (h : yo_Rel r g) : (∀ j : Nat, (j : Int) < r 76 → g 69 j = g 118 (160 * 1 + 4 * j + 3)) := h.2.2.2.2.2.2.2.2.2.2.2.2.2.2.2.2.2.2.2.2.2.2.2.2.2.2.2.2.2.2.2.2.2.2.2.2.2.2.2.2.1
theorem yo_p_B20 {r : Nat → Int} {g : yt_G} (h : yo_Rel r g) : (∀ j : Nat, (j : Int) < r 85 → g 76 j = g 118 (160 * 2 + 4 * j + 0)) := h.2.2.2.2.2.2.2.2.2.2.2.2.2.2.2.2.2.2.2.2.2.2.2.2.2.2.2.2.2.2.2.2.2.2.2.2.2.2.2.2.2.1
theorem yo_p_B21 {r : Nat → Int} {g : yt_G} (h : yo_Rel r g) : (∀ j : Nat, (j : Int) < r 85 → g 77 j = g 118 (160 * 2 + 4 * j + 1)) := h.2.2.2.2.2.2.2.2.2.2.2.2.2.2.2.2.2.2.2.2.2.2.2.2.2.2.2.2.2.2.2.2.2.2.2.2.2.2.2.2.2.2.1
theorem yo_p_B22 {r : Nat → Int} {g : yt_G} (h : yo_Rel r g) : (∀ j : Nat, (j : Int) < r 85 → g 78 j = g 118 (160 * 2 + 4 * j + 2)) := h.2.2.2.2.2.2.2.2.2.2.2.2.2.2.2.2.2.2.2.2.2.2.2.2.2.2.2.2.2.2.2.2.2.2.2.2.2.2.2.2.2.2.2.1
theorem yo_p_B23 {r : Nat → Int} {g : yt_G} (h : yo_Rel r g) : (∀ j : Nat, (j : Int) < r 85 → g 79 j = g 118 (160 * 2 + 4 * j + 3)) := h.2.2.2.2.2.2.2.2.2.2.2.2.2.2.2.2.2.2.2.2.2.2.2.2.2.2.2.2.2.2.2.2.2.2.2.2.2.2.2.2.2.2.2.2.1
theorem yo_p_X {r : Nat → Int} {g : yt_G} (h : yo_Rel r g) : (0 ≤ r 4 ∧ r 4 ≤ 7 * r 1) := h.2.2.2.2.2.2.2.2.2.2.2.2.2.2.2.2.2.2.2.2.2.2.2.2.2.2.2.2.2.2.2.2.2.2.2.2.2.2.2.2.2.2.2.2.2.1
theorem yo_p_U {r : Nat → Int} {g : yt_G} (h : yo_Rel r g) : ye_ky (g 2) (g 3) (g 4) (r 3).toNat (r 4) (r 17) (r 12, r 18, r 19, r 20, r 21) := h.2.2.2.2.2.2.2.2.2.2.2.2.2.2.2.2.2.2.2.2.2.2.2.2.2.2.2.2.2.2.2.2.2.2.2.2.2.2.2.2.2.2.2.2.2.2.1
theorem yo_p_O {r : Nat → Int} {g : yt_G} (h : yo_Rel r g) : ye_ko (g 2) (g 3) (r 3).toNat (r 4) (r 17) (r 12, r 18, r 19, r 20, r 21) (r 22, r 23, r 13, r 14, r 15, r 16) := h.2.2.2.2.2.2.2.2.2.2.2.2.2.2.2.2.2.2.2.2.2.2.2.2.2.2.2.2.2.2.2.2.2.2.2.2.2.2.2.2.2.2.2.2.2.2.2
