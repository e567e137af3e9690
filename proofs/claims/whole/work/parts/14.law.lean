def mL : ZM := (x, code, 4, ret)
abbrev zkL (l : Launch) (L : Nat) (xs : Nat → Int32) (n : Nat) (z : ZMem) : ZK := (l, mL, room_1, 0, (false, n, z, some (.int 1)), fun ξ => zxs ξ = xs ∧ zLn ξ = L)
-- WhoComplainsCarriesLaw.law
def tbL_0 : List (Nat × Instr × Nat) := [(0, .new 7, 3), (3, .dup, 1), (4, .invokespecial 9, 3), (7, .astore_n 1, 1), (8, .new 10, 3), (11, .dup, 1), (12, .invokespecial 12, 3), (15, .astore_n 2, 1), (16, .iconst 0, 1), (17, .istore_n 3, 1), (18, .iload_n 3, 1), (19, .aload_n 0, 1), (20, .arraylength, 1), (21, .bipush 6, 2), (23, .isub, 1), (24, .if_icmp .gt 1404, 3), (27, .aload_n 0, 1), (28, .iload_n 3, 1), (29, .iaload, 1), (30, .bipush 63, 2), (32, .iand, 1), (33, .tableswitch 1389 0 38 #[171, 214, 287, 350, 384, 417, 440, 473, 526, 559, 592, 615, 648, 671, 684, 707, 730, 763, 796, 809, 842, 885, 928, 961, 994, 1007, 1040, 1063, 1096, 1139, 1172, 1205, 1228, 1251, 1274, 1317, 1340, 1353, 1366], 171), (204, .aload_n 1, 1), (205, .aload_n 0, 1), (206, .iload_n 3, 1), (207, .iconst 1, 1), (208, .iadd, 1), (209, .iaload, 1), (210, .aload_n 0, 1), (211, .iload_n 3, 1), (212, .iconst 2, 1), (213, .iadd, 1), (214, .iaload, 1), (215, .aload_n 0, 1), (216, .iload_n 3, 1), (217, .iconst 3, 1), (218, .iadd, 1), (219, .iaload, 1), (220, .invokevirtual 13, 3), (223, .aload_n 2, 1), (224, .aload_n 0, 1), (225, .iload_n 3, 1), (226, .iconst 1, 1), (227, .iadd, 1), (228, .iaload, 1), (229, .aload_n 0, 1), (230, .iload_n 3, 1), (231, .iconst 2, 1), (232, .iadd, 1), (233, .iaload, 1)]
theorem tbL_0_ok : ∀ q ∈ tbL_0, decode code q.1 = .ok (q.2.1, q.2.2) := by decide +kernel
def tbL_1 : List (Nat × Instr × Nat) := [(234, .aload_n 0, 1), (235, .iload_n 3, 1), (236, .iconst 3, 1), (237, .iadd, 1), (238, .iaload, 1), (239, .invokevirtual 17, 3), (242, .if_icmp .eq 1180, 3), (245, .iconst 0, 1), (246, .ireturn, 1), (247, .aload_n 1, 1), (248, .aload_n 0, 1), (249, .iload_n 3, 1), (250, .iconst 1, 1), (251, .iadd, 1), (252, .iaload, 1), (253, .aload_n 0, 1), (254, .iload_n 3, 1), (255, .iconst 2, 1), (256, .iadd, 1), (257, .iaload, 1), (258, .aload_n 0, 1), (259, .iload_n 3, 1), (260, .iconst 3, 1), (261, .iadd, 1), (262, .iaload, 1), (263, .i2l, 1), (264, .bipush 32, 2), (266, .lshl, 1), (267, .aload_n 0, 1), (268, .iload_n 3, 1), (269, .iconst 4, 1), (270, .iadd, 1), (271, .iaload, 1), (272, .i2l, 1), (273, .ldc2_w 18, 3), (276, .land, 1), (277, .lor, 1), (278, .invokevirtual 20, 3), (281, .aload_n 2, 1), (282, .aload_n 0, 1), (283, .iload_n 3, 1), (284, .iconst 1, 1), (285, .iadd, 1), (286, .iaload, 1), (287, .aload_n 0, 1), (288, .iload_n 3, 1), (289, .iconst 2, 1), (290, .iadd, 1), (291, .iaload, 1), (292, .aload_n 0, 1)]
theorem tbL_1_ok : ∀ q ∈ tbL_1, decode code q.1 = .ok (q.2.1, q.2.2) := by decide +kernel
def tbL_2 : List (Nat × Instr × Nat) := [(293, .iload_n 3, 1), (294, .iconst 3, 1), (295, .iadd, 1), (296, .iaload, 1), (297, .i2l, 1), (298, .bipush 32, 2), (300, .lshl, 1), (301, .aload_n 0, 1), (302, .iload_n 3, 1), (303, .iconst 4, 1), (304, .iadd, 1), (305, .iaload, 1), (306, .i2l, 1), (307, .ldc2_w 18, 3), (310, .land, 1), (311, .lor, 1), (312, .invokevirtual 24, 3), (315, .if_icmp .eq 1107, 3), (318, .iconst 0, 1), (319, .ireturn, 1), (320, .aload_n 1, 1), (321, .aload_n 0, 1), (322, .iload_n 3, 1), (323, .iconst 1, 1), (324, .iadd, 1), (325, .iaload, 1), (326, .aload_n 0, 1), (327, .iload_n 3, 1), (328, .iconst 2, 1), (329, .iadd, 1), (330, .iaload, 1), (331, .aload_n 0, 1), (332, .iload_n 3, 1), (333, .iconst 3, 1), (334, .iadd, 1), (335, .iaload, 1), (336, .aload_n 0, 1), (337, .iload_n 3, 1), (338, .iconst 4, 1), (339, .iadd, 1), (340, .iaload, 1), (341, .aload_n 0, 1), (342, .iload_n 3, 1), (343, .iconst 5, 1), (344, .iadd, 1), (345, .iaload, 1), (346, .invokevirtual 25, 3), (349, .aload_n 2, 1), (350, .aload_n 0, 1), (351, .iload_n 3, 1)]
theorem tbL_2_ok : ∀ q ∈ tbL_2, decode code q.1 = .ok (q.2.1, q.2.2) := by decide +kernel
def tbL_3 : List (Nat × Instr × Nat) := [(352, .iconst 1, 1), (353, .iadd, 1), (354, .iaload, 1), (355, .aload_n 0, 1), (356, .iload_n 3, 1), (357, .iconst 2, 1), (358, .iadd, 1), (359, .iaload, 1), (360, .aload_n 0, 1), (361, .iload_n 3, 1), (362, .iconst 3, 1), (363, .iadd, 1), (364, .iaload, 1), (365, .aload_n 0, 1), (366, .iload_n 3, 1), (367, .iconst 4, 1), (368, .iadd, 1), (369, .iaload, 1), (370, .aload_n 0, 1), (371, .iload_n 3, 1), (372, .iconst 5, 1), (373, .iadd, 1), (374, .iaload, 1), (375, .invokevirtual 29, 3), (378, .if_icmp .eq 1044, 3), (381, .iconst 0, 1), (382, .ireturn, 1), (383, .aload_n 1, 1), (384, .aload_n 0, 1), (385, .iload_n 3, 1), (386, .iconst 1, 1), (387, .iadd, 1), (388, .iaload, 1), (389, .aload_n 0, 1), (390, .iload_n 3, 1), (391, .iconst 2, 1), (392, .iadd, 1), (393, .iaload, 1), (394, .invokevirtual 30, 3), (397, .aload_n 2, 1), (398, .aload_n 0, 1), (399, .iload_n 3, 1), (400, .iconst 1, 1), (401, .iadd, 1), (402, .iaload, 1), (403, .aload_n 0, 1), (404, .iload_n 3, 1), (405, .iconst 2, 1), (406, .iadd, 1), (407, .iaload, 1)]
theorem tbL_3_ok : ∀ q ∈ tbL_3, decode code q.1 = .ok (q.2.1, q.2.2) := by decide +kernel
def tbL_4 : List (Nat × Instr × Nat) := [(408, .invokevirtual 34, 3), (411, .lcmp, 1), (412, .ifCond .eq 1010, 3), (415, .iconst 0, 1), (416, .ireturn, 1), (417, .aload_n 1, 1), (418, .aload_n 0, 1), (419, .iload_n 3, 1), (420, .iconst 1, 1), (421, .iadd, 1), (422, .iaload, 1), (423, .aload_n 0, 1), (424, .iload_n 3, 1), (425, .iconst 2, 1), (426, .iadd, 1), (427, .iaload, 1), (428, .invokevirtual 35, 3), (431, .aload_n 2, 1), (432, .aload_n 0, 1), (433, .iload_n 3, 1), (434, .iconst 1, 1), (435, .iadd, 1), (436, .iaload, 1), (437, .aload_n 0, 1), (438, .iload_n 3, 1), (439, .iconst 2, 1), (440, .iadd, 1), (441, .iaload, 1), (442, .invokevirtual 39, 3), (445, .if_icmp .eq 977, 3), (448, .iconst 0, 1), (449, .ireturn, 1), (450, .aload_n 1, 1), (451, .aload_n 0, 1), (452, .iload_n 3, 1), (453, .iconst 1, 1), (454, .iadd, 1), (455, .iaload, 1), (456, .invokevirtual 40, 3), (459, .aload_n 2, 1), (460, .aload_n 0, 1), (461, .iload_n 3, 1), (462, .iconst 1, 1), (463, .iadd, 1), (464, .iaload, 1), (465, .invokevirtual 44, 3), (468, .if_icmp .eq 954, 3), (471, .iconst 0, 1), (472, .ireturn, 1), (473, .aload_n 1, 1)]
theorem tbL_4_ok : ∀ q ∈ tbL_4, decode code q.1 = .ok (q.2.1, q.2.2) := by decide +kernel
def tbL_5 : List (Nat × Instr × Nat) := [(474, .aload_n 0, 1), (475, .iload_n 3, 1), (476, .iconst 1, 1), (477, .iadd, 1), (478, .iaload, 1), (479, .aload_n 0, 1), (480, .iload_n 3, 1), (481, .iconst 2, 1), (482, .iadd, 1), (483, .iaload, 1), (484, .invokevirtual 45, 3), (487, .aload_n 2, 1), (488, .aload_n 0, 1), (489, .iload_n 3, 1), (490, .iconst 1, 1), (491, .iadd, 1), (492, .iaload, 1), (493, .aload_n 0, 1), (494, .iload_n 3, 1), (495, .iconst 2, 1), (496, .iadd, 1), (497, .iaload, 1), (498, .invokevirtual 48, 3), (501, .if_icmp .eq 921, 3), (504, .iconst 0, 1), (505, .ireturn, 1), (506, .aload_n 1, 1), (507, .aload_n 0, 1), (508, .iload_n 3, 1), (509, .iconst 1, 1), (510, .iadd, 1), (511, .iaload, 1), (512, .aload_n 0, 1), (513, .iload_n 3, 1), (514, .iconst 2, 1), (515, .iadd, 1), (516, .iaload, 1), (517, .aload_n 0, 1), (518, .iload_n 3, 1), (519, .iconst 3, 1), (520, .iadd, 1), (521, .iaload, 1), (522, .aload_n 0, 1), (523, .iload_n 3, 1), (524, .iconst 4, 1), (525, .iadd, 1), (526, .iaload, 1), (527, .invokevirtual 49, 3), (530, .aload_n 2, 1), (531, .aload_n 0, 1)]
theorem tbL_5_ok : ∀ q ∈ tbL_5, decode code q.1 = .ok (q.2.1, q.2.2) := by decide +kernel
def tbL_6 : List (Nat × Instr × Nat) := [(532, .iload_n 3, 1), (533, .iconst 1, 1), (534, .iadd, 1), (535, .iaload, 1), (536, .aload_n 0, 1), (537, .iload_n 3, 1), (538, .iconst 2, 1), (539, .iadd, 1), (540, .iaload, 1), (541, .aload_n 0, 1), (542, .iload_n 3, 1), (543, .iconst 3, 1), (544, .iadd, 1), (545, .iaload, 1), (546, .aload_n 0, 1), (547, .iload_n 3, 1), (548, .iconst 4, 1), (549, .iadd, 1), (550, .iaload, 1), (551, .invokevirtual 53, 3), (554, .if_icmp .eq 868, 3), (557, .iconst 0, 1), (558, .ireturn, 1), (559, .aload_n 1, 1), (560, .aload_n 0, 1), (561, .iload_n 3, 1), (562, .iconst 1, 1), (563, .iadd, 1), (564, .iaload, 1), (565, .aload_n 0, 1), (566, .iload_n 3, 1), (567, .iconst 2, 1), (568, .iadd, 1), (569, .iaload, 1), (570, .invokevirtual 54, 3), (573, .aload_n 2, 1), (574, .aload_n 0, 1), (575, .iload_n 3, 1), (576, .iconst 1, 1), (577, .iadd, 1), (578, .iaload, 1), (579, .aload_n 0, 1), (580, .iload_n 3, 1), (581, .iconst 2, 1), (582, .iadd, 1), (583, .iaload, 1), (584, .invokevirtual 57, 3), (587, .if_icmp .eq 835, 3), (590, .iconst 0, 1), (591, .ireturn, 1)]
theorem tbL_6_ok : ∀ q ∈ tbL_6, decode code q.1 = .ok (q.2.1, q.2.2) := by decide +kernel
def tbL_7 : List (Nat × Instr × Nat) := [(592, .aload_n 1, 1), (593, .aload_n 0, 1), (594, .iload_n 3, 1), (595, .iconst 1, 1), (596, .iadd, 1), (597, .iaload, 1), (598, .aload_n 0, 1), (599, .iload_n 3, 1), (600, .iconst 2, 1), (601, .iadd, 1), (602, .iaload, 1), (603, .invokevirtual 58, 3), (606, .aload_n 2, 1), (607, .aload_n 0, 1), (608, .iload_n 3, 1), (609, .iconst 1, 1), (610, .iadd, 1), (611, .iaload, 1), (612, .aload_n 0, 1), (613, .iload_n 3, 1), (614, .iconst 2, 1), (615, .iadd, 1), (616, .iaload, 1), (617, .invokevirtual 61, 3), (620, .if_icmp .eq 802, 3), (623, .iconst 0, 1), (624, .ireturn, 1), (625, .aload_n 1, 1), (626, .aload_n 0, 1), (627, .iload_n 3, 1), (628, .iconst 1, 1), (629, .iadd, 1), (630, .iaload, 1), (631, .invokevirtual 62, 3), (634, .aload_n 2, 1), (635, .aload_n 0, 1), (636, .iload_n 3, 1), (637, .iconst 1, 1), (638, .iadd, 1), (639, .iaload, 1), (640, .invokevirtual 65, 3), (643, .if_icmp .eq 779, 3), (646, .iconst 0, 1), (647, .ireturn, 1), (648, .aload_n 1, 1), (649, .aload_n 0, 1), (650, .iload_n 3, 1), (651, .iconst 1, 1), (652, .iadd, 1), (653, .iaload, 1)]
theorem tbL_7_ok : ∀ q ∈ tbL_7, decode code q.1 = .ok (q.2.1, q.2.2) := by decide +kernel
def tbL_8 : List (Nat × Instr × Nat) := [(654, .aload_n 0, 1), (655, .iload_n 3, 1), (656, .iconst 2, 1), (657, .iadd, 1), (658, .iaload, 1), (659, .invokevirtual 66, 3), (662, .aload_n 2, 1), (663, .aload_n 0, 1), (664, .iload_n 3, 1), (665, .iconst 1, 1), (666, .iadd, 1), (667, .iaload, 1), (668, .aload_n 0, 1), (669, .iload_n 3, 1), (670, .iconst 2, 1), (671, .iadd, 1), (672, .iaload, 1), (673, .invokevirtual 69, 3), (676, .if_icmp .eq 746, 3), (679, .iconst 0, 1), (680, .ireturn, 1), (681, .aload_n 1, 1), (682, .aload_n 0, 1), (683, .iload_n 3, 1), (684, .iconst 1, 1), (685, .iadd, 1), (686, .iaload, 1), (687, .invokevirtual 70, 3), (690, .aload_n 2, 1), (691, .aload_n 0, 1), (692, .iload_n 3, 1), (693, .iconst 1, 1), (694, .iadd, 1), (695, .iaload, 1), (696, .invokevirtual 73, 3), (699, .if_icmp .eq 723, 3), (702, .iconst 0, 1), (703, .ireturn, 1), (704, .aload_n 1, 1), (705, .invokevirtual 74, 3), (708, .aload_n 2, 1), (709, .invokevirtual 78, 3), (712, .if_icmp .eq 710, 3), (715, .iconst 0, 1), (716, .ireturn, 1), (717, .aload_n 1, 1), (718, .aload_n 0, 1), (719, .iload_n 3, 1), (720, .iconst 1, 1), (721, .iadd, 1)]
theorem tbL_8_ok : ∀ q ∈ tbL_8, decode code q.1 = .ok (q.2.1, q.2.2) := by decide +kernel
def tbL_9 : List (Nat × Instr × Nat) := [(722, .iaload, 1), (723, .invokevirtual 79, 3), (726, .aload_n 2, 1), (727, .aload_n 0, 1), (728, .iload_n 3, 1), (729, .iconst 1, 1), (730, .iadd, 1), (731, .iaload, 1), (732, .invokevirtual 82, 3), (735, .if_icmp .eq 687, 3), (738, .iconst 0, 1), (739, .ireturn, 1), (740, .aload_n 1, 1), (741, .aload_n 0, 1), (742, .iload_n 3, 1), (743, .iconst 1, 1), (744, .iadd, 1), (745, .iaload, 1), (746, .invokevirtual 83, 3), (749, .aload_n 2, 1), (750, .aload_n 0, 1), (751, .iload_n 3, 1), (752, .iconst 1, 1), (753, .iadd, 1), (754, .iaload, 1), (755, .invokevirtual 86, 3), (758, .if_icmp .eq 664, 3), (761, .iconst 0, 1), (762, .ireturn, 1), (763, .aload_n 1, 1), (764, .aload_n 0, 1), (765, .iload_n 3, 1), (766, .iconst 1, 1), (767, .iadd, 1), (768, .iaload, 1), (769, .aload_n 0, 1), (770, .iload_n 3, 1), (771, .iconst 2, 1), (772, .iadd, 1), (773, .iaload, 1), (774, .invokevirtual 87, 3), (777, .aload_n 2, 1), (778, .aload_n 0, 1), (779, .iload_n 3, 1), (780, .iconst 1, 1), (781, .iadd, 1), (782, .iaload, 1), (783, .aload_n 0, 1), (784, .iload_n 3, 1), (785, .iconst 2, 1)]
theorem tbL_9_ok : ∀ q ∈ tbL_9, decode code q.1 = .ok (q.2.1, q.2.2) := by decide +kernel
def tbL_10 : List (Nat × Instr × Nat) := [(786, .iadd, 1), (787, .iaload, 1), (788, .invokevirtual 90, 3), (791, .if_icmp .eq 631, 3), (794, .iconst 0, 1), (795, .ireturn, 1), (796, .aload_n 1, 1), (797, .aload_n 0, 1), (798, .iload_n 3, 1), (799, .iconst 1, 1), (800, .iadd, 1), (801, .iaload, 1), (802, .aload_n 0, 1), (803, .iload_n 3, 1), (804, .iconst 2, 1), (805, .iadd, 1), (806, .iaload, 1), (807, .invokevirtual 91, 3), (810, .aload_n 2, 1), (811, .aload_n 0, 1), (812, .iload_n 3, 1), (813, .iconst 1, 1), (814, .iadd, 1), (815, .iaload, 1), (816, .aload_n 0, 1), (817, .iload_n 3, 1), (818, .iconst 2, 1), (819, .iadd, 1), (820, .iaload, 1), (821, .invokevirtual 94, 3), (824, .if_icmp .eq 598, 3), (827, .iconst 0, 1), (828, .ireturn, 1), (829, .aload_n 1, 1), (830, .invokevirtual 95, 3), (833, .aload_n 2, 1), (834, .invokevirtual 98, 3), (837, .if_icmp .eq 585, 3), (840, .iconst 0, 1), (841, .ireturn, 1), (842, .aload_n 1, 1), (843, .aload_n 0, 1), (844, .iload_n 3, 1), (845, .iconst 1, 1), (846, .iadd, 1), (847, .iaload, 1), (848, .aload_n 0, 1), (849, .iload_n 3, 1), (850, .iconst 2, 1), (851, .iadd, 1)]
theorem tbL_10_ok : ∀ q ∈ tbL_10, decode code q.1 = .ok (q.2.1, q.2.2) := by decide +kernel
def tbL_11 : List (Nat × Instr × Nat) := [(852, .iaload, 1), (853, .invokevirtual 99, 3), (856, .aload_n 2, 1), (857, .aload_n 0, 1), (858, .iload_n 3, 1), (859, .iconst 1, 1), (860, .iadd, 1), (861, .iaload, 1), (862, .aload_n 0, 1), (863, .iload_n 3, 1), (864, .iconst 2, 1), (865, .iadd, 1), (866, .iaload, 1), (867, .invokevirtual 102, 3), (870, .if_icmp .eq 552, 3), (873, .iconst 0, 1), (874, .ireturn, 1), (875, .aload_n 1, 1), (876, .aload_n 0, 1), (877, .iload_n 3, 1), (878, .iconst 1, 1), (879, .iadd, 1), (880, .iaload, 1), (881, .aload_n 0, 1), (882, .iload_n 3, 1), (883, .iconst 2, 1), (884, .iadd, 1), (885, .iaload, 1), (886, .aload_n 0, 1), (887, .iload_n 3, 1), (888, .iconst 3, 1), (889, .iadd, 1), (890, .iaload, 1), (891, .invokevirtual 103, 3), (894, .aload_n 2, 1), (895, .aload_n 0, 1), (896, .iload_n 3, 1), (897, .iconst 1, 1), (898, .iadd, 1), (899, .iaload, 1), (900, .aload_n 0, 1), (901, .iload_n 3, 1), (902, .iconst 2, 1), (903, .iadd, 1), (904, .iaload, 1), (905, .aload_n 0, 1), (906, .iload_n 3, 1), (907, .iconst 3, 1), (908, .iadd, 1), (909, .iaload, 1)]
theorem tbL_11_ok : ∀ q ∈ tbL_11, decode code q.1 = .ok (q.2.1, q.2.2) := by decide +kernel
def tbL_12 : List (Nat × Instr × Nat) := [(910, .invokevirtual 106, 3), (913, .if_icmp .eq 509, 3), (916, .iconst 0, 1), (917, .ireturn, 1), (918, .aload_n 1, 1), (919, .aload_n 0, 1), (920, .iload_n 3, 1), (921, .iconst 1, 1), (922, .iadd, 1), (923, .iaload, 1), (924, .aload_n 0, 1), (925, .iload_n 3, 1), (926, .iconst 2, 1), (927, .iadd, 1), (928, .iaload, 1), (929, .aload_n 0, 1), (930, .iload_n 3, 1), (931, .iconst 3, 1), (932, .iadd, 1), (933, .iaload, 1), (934, .invokevirtual 107, 3), (937, .aload_n 2, 1), (938, .aload_n 0, 1), (939, .iload_n 3, 1), (940, .iconst 1, 1), (941, .iadd, 1), (942, .iaload, 1), (943, .aload_n 0, 1), (944, .iload_n 3, 1), (945, .iconst 2, 1), (946, .iadd, 1), (947, .iaload, 1), (948, .aload_n 0, 1), (949, .iload_n 3, 1), (950, .iconst 3, 1), (951, .iadd, 1), (952, .iaload, 1), (953, .invokevirtual 110, 3), (956, .if_icmp .eq 466, 3), (959, .iconst 0, 1), (960, .ireturn, 1), (961, .aload_n 1, 1), (962, .aload_n 0, 1), (963, .iload_n 3, 1), (964, .iconst 1, 1), (965, .iadd, 1), (966, .iaload, 1), (967, .aload_n 0, 1), (968, .iload_n 3, 1), (969, .iconst 2, 1)]
theorem tbL_12_ok : ∀ q ∈ tbL_12, decode code q.1 = .ok (q.2.1, q.2.2) := by decide +kernel
def tbL_13 : List (Nat × Instr × Nat) := [(970, .iadd, 1), (971, .iaload, 1), (972, .invokevirtual 111, 3), (975, .aload_n 2, 1), (976, .aload_n 0, 1), (977, .iload_n 3, 1), (978, .iconst 1, 1), (979, .iadd, 1), (980, .iaload, 1), (981, .aload_n 0, 1), (982, .iload_n 3, 1), (983, .iconst 2, 1), (984, .iadd, 1), (985, .iaload, 1), (986, .invokevirtual 114, 3), (989, .if_icmp .eq 433, 3), (992, .iconst 0, 1), (993, .ireturn, 1), (994, .aload_n 1, 1), (995, .aload_n 0, 1), (996, .iload_n 3, 1), (997, .iconst 1, 1), (998, .iadd, 1), (999, .iaload, 1), (1000, .aload_n 0, 1), (1001, .iload_n 3, 1), (1002, .iconst 2, 1), (1003, .iadd, 1), (1004, .iaload, 1), (1005, .invokevirtual 115, 3), (1008, .aload_n 2, 1), (1009, .aload_n 0, 1), (1010, .iload_n 3, 1), (1011, .iconst 1, 1), (1012, .iadd, 1), (1013, .iaload, 1), (1014, .aload_n 0, 1), (1015, .iload_n 3, 1), (1016, .iconst 2, 1), (1017, .iadd, 1), (1018, .iaload, 1), (1019, .invokevirtual 118, 3), (1022, .if_icmp .eq 400, 3), (1025, .iconst 0, 1), (1026, .ireturn, 1), (1027, .aload_n 1, 1), (1028, .invokevirtual 119, 3), (1031, .aload_n 2, 1), (1032, .invokevirtual 122, 3), (1035, .if_icmp .eq 387, 3)]
theorem tbL_13_ok : ∀ q ∈ tbL_13, decode code q.1 = .ok (q.2.1, q.2.2) := by decide +kernel
def tbL_14 : List (Nat × Instr × Nat) := [(1038, .iconst 0, 1), (1039, .ireturn, 1), (1040, .aload_n 1, 1), (1041, .aload_n 0, 1), (1042, .iload_n 3, 1), (1043, .iconst 1, 1), (1044, .iadd, 1), (1045, .iaload, 1), (1046, .aload_n 0, 1), (1047, .iload_n 3, 1), (1048, .iconst 2, 1), (1049, .iadd, 1), (1050, .iaload, 1), (1051, .invokevirtual 123, 3), (1054, .aload_n 2, 1), (1055, .aload_n 0, 1), (1056, .iload_n 3, 1), (1057, .iconst 1, 1), (1058, .iadd, 1), (1059, .iaload, 1), (1060, .aload_n 0, 1), (1061, .iload_n 3, 1), (1062, .iconst 2, 1), (1063, .iadd, 1), (1064, .iaload, 1), (1065, .invokevirtual 126, 3), (1068, .if_icmp .eq 354, 3), (1071, .iconst 0, 1), (1072, .ireturn, 1), (1073, .aload_n 1, 1), (1074, .aload_n 0, 1), (1075, .iload_n 3, 1), (1076, .iconst 1, 1), (1077, .iadd, 1), (1078, .iaload, 1), (1079, .invokevirtual 127, 3), (1082, .aload_n 2, 1), (1083, .aload_n 0, 1), (1084, .iload_n 3, 1), (1085, .iconst 1, 1), (1086, .iadd, 1), (1087, .iaload, 1), (1088, .invokevirtual 130, 3), (1091, .if_icmp .eq 331, 3), (1094, .iconst 0, 1), (1095, .ireturn, 1), (1096, .aload_n 1, 1), (1097, .aload_n 0, 1), (1098, .iload_n 3, 1), (1099, .iconst 1, 1)]
theorem tbL_14_ok : ∀ q ∈ tbL_14, decode code q.1 = .ok (q.2.1, q.2.2) := by decide +kernel
def tbL_15 : List (Nat × Instr × Nat) := [(1100, .iadd, 1), (1101, .iaload, 1), (1102, .aload_n 0, 1), (1103, .iload_n 3, 1), (1104, .iconst 2, 1), (1105, .iadd, 1), (1106, .iaload, 1), (1107, .invokevirtual 131, 3), (1110, .aload_n 2, 1), (1111, .aload_n 0, 1), (1112, .iload_n 3, 1), (1113, .iconst 1, 1), (1114, .iadd, 1), (1115, .iaload, 1), (1116, .aload_n 0, 1), (1117, .iload_n 3, 1), (1118, .iconst 2, 1), (1119, .iadd, 1), (1120, .iaload, 1), (1121, .invokevirtual 134, 3), (1124, .if_icmp .eq 298, 3), (1127, .iconst 0, 1), (1128, .ireturn, 1), (1129, .aload_n 1, 1), (1130, .aload_n 0, 1), (1131, .iload_n 3, 1), (1132, .iconst 1, 1), (1133, .iadd, 1), (1134, .iaload, 1), (1135, .aload_n 0, 1), (1136, .iload_n 3, 1), (1137, .iconst 2, 1), (1138, .iadd, 1), (1139, .iaload, 1), (1140, .aload_n 0, 1), (1141, .iload_n 3, 1), (1142, .iconst 3, 1), (1143, .iadd, 1), (1144, .iaload, 1), (1145, .invokevirtual 135, 3), (1148, .aload_n 2, 1), (1149, .aload_n 0, 1), (1150, .iload_n 3, 1), (1151, .iconst 1, 1), (1152, .iadd, 1), (1153, .iaload, 1), (1154, .aload_n 0, 1), (1155, .iload_n 3, 1), (1156, .iconst 2, 1), (1157, .iadd, 1)]
theorem tbL_15_ok : ∀ q ∈ tbL_15, decode code q.1 = .ok (q.2.1, q.2.2) := by decide +kernel
def tbL_16 : List (Nat × Instr × Nat) := [(1158, .iaload, 1), (1159, .aload_n 0, 1), (1160, .iload_n 3, 1), (1161, .iconst 3, 1), (1162, .iadd, 1), (1163, .iaload, 1), (1164, .invokevirtual 138, 3), (1167, .if_icmp .eq 255, 3), (1170, .iconst 0, 1), (1171, .ireturn, 1), (1172, .aload_n 1, 1), (1173, .aload_n 0, 1), (1174, .iload_n 3, 1), (1175, .iconst 1, 1), (1176, .iadd, 1), (1177, .iaload, 1), (1178, .aload_n 0, 1), (1179, .iload_n 3, 1), (1180, .iconst 2, 1), (1181, .iadd, 1), (1182, .iaload, 1), (1183, .invokevirtual 139, 3), (1186, .aload_n 2, 1), (1187, .aload_n 0, 1), (1188, .iload_n 3, 1), (1189, .iconst 1, 1), (1190, .iadd, 1), (1191, .iaload, 1), (1192, .aload_n 0, 1), (1193, .iload_n 3, 1), (1194, .iconst 2, 1), (1195, .iadd, 1), (1196, .iaload, 1), (1197, .invokevirtual 142, 3), (1200, .if_icmp .eq 222, 3), (1203, .iconst 0, 1), (1204, .ireturn, 1), (1205, .aload_n 1, 1), (1206, .aload_n 0, 1), (1207, .iload_n 3, 1), (1208, .iconst 1, 1), (1209, .iadd, 1), (1210, .iaload, 1), (1211, .aload_n 0, 1), (1212, .iload_n 3, 1), (1213, .iconst 2, 1), (1214, .iadd, 1), (1215, .iaload, 1), (1216, .invokevirtual 143, 3), (1219, .aload_n 2, 1)]
theorem tbL_16_ok : ∀ q ∈ tbL_16, decode code q.1 = .ok (q.2.1, q.2.2) := by decide +kernel
def tbL_17 : List (Nat × Instr × Nat) := [(1220, .aload_n 0, 1), (1221, .iload_n 3, 1), (1222, .iconst 1, 1), (1223, .iadd, 1), (1224, .iaload, 1), (1225, .aload_n 0, 1), (1226, .iload_n 3, 1), (1227, .iconst 2, 1), (1228, .iadd, 1), (1229, .iaload, 1), (1230, .invokevirtual 146, 3), (1233, .if_icmp .eq 189, 3), (1236, .iconst 0, 1), (1237, .ireturn, 1), (1238, .aload_n 1, 1), (1239, .aload_n 0, 1), (1240, .iload_n 3, 1), (1241, .iconst 1, 1), (1242, .iadd, 1), (1243, .iaload, 1), (1244, .invokevirtual 147, 3), (1247, .aload_n 2, 1), (1248, .aload_n 0, 1), (1249, .iload_n 3, 1), (1250, .iconst 1, 1), (1251, .iadd, 1), (1252, .iaload, 1), (1253, .invokevirtual 150, 3), (1256, .if_icmp .eq 166, 3), (1259, .iconst 0, 1), (1260, .ireturn, 1), (1261, .aload_n 1, 1), (1262, .aload_n 0, 1), (1263, .iload_n 3, 1), (1264, .iconst 1, 1), (1265, .iadd, 1), (1266, .iaload, 1), (1267, .invokevirtual 151, 3), (1270, .aload_n 2, 1), (1271, .aload_n 0, 1), (1272, .iload_n 3, 1), (1273, .iconst 1, 1), (1274, .iadd, 1), (1275, .iaload, 1), (1276, .invokevirtual 154, 3), (1279, .if_icmp .eq 143, 3), (1282, .iconst 0, 1), (1283, .ireturn, 1), (1284, .aload_n 1, 1), (1285, .aload_n 0, 1)]
theorem tbL_17_ok : ∀ q ∈ tbL_17, decode code q.1 = .ok (q.2.1, q.2.2) := by decide +kernel
def tbL_18 : List (Nat × Instr × Nat) := [(1286, .iload_n 3, 1), (1287, .iconst 1, 1), (1288, .iadd, 1), (1289, .iaload, 1), (1290, .invokevirtual 155, 3), (1293, .aload_n 2, 1), (1294, .aload_n 0, 1), (1295, .iload_n 3, 1), (1296, .iconst 1, 1), (1297, .iadd, 1), (1298, .iaload, 1), (1299, .invokevirtual 158, 3), (1302, .if_icmp .eq 120, 3), (1305, .iconst 0, 1), (1306, .ireturn, 1), (1307, .aload_n 1, 1), (1308, .aload_n 0, 1), (1309, .iload_n 3, 1), (1310, .iconst 1, 1), (1311, .iadd, 1), (1312, .iaload, 1), (1313, .aload_n 0, 1), (1314, .iload_n 3, 1), (1315, .iconst 2, 1), (1316, .iadd, 1), (1317, .iaload, 1), (1318, .aload_n 0, 1), (1319, .iload_n 3, 1), (1320, .iconst 3, 1), (1321, .iadd, 1), (1322, .iaload, 1), (1323, .invokevirtual 159, 3), (1326, .aload_n 2, 1), (1327, .aload_n 0, 1), (1328, .iload_n 3, 1), (1329, .iconst 1, 1), (1330, .iadd, 1), (1331, .iaload, 1), (1332, .aload_n 0, 1), (1333, .iload_n 3, 1), (1334, .iconst 2, 1), (1335, .iadd, 1), (1336, .iaload, 1), (1337, .aload_n 0, 1), (1338, .iload_n 3, 1), (1339, .iconst 3, 1), (1340, .iadd, 1), (1341, .iaload, 1), (1342, .invokevirtual 162, 3), (1345, .if_icmp .eq 77, 3)]
theorem tbL_18_ok : ∀ q ∈ tbL_18, decode code q.1 = .ok (q.2.1, q.2.2) := by decide +kernel
def tbL_19 : List (Nat × Instr × Nat) := [(1348, .iconst 0, 1), (1349, .ireturn, 1), (1350, .aload_n 1, 1), (1351, .aload_n 0, 1), (1352, .iload_n 3, 1), (1353, .iconst 1, 1), (1354, .iadd, 1), (1355, .iaload, 1), (1356, .invokevirtual 163, 3), (1359, .aload_n 2, 1), (1360, .aload_n 0, 1), (1361, .iload_n 3, 1), (1362, .iconst 1, 1), (1363, .iadd, 1), (1364, .iaload, 1), (1365, .invokevirtual 166, 3), (1368, .if_icmp .eq 54, 3), (1371, .iconst 0, 1), (1372, .ireturn, 1), (1373, .aload_n 1, 1), (1374, .invokevirtual 167, 3), (1377, .aload_n 2, 1), (1378, .invokevirtual 170, 3), (1381, .if_icmp .eq 41, 3), (1384, .iconst 0, 1), (1385, .ireturn, 1), (1386, .aload_n 1, 1), (1387, .invokevirtual 171, 3), (1390, .aload_n 2, 1), (1391, .invokevirtual 174, 3), (1394, .if_icmp .eq 28, 3), (1397, .iconst 0, 1), (1398, .ireturn, 1), (1399, .aload_n 1, 1), (1400, .aload_n 0, 1), (1401, .iload_n 3, 1), (1402, .iconst 1, 1), (1403, .iadd, 1), (1404, .iaload, 1), (1405, .invokevirtual 175, 3), (1408, .aload_n 2, 1), (1409, .aload_n 0, 1), (1410, .iload_n 3, 1), (1411, .iconst 1, 1), (1412, .iadd, 1), (1413, .iaload, 1), (1414, .invokevirtual 178, 3), (1417, .if_icmp .eq 5, 3), (1420, .iconst 0, 1), (1421, .ireturn, 1)]
theorem tbL_19_ok : ∀ q ∈ tbL_19, decode code q.1 = .ok (q.2.1, q.2.2) := by decide +kernel
def tbL_20 : List (Nat × Instr × Nat) := [(1422, .iinc 3 6, 3), (1425, .goto (-1407), 3), (1428, .iconst 1, 1), (1429, .ireturn, 1)]
theorem tbL_20_ok : ∀ q ∈ tbL_20, decode code q.1 = .ok (q.2.1, q.2.2) := by decide +kernel
theorem wCX6_status : zCW mX6_status 1 := ⟨zin (i := 1) (by decide +kernel) rfl, zin (i := 806) (by decide +kernel) rfl, by decide +kernel, by decide +kernel, by decide +kernel⟩
theorem sCL_175 : zCV RL 175 mX6_status 1 := ⟨zin (i := 803) (by decide +kernel) rfl, zin (i := 804) (by decide +kernel) rfl, zin (i := 805) (by decide +kernel) rfl, wCX6_status⟩
theorem wCX7_status : zCW mX7_status 1 := ⟨zin (i := 8) (by decide +kernel) rfl, zin (i := 1260) (by decide +kernel) rfl, by decide +kernel, by decide +kernel, by decide +kernel⟩
theorem sCL_178 : zCV RL 178 mX7_status 1 := ⟨zin (i := 1257) (by decide +kernel) rfl, zin (i := 1258) (by decide +kernel) rfl, zin (i := 1259) (by decide +kernel) rfl, wCX7_status⟩
theorem wCX6_restore : zCW mX6_restore 0 := ⟨zin (i := 1) (by decide +kernel) rfl, zin (i := 802) (by decide +kernel) rfl, by decide +kernel, by decide +kernel, by decide +kernel⟩
theorem sCL_171 : zCV RL 171 mX6_restore 0 := ⟨zin (i := 799) (by decide +kernel) rfl, zin (i := 800) (by decide +kernel) rfl, zin (i := 801) (by decide +kernel) rfl, wCX6_restore⟩
theorem wCX7_restore : zCW mX7_restore 0 := ⟨zin (i := 8) (by decide +kernel) rfl, zin (i := 1256) (by decide +kernel) rfl, by decide +kernel, by decide +kernel, by decide +kernel⟩
theorem sCL_174 : zCV RL 174 mX7_restore 0 := ⟨zin (i := 1253) (by decide +kernel) rfl, zin (i := 1254) (by decide +kernel) rfl, zin (i := 1255) (by decide +kernel) rfl, wCX7_restore⟩
theorem wCX6_image : zCW mX6_image 0 := ⟨zin (i := 1) (by decide +kernel) rfl, zin (i := 798) (by decide +kernel) rfl, by decide +kernel, by decide +kernel, by decide +kernel⟩
theorem sCL_167 : zCV RL 167 mX6_image 0 := ⟨zin (i := 795) (by decide +kernel) rfl, zin (i := 796) (by decide +kernel) rfl, zin (i := 797) (by decide +kernel) rfl, wCX6_image⟩
theorem wCX7_image : zCW mX7_image 0 := ⟨zin (i := 8) (by decide +kernel) rfl, zin (i := 1252) (by decide +kernel) rfl, by decide +kernel, by decide +kernel, by decide +kernel⟩
theorem sCL_170 : zCV RL 170 mX7_image 0 := ⟨zin (i := 1249) (by decide +kernel) rfl, zin (i := 1250) (by decide +kernel) rfl, zin (i := 1251) (by decide +kernel) rfl, wCX7_image⟩
theorem wCX6_trace : zCW mX6_trace 1 := ⟨zin (i := 1) (by decide +kernel) rfl, zin (i := 789) (by decide +kernel) rfl, by decide +kernel, by decide +kernel, by decide +kernel⟩
theorem sCL_163 : zCV RL 163 mX6_trace 1 := ⟨zin (i := 786) (by decide +kernel) rfl, zin (i := 787) (by decide +kernel) rfl, zin (i := 788) (by decide +kernel) rfl, wCX6_trace⟩
theorem wCX7_trace : zCW mX7_trace 1 := ⟨zin (i := 8) (by decide +kernel) rfl, zin (i := 1248) (by decide +kernel) rfl, by decide +kernel, by decide +kernel, by decide +kernel⟩
theorem sCL_166 : zCV RL 166 mX7_trace 1 := ⟨zin (i := 1245) (by decide +kernel) rfl, zin (i := 1246) (by decide +kernel) rfl, zin (i := 1247) (by decide +kernel) rfl, wCX7_trace⟩
theorem wCX6_act : zCW mX6_act 3 := ⟨zin (i := 1) (by decide +kernel) rfl, zin (i := 762) (by decide +kernel) rfl, by decide +kernel, by decide +kernel, by decide +kernel⟩
theorem sCL_159 : zCV RL 159 mX6_act 3 := ⟨zin (i := 759) (by decide +kernel) rfl, zin (i := 760) (by decide +kernel) rfl, zin (i := 761) (by decide +kernel) rfl, wCX6_act⟩
theorem wCX7_act : zCW mX7_act 3 := ⟨zin (i := 8) (by decide +kernel) rfl, zin (i := 1228) (by decide +kernel) rfl, by decide +kernel, by decide +kernel, by decide +kernel⟩
theorem sCL_162 : zCV RL 162 mX7_act 3 := ⟨zin (i := 1225) (by decide +kernel) rfl, zin (i := 1226) (by decide +kernel) rfl, zin (i := 1227) (by decide +kernel) rfl, wCX7_act⟩
theorem wCX6_seed : zCW mX6_seed 1 := ⟨zin (i := 1) (by decide +kernel) rfl, zin (i := 758) (by decide +kernel) rfl, by decide +kernel, by decide +kernel, by decide +kernel⟩
theorem sCL_155 : zCV RL 155 mX6_seed 1 := ⟨zin (i := 755) (by decide +kernel) rfl, zin (i := 756) (by decide +kernel) rfl, zin (i := 757) (by decide +kernel) rfl, wCX6_seed⟩
theorem wCX7_seed : zCW mX7_seed 1 := ⟨zin (i := 8) (by decide +kernel) rfl, zin (i := 1224) (by decide +kernel) rfl, by decide +kernel, by decide +kernel, by decide +kernel⟩
theorem sCL_158 : zCV RL 158 mX7_seed 1 := ⟨zin (i := 1221) (by decide +kernel) rfl, zin (i := 1222) (by decide +kernel) rfl, zin (i := 1223) (by decide +kernel) rfl, wCX7_seed⟩
theorem wCX6_days : zCW mX6_days 1 := ⟨zin (i := 1) (by decide +kernel) rfl, zin (i := 745) (by decide +kernel) rfl, by decide +kernel, by decide +kernel, by decide +kernel⟩
theorem sCL_151 : zCV RL 151 mX6_days 1 := ⟨zin (i := 742) (by decide +kernel) rfl, zin (i := 743) (by decide +kernel) rfl, zin (i := 744) (by decide +kernel) rfl, wCX6_days⟩
theorem wCX7_days : zCW mX7_days 1 := ⟨zin (i := 8) (by decide +kernel) rfl, zin (i := 1215) (by decide +kernel) rfl, by decide +kernel, by decide +kernel, by decide +kernel⟩
theorem sCL_154 : zCV RL 154 mX7_days 1 := ⟨zin (i := 1212) (by decide +kernel) rfl, zin (i := 1213) (by decide +kernel) rfl, zin (i := 1214) (by decide +kernel) rfl, wCX7_days⟩
theorem wCX6_steps : zCW mX6_steps 1 := ⟨zin (i := 1) (by decide +kernel) rfl, zin (i := 741) (by decide +kernel) rfl, by decide +kernel, by decide +kernel, by decide +kernel⟩
theorem sCL_147 : zCV RL 147 mX6_steps 1 := ⟨zin (i := 738) (by decide +kernel) rfl, zin (i := 739) (by decide +kernel) rfl, zin (i := 740) (by decide +kernel) rfl, wCX6_steps⟩
theorem wCX7_steps : zCW mX7_steps 1 := ⟨zin (i := 8) (by decide +kernel) rfl, zin (i := 1211) (by decide +kernel) rfl, by decide +kernel, by decide +kernel, by decide +kernel⟩
theorem sCL_150 : zCV RL 150 mX7_steps 1 := ⟨zin (i := 1208) (by decide +kernel) rfl, zin (i := 1209) (by decide +kernel) rfl, zin (i := 1210) (by decide +kernel) rfl, wCX7_steps⟩
theorem wCX6_say : zCW mX6_say 2 := ⟨zin (i := 1) (by decide +kernel) rfl, zin (i := 736) (by decide +kernel) rfl, by decide +kernel, by decide +kernel, by decide +kernel⟩
theorem sCL_143 : zCV RL 143 mX6_say 2 := ⟨zin (i := 733) (by decide +kernel) rfl, zin (i := 734) (by decide +kernel) rfl, zin (i := 735) (by decide +kernel) rfl, wCX6_say⟩
theorem wCX7_say : zCW mX7_say 2 := ⟨zin (i := 8) (by decide +kernel) rfl, zin (i := 1207) (by decide +kernel) rfl, by decide +kernel, by decide +kernel, by decide +kernel⟩
theorem sCL_146 : zCV RL 146 mX7_say 2 := ⟨zin (i := 1204) (by decide +kernel) rfl, zin (i := 1205) (by decide +kernel) rfl, zin (i := 1206) (by decide +kernel) rfl, wCX7_say⟩
theorem wCX6_done : zCW mX6_done 2 := ⟨zin (i := 1) (by decide +kernel) rfl, zin (i := 732) (by decide +kernel) rfl, by decide +kernel, by decide +kernel, by decide +kernel⟩
theorem sCL_139 : zCV RL 139 mX6_done 2 := ⟨zin (i := 729) (by decide +kernel) rfl, zin (i := 730) (by decide +kernel) rfl, zin (i := 731) (by decide +kernel) rfl, wCX6_done⟩
theorem wCX7_done : zCW mX7_done 2 := ⟨zin (i := 8) (by decide +kernel) rfl, zin (i := 1203) (by decide +kernel) rfl, by decide +kernel, by decide +kernel, by decide +kernel⟩
theorem sCL_142 : zCV RL 142 mX7_done 2 := ⟨zin (i := 1200) (by decide +kernel) rfl, zin (i := 1201) (by decide +kernel) rfl, zin (i := 1202) (by decide +kernel) rfl, wCX7_done⟩
theorem wCX6_behind : zCW mX6_behind 3 := ⟨zin (i := 1) (by decide +kernel) rfl, zin (i := 711) (by decide +kernel) rfl, by decide +kernel, by decide +kernel, by decide +kernel⟩
theorem sCL_135 : zCV RL 135 mX6_behind 3 := ⟨zin (i := 708) (by decide +kernel) rfl, zin (i := 709) (by decide +kernel) rfl, zin (i := 710) (by decide +kernel) rfl, wCX6_behind⟩
theorem wCX7_behind : zCW mX7_behind 3 := ⟨zin (i := 8) (by decide +kernel) rfl, zin (i := 1199) (by decide +kernel) rfl, by decide +kernel, by decide +kernel, by decide +kernel⟩
theorem sCL_138 : zCV RL 138 mX7_behind 3 := ⟨zin (i := 1196) (by decide +kernel) rfl, zin (i := 1197) (by decide +kernel) rfl, zin (i := 1198) (by decide +kernel) rfl, wCX7_behind⟩
theorem wCX6_judge : zCW mX6_judge 2 := ⟨zin (i := 1) (by decide +kernel) rfl, zin (i := 699) (by decide +kernel) rfl, by decide +kernel, by decide +kernel, by decide +kernel⟩
theorem sCL_131 : zCV RL 131 mX6_judge 2 := ⟨zin (i := 696) (by decide +kernel) rfl, zin (i := 697) (by decide +kernel) rfl, zin (i := 698) (by decide +kernel) rfl, wCX6_judge⟩
theorem wCX7_judge : zCW mX7_judge 2 := ⟨zin (i := 8) (by decide +kernel) rfl, zin (i := 1183) (by decide +kernel) rfl, by decide +kernel, by decide +kernel, by decide +kernel⟩
theorem sCL_134 : zCV RL 134 mX7_judge 2 := ⟨zin (i := 1180) (by decide +kernel) rfl, zin (i := 1181) (by decide +kernel) rfl, zin (i := 1182) (by decide +kernel) rfl, wCX7_judge⟩
theorem wCX6_praise : zCW mX6_praise 1 := ⟨zin (i := 1) (by decide +kernel) rfl, zin (i := 695) (by decide +kernel) rfl, by decide +kernel, by decide +kernel, by decide +kernel⟩
theorem sCL_127 : zCV RL 127 mX6_praise 1 := ⟨zin (i := 692) (by decide +kernel) rfl, zin (i := 693) (by decide +kernel) rfl, zin (i := 694) (by decide +kernel) rfl, wCX6_praise⟩
theorem wCX7_praise : zCW mX7_praise 1 := ⟨zin (i := 8) (by decide +kernel) rfl, zin (i := 1179) (by decide +kernel) rfl, by decide +kernel, by decide +kernel, by decide +kernel⟩
theorem sCL_130 : zCV RL 130 mX7_praise 1 := ⟨zin (i := 1176) (by decide +kernel) rfl, zin (i := 1177) (by decide +kernel) rfl, zin (i := 1178) (by decide +kernel) rfl, wCX7_praise⟩
theorem wCX6_weights : zCW mX6_weights 2 := ⟨zin (i := 1) (by decide +kernel) rfl, zin (i := 687) (by decide +kernel) rfl, by decide +kernel, by decide +kernel, by decide +kernel⟩
theorem sCL_123 : zCV RL 123 mX6_weights 2 := ⟨zin (i := 684) (by decide +kernel) rfl, zin (i := 685) (by decide +kernel) rfl, zin (i := 686) (by decide +kernel) rfl, wCX6_weights⟩
theorem wCX7_weights : zCW mX7_weights 2 := ⟨zin (i := 8) (by decide +kernel) rfl, zin (i := 1171) (by decide +kernel) rfl, by decide +kernel, by decide +kernel, by decide +kernel⟩
theorem sCL_126 : zCV RL 126 mX7_weights 2 := ⟨zin (i := 1168) (by decide +kernel) rfl, zin (i := 1169) (by decide +kernel) rfl, zin (i := 1170) (by decide +kernel) rfl, wCX7_weights⟩
theorem wCX6_without : zCW mX6_without 0 := ⟨zin (i := 1) (by decide +kernel) rfl, zin (i := 683) (by decide +kernel) rfl, by decide +kernel, by decide +kernel, by decide +kernel⟩
theorem sCL_119 : zCV RL 119 mX6_without 0 := ⟨zin (i := 680) (by decide +kernel) rfl, zin (i := 681) (by decide +kernel) rfl, zin (i := 682) (by decide +kernel) rfl, wCX6_without⟩
theorem wCX7_without : zCW mX7_without 0 := ⟨zin (i := 8) (by decide +kernel) rfl, zin (i := 1163) (by decide +kernel) rfl, by decide +kernel, by decide +kernel, by decide +kernel⟩
theorem sCL_122 : zCV RL 122 mX7_without 0 := ⟨zin (i := 1160) (by decide +kernel) rfl, zin (i := 1161) (by decide +kernel) rfl, zin (i := 1162) (by decide +kernel) rfl, wCX7_without⟩
theorem wCX6_borne : zCW mX6_borne 2 := ⟨zin (i := 1) (by decide +kernel) rfl, zin (i := 674) (by decide +kernel) rfl, by decide +kernel, by decide +kernel, by decide +kernel⟩
theorem sCL_115 : zCV RL 115 mX6_borne 2 := ⟨zin (i := 671) (by decide +kernel) rfl, zin (i := 672) (by decide +kernel) rfl, zin (i := 673) (by decide +kernel) rfl, wCX6_borne⟩
theorem wCX7_borne : zCW mX7_borne 2 := ⟨zin (i := 8) (by decide +kernel) rfl, zin (i := 1155) (by decide +kernel) rfl, by decide +kernel, by decide +kernel, by decide +kernel⟩
theorem sCL_118 : zCV RL 118 mX7_borne 2 := ⟨zin (i := 1152) (by decide +kernel) rfl, zin (i := 1153) (by decide +kernel) rfl, zin (i := 1154) (by decide +kernel) rfl, wCX7_borne⟩
theorem wCX6_clash : zCW mX6_clash 2 := ⟨zin (i := 1) (by decide +kernel) rfl, zin (i := 670) (by decide +kernel) rfl, by decide +kernel, by decide +kernel, by decide +kernel⟩
theorem sCL_111 : zCV RL 111 mX6_clash 2 := ⟨zin (i := 667) (by decide +kernel) rfl, zin (i := 668) (by decide +kernel) rfl, zin (i := 669) (by decide +kernel) rfl, wCX6_clash⟩
theorem wCX7_clash : zCW mX7_clash 2 := ⟨zin (i := 8) (by decide +kernel) rfl, zin (i := 1151) (by decide +kernel) rfl, by decide +kernel, by decide +kernel, by decide +kernel⟩
theorem sCL_114 : zCV RL 114 mX7_clash 2 := ⟨zin (i := 1148) (by decide +kernel) rfl, zin (i := 1149) (by decide +kernel) rfl, zin (i := 1150) (by decide +kernel) rfl, wCX7_clash⟩
theorem wCX6_cases : zCW mX6_cases 3 := ⟨zin (i := 1) (by decide +kernel) rfl, zin (i := 650) (by decide +kernel) rfl, by decide +kernel, by decide +kernel, by decide +kernel⟩
theorem sCL_107 : zCV RL 107 mX6_cases 3 := ⟨zin (i := 647) (by decide +kernel) rfl, zin (i := 648) (by decide +kernel) rfl, zin (i := 649) (by decide +kernel) rfl, wCX6_cases⟩
theorem wCX7_cases : zCW mX7_cases 3 := ⟨zin (i := 8) (by decide +kernel) rfl, zin (i := 1135) (by decide +kernel) rfl, by decide +kernel, by decide +kernel, by decide +kernel⟩
theorem sCL_110 : zCV RL 110 mX7_cases 3 := ⟨zin (i := 1132) (by decide +kernel) rfl, zin (i := 1133) (by decide +kernel) rfl, zin (i := 1134) (by decide +kernel) rfl, wCX7_cases⟩
theorem wCX6_relay : zCW mX6_relay 3 := ⟨zin (i := 1) (by decide +kernel) rfl, zin (i := 624) (by decide +kernel) rfl, by decide +kernel, by decide +kernel, by decide +kernel⟩
theorem sCL_103 : zCV RL 103 mX6_relay 3 := ⟨zin (i := 621) (by decide +kernel) rfl, zin (i := 622) (by decide +kernel) rfl, zin (i := 623) (by decide +kernel) rfl, wCX6_relay⟩
theorem wCX7_relay : zCW mX7_relay 3 := ⟨zin (i := 8) (by decide +kernel) rfl, zin (i := 1123) (by decide +kernel) rfl, by decide +kernel, by decide +kernel, by decide +kernel⟩
theorem sCL_106 : zCV RL 106 mX7_relay 3 := ⟨zin (i := 1120) (by decide +kernel) rfl, zin (i := 1121) (by decide +kernel) rfl, zin (i := 1122) (by decide +kernel) rfl, wCX7_relay⟩
theorem wCX6_alone : zCW mX6_alone 2 := ⟨zin (i := 1) (by decide +kernel) rfl, zin (i := 614) (by decide +kernel) rfl, by decide +kernel, by decide +kernel, by decide +kernel⟩
theorem sCL_99 : zCV RL 99 mX6_alone 2 := ⟨zin (i := 611) (by decide +kernel) rfl, zin (i := 612) (by decide +kernel) rfl, zin (i := 613) (by decide +kernel) rfl, wCX6_alone⟩
theorem wCX7_alone : zCW mX7_alone 2 := ⟨zin (i := 8) (by decide +kernel) rfl, zin (i := 1115) (by decide +kernel) rfl, by decide +kernel, by decide +kernel, by decide +kernel⟩
theorem sCL_102 : zCV RL 102 mX7_alone 2 := ⟨zin (i := 1112) (by decide +kernel) rfl, zin (i := 1113) (by decide +kernel) rfl, zin (i := 1114) (by decide +kernel) rfl, wCX7_alone⟩
theorem wCX6_over : zCW mX6_over 0 := ⟨zin (i := 1) (by decide +kernel) rfl, zin (i := 606) (by decide +kernel) rfl, by decide +kernel, by decide +kernel, by decide +kernel⟩
theorem sCL_95 : zCV RL 95 mX6_over 0 := ⟨zin (i := 603) (by decide +kernel) rfl, zin (i := 604) (by decide +kernel) rfl, zin (i := 605) (by decide +kernel) rfl, wCX6_over⟩
theorem wCX7_over : zCW mX7_over 0 := ⟨zin (i := 8) (by decide +kernel) rfl, zin (i := 1107) (by decide +kernel) rfl, by decide +kernel, by decide +kernel, by decide +kernel⟩
theorem sCL_98 : zCV RL 98 mX7_over 0 := ⟨zin (i := 1104) (by decide +kernel) rfl, zin (i := 1105) (by decide +kernel) rfl, zin (i := 1106) (by decide +kernel) rfl, wCX7_over⟩
theorem wCX6_tired : zCW mX6_tired 2 := ⟨zin (i := 1) (by decide +kernel) rfl, zin (i := 602) (by decide +kernel) rfl, by decide +kernel, by decide +kernel, by decide +kernel⟩
theorem sCL_91 : zCV RL 91 mX6_tired 2 := ⟨zin (i := 599) (by decide +kernel) rfl, zin (i := 600) (by decide +kernel) rfl, zin (i := 601) (by decide +kernel) rfl, wCX6_tired⟩
theorem wCX7_tired : zCW mX7_tired 2 := ⟨zin (i := 8) (by decide +kernel) rfl, zin (i := 1103) (by decide +kernel) rfl, by decide +kernel, by decide +kernel, by decide +kernel⟩
theorem sCL_94 : zCV RL 94 mX7_tired 2 := ⟨zin (i := 1100) (by decide +kernel) rfl, zin (i := 1101) (by decide +kernel) rfl, zin (i := 1102) (by decide +kernel) rfl, wCX7_tired⟩
theorem wCX6_ahead : zCW mX6_ahead 2 := ⟨zin (i := 1) (by decide +kernel) rfl, zin (i := 558) (by decide +kernel) rfl, by decide +kernel, by decide +kernel, by decide +kernel⟩
theorem sCL_87 : zCV RL 87 mX6_ahead 2 := ⟨zin (i := 555) (by decide +kernel) rfl, zin (i := 556) (by decide +kernel) rfl, zin (i := 557) (by decide +kernel) rfl, wCX6_ahead⟩
theorem wCX7_ahead : zCW mX7_ahead 2 := ⟨zin (i := 8) (by decide +kernel) rfl, zin (i := 1091) (by decide +kernel) rfl, by decide +kernel, by decide +kernel, by decide +kernel⟩
theorem sCL_90 : zCV RL 90 mX7_ahead 2 := ⟨zin (i := 1088) (by decide +kernel) rfl, zin (i := 1089) (by decide +kernel) rfl, zin (i := 1090) (by decide +kernel) rfl, wCX7_ahead⟩
theorem wCX6_ready : zCW mX6_ready 1 := ⟨zin (i := 1) (by decide +kernel) rfl, zin (i := 554) (by decide +kernel) rfl, by decide +kernel, by decide +kernel, by decide +kernel⟩
theorem sCL_83 : zCV RL 83 mX6_ready 1 := ⟨zin (i := 551) (by decide +kernel) rfl, zin (i := 552) (by decide +kernel) rfl, zin (i := 553) (by decide +kernel) rfl, wCX6_ready⟩
theorem wCX7_ready : zCW mX7_ready 1 := ⟨zin (i := 8) (by decide +kernel) rfl, zin (i := 1087) (by decide +kernel) rfl, by decide +kernel, by decide +kernel, by decide +kernel⟩
theorem sCL_86 : zCV RL 86 mX7_ready 1 := ⟨zin (i := 1084) (by decide +kernel) rfl, zin (i := 1085) (by decide +kernel) rfl, zin (i := 1086) (by decide +kernel) rfl, wCX7_ready⟩
theorem wCX6_sighs : zCW mX6_sighs 1 := ⟨zin (i := 1) (by decide +kernel) rfl, zin (i := 545) (by decide +kernel) rfl, by decide +kernel, by decide +kernel, by decide +kernel⟩
theorem sCL_79 : zCV RL 79 mX6_sighs 1 := ⟨zin (i := 542) (by decide +kernel) rfl, zin (i := 543) (by decide +kernel) rfl, zin (i := 544) (by decide +kernel) rfl, wCX6_sighs⟩
theorem wCX7_sighs : zCW mX7_sighs 1 := ⟨zin (i := 8) (by decide +kernel) rfl, zin (i := 1079) (by decide +kernel) rfl, by decide +kernel, by decide +kernel, by decide +kernel⟩
theorem sCL_82 : zCV RL 82 mX7_sighs 1 := ⟨zin (i := 1076) (by decide +kernel) rfl, zin (i := 1077) (by decide +kernel) rfl, zin (i := 1078) (by decide +kernel) rfl, wCX7_sighs⟩
theorem wCX6_fault : zCW mX6_fault 0 := ⟨zin (i := 1) (by decide +kernel) rfl, zin (i := 541) (by decide +kernel) rfl, by decide +kernel, by decide +kernel, by decide +kernel⟩
theorem sCL_74 : zCV RL 74 mX6_fault 0 := ⟨zin (i := 538) (by decide +kernel) rfl, zin (i := 539) (by decide +kernel) rfl, zin (i := 540) (by decide +kernel) rfl, wCX6_fault⟩
theorem wCX7_fault : zCW mX7_fault 0 := ⟨zin (i := 8) (by decide +kernel) rfl, zin (i := 1075) (by decide +kernel) rfl, by decide +kernel, by decide +kernel, by decide +kernel⟩
theorem sCL_78 : zCV RL 78 mX7_fault 0 := ⟨zin (i := 1072) (by decide +kernel) rfl, zin (i := 1073) (by decide +kernel) rfl, zin (i := 1074) (by decide +kernel) rfl, wCX7_fault⟩
theorem wCX6_vow : zCW mX6_vow 1 := ⟨zin (i := 1) (by decide +kernel) rfl, zin (i := 409) (by decide +kernel) rfl, by decide +kernel, by decide +kernel, by decide +kernel⟩
theorem sCL_70 : zCV RL 70 mX6_vow 1 := ⟨zin (i := 406) (by decide +kernel) rfl, zin (i := 407) (by decide +kernel) rfl, zin (i := 408) (by decide +kernel) rfl, wCX6_vow⟩
theorem wCX7_vow : zCW mX7_vow 1 := ⟨zin (i := 8) (by decide +kernel) rfl, zin (i := 1031) (by decide +kernel) rfl, by decide +kernel, by decide +kernel, by decide +kernel⟩
theorem sCL_73 : zCV RL 73 mX7_vow 1 := ⟨zin (i := 1028) (by decide +kernel) rfl, zin (i := 1029) (by decide +kernel) rfl, zin (i := 1030) (by decide +kernel) rfl, wCX7_vow⟩
theorem wCX6_personOf : zCW mX6_personOf 2 := ⟨zin (i := 1) (by decide +kernel) rfl, zin (i := 405) (by decide +kernel) rfl, by decide +kernel, by decide +kernel, by decide +kernel⟩
theorem sCL_66 : zCV RL 66 mX6_personOf 2 := ⟨zin (i := 402) (by decide +kernel) rfl, zin (i := 403) (by decide +kernel) rfl, zin (i := 404) (by decide +kernel) rfl, wCX6_personOf⟩
theorem wCX7_personOf : zCW mX7_personOf 2 := ⟨zin (i := 8) (by decide +kernel) rfl, zin (i := 1027) (by decide +kernel) rfl, by decide +kernel, by decide +kernel, by decide +kernel⟩
theorem sCL_69 : zCV RL 69 mX7_personOf 2 := ⟨zin (i := 1024) (by decide +kernel) rfl, zin (i := 1025) (by decide +kernel) rfl, zin (i := 1026) (by decide +kernel) rfl, wCX7_personOf⟩
theorem wCX6_give : zCW mX6_give 1 := ⟨zin (i := 1) (by decide +kernel) rfl, zin (i := 397) (by decide +kernel) rfl, by decide +kernel, by decide +kernel, by decide +kernel⟩
theorem sCL_62 : zCV RL 62 mX6_give 1 := ⟨zin (i := 394) (by decide +kernel) rfl, zin (i := 395) (by decide +kernel) rfl, zin (i := 396) (by decide +kernel) rfl, wCX6_give⟩
theorem wCX7_give : zCW mX7_give 1 := ⟨zin (i := 8) (by decide +kernel) rfl, zin (i := 1019) (by decide +kernel) rfl, by decide +kernel, by decide +kernel, by decide +kernel⟩
theorem sCL_65 : zCV RL 65 mX7_give 1 := ⟨zin (i := 1016) (by decide +kernel) rfl, zin (i := 1017) (by decide +kernel) rfl, zin (i := 1018) (by decide +kernel) rfl, wCX7_give⟩
theorem wCX6_tire : zCW mX6_tire 2 := ⟨zin (i := 1) (by decide +kernel) rfl, zin (i := 393) (by decide +kernel) rfl, by decide +kernel, by decide +kernel, by decide +kernel⟩
theorem sCL_58 : zCV RL 58 mX6_tire 2 := ⟨zin (i := 390) (by decide +kernel) rfl, zin (i := 391) (by decide +kernel) rfl, zin (i := 392) (by decide +kernel) rfl, wCX6_tire⟩
theorem wCX7_tire : zCW mX7_tire 2 := ⟨zin (i := 8) (by decide +kernel) rfl, zin (i := 1015) (by decide +kernel) rfl, by decide +kernel, by decide +kernel, by decide +kernel⟩
theorem sCL_61 : zCV RL 61 mX7_tire 2 := ⟨zin (i := 1012) (by decide +kernel) rfl, zin (i := 1013) (by decide +kernel) rfl, zin (i := 1014) (by decide +kernel) rfl, wCX7_tire⟩
theorem wCX6_ask : zCW mX6_ask 2 := ⟨zin (i := 1) (by decide +kernel) rfl, zin (i := 389) (by decide +kernel) rfl, by decide +kernel, by decide +kernel, by decide +kernel⟩
theorem sCL_54 : zCV RL 54 mX6_ask 2 := ⟨zin (i := 386) (by decide +kernel) rfl, zin (i := 387) (by decide +kernel) rfl, zin (i := 388) (by decide +kernel) rfl, wCX6_ask⟩
theorem wCX7_ask : zCW mX7_ask 2 := ⟨zin (i := 8) (by decide +kernel) rfl, zin (i := 1011) (by decide +kernel) rfl, by decide +kernel, by decide +kernel, by decide +kernel⟩
theorem sCL_57 : zCV RL 57 mX7_ask 2 := ⟨zin (i := 1008) (by decide +kernel) rfl, zin (i := 1009) (by decide +kernel) rfl, zin (i := 1010) (by decide +kernel) rfl, wCX7_ask⟩
theorem wCX6_person : zCW mX6_person 4 := ⟨zin (i := 1) (by decide +kernel) rfl, zin (i := 380) (by decide +kernel) rfl, by decide +kernel, by decide +kernel, by decide +kernel⟩
theorem sCL_49 : zCV RL 49 mX6_person 4 := ⟨zin (i := 377) (by decide +kernel) rfl, zin (i := 378) (by decide +kernel) rfl, zin (i := 379) (by decide +kernel) rfl, wCX6_person⟩
theorem wCX7_person : zCW mX7_person 4 := ⟨zin (i := 8) (by decide +kernel) rfl, zin (i := 999) (by decide +kernel) rfl, by decide +kernel, by decide +kernel, by decide +kernel⟩
theorem sCL_53 : zCV RL 53 mX7_person 4 := ⟨zin (i := 996) (by decide +kernel) rfl, zin (i := 997) (by decide +kernel) rfl, zin (i := 998) (by decide +kernel) rfl, wCX7_person⟩
theorem wCX6_says : zCW mX6_says 2 := ⟨zin (i := 1) (by decide +kernel) rfl, zin (i := 348) (by decide +kernel) rfl, by decide +kernel, by decide +kernel, by decide +kernel⟩
theorem sCL_45 : zCV RL 45 mX6_says 2 := ⟨zin (i := 345) (by decide +kernel) rfl, zin (i := 346) (by decide +kernel) rfl, zin (i := 347) (by decide +kernel) rfl, wCX6_says⟩
theorem wCX7_says : zCW mX7_says 2 := ⟨zin (i := 8) (by decide +kernel) rfl, zin (i := 983) (by decide +kernel) rfl, by decide +kernel, by decide +kernel, by decide +kernel⟩
theorem sCL_48 : zCV RL 48 mX7_says 2 := ⟨zin (i := 980) (by decide +kernel) rfl, zin (i := 981) (by decide +kernel) rfl, zin (i := 982) (by decide +kernel) rfl, wCX7_says⟩
theorem wCX6_holds : zCW mX6_holds 1 := ⟨zin (i := 1) (by decide +kernel) rfl, zin (i := 344) (by decide +kernel) rfl, by decide +kernel, by decide +kernel, by decide +kernel⟩
theorem sCL_40 : zCV RL 40 mX6_holds 1 := ⟨zin (i := 341) (by decide +kernel) rfl, zin (i := 342) (by decide +kernel) rfl, zin (i := 343) (by decide +kernel) rfl, wCX6_holds⟩
theorem wCX7_holds : zCW mX7_holds 1 := ⟨zin (i := 8) (by decide +kernel) rfl, zin (i := 979) (by decide +kernel) rfl, by decide +kernel, by decide +kernel, by decide +kernel⟩
theorem sCL_44 : zCV RL 44 mX7_holds 1 := ⟨zin (i := 976) (by decide +kernel) rfl, zin (i := 977) (by decide +kernel) rfl, zin (i := 978) (by decide +kernel) rfl, wCX7_holds⟩
theorem wCX6_show : zCW mX6_show 2 := ⟨zin (i := 1) (by decide +kernel) rfl, zin (i := 324) (by decide +kernel) rfl, by decide +kernel, by decide +kernel, by decide +kernel⟩
theorem sCL_35 : zCV RL 35 mX6_show 2 := ⟨zin (i := 321) (by decide +kernel) rfl, zin (i := 322) (by decide +kernel) rfl, zin (i := 323) (by decide +kernel) rfl, wCX6_show⟩
theorem wCX7_show : zCW mX7_show 2 := ⟨zin (i := 8) (by decide +kernel) rfl, zin (i := 971) (by decide +kernel) rfl, by decide +kernel, by decide +kernel, by decide +kernel⟩
theorem sCL_39 : zCV RL 39 mX7_show 2 := ⟨zin (i := 968) (by decide +kernel) rfl, zin (i := 969) (by decide +kernel) rfl, zin (i := 970) (by decide +kernel) rfl, wCX7_show⟩
theorem wCX6_element : zCW mX6_element 2 := ⟨zin (i := 1) (by decide +kernel) rfl, zin (i := 316) (by decide +kernel) rfl, by decide +kernel, by decide +kernel, by decide +kernel⟩
theorem sCL_30 : zCV RL 30 mX6_element 2 := ⟨zin (i := 313) (by decide +kernel) rfl, zin (i := 314) (by decide +kernel) rfl, zin (i := 315) (by decide +kernel) rfl, wCX6_element⟩
theorem wCX7_element : zCW mX7_element 2 := ⟨zin (i := 8) (by decide +kernel) rfl, zin (i := 967) (by decide +kernel) rfl, by decide +kernel, by decide +kernel, by decide +kernel⟩
theorem sCL_34 : zCV RL 34 mX7_element 2 := ⟨zin (i := 964) (by decide +kernel) rfl, zin (i := 965) (by decide +kernel) rfl, zin (i := 966) (by decide +kernel) rfl, wCX7_element⟩
theorem wCX6_copy : zCW mX6_copy 5 := ⟨zin (i := 1) (by decide +kernel) rfl, zin (i := 296) (by decide +kernel) rfl, by decide +kernel, by decide +kernel, by decide +kernel⟩
theorem sCL_25 : zCV RL 25 mX6_copy 5 := ⟨zin (i := 293) (by decide +kernel) rfl, zin (i := 294) (by decide +kernel) rfl, zin (i := 295) (by decide +kernel) rfl, wCX6_copy⟩
theorem wCX7_copy : zCW mX7_copy 5 := ⟨zin (i := 8) (by decide +kernel) rfl, zin (i := 963) (by decide +kernel) rfl, by decide +kernel, by decide +kernel, by decide +kernel⟩
theorem sCL_29 : zCV RL 29 mX7_copy 5 := ⟨zin (i := 960) (by decide +kernel) rfl, zin (i := 961) (by decide +kernel) rfl, zin (i := 962) (by decide +kernel) rfl, wCX7_copy⟩
theorem wKL_18 : Cond.constantLong RL 18 4294967295 ∈ zT := zin (i := 1261) (by decide +kernel) rfl
theorem wCX6_set : zCW mX6_set 3 := ⟨zin (i := 1) (by decide +kernel) rfl, zin (i := 270) (by decide +kernel) rfl, by decide +kernel, by decide +kernel, by decide +kernel⟩
theorem sCL_20 : zCV RL 20 mX6_set 3 := ⟨zin (i := 267) (by decide +kernel) rfl, zin (i := 268) (by decide +kernel) rfl, zin (i := 269) (by decide +kernel) rfl, wCX6_set⟩
theorem wCX7_set : zCW mX7_set 3 := ⟨zin (i := 8) (by decide +kernel) rfl, zin (i := 959) (by decide +kernel) rfl, by decide +kernel, by decide +kernel, by decide +kernel⟩
theorem sCL_24 : zCV RL 24 mX7_set 3 := ⟨zin (i := 956) (by decide +kernel) rfl, zin (i := 957) (by decide +kernel) rfl, zin (i := 958) (by decide +kernel) rfl, wCX7_set⟩
theorem wCX6_row : zCW mX6_row 3 := ⟨zin (i := 1) (by decide +kernel) rfl, zin (i := 246) (by decide +kernel) rfl, by decide +kernel, by decide +kernel, by decide +kernel⟩
theorem sCL_13 : zCV RL 13 mX6_row 3 := ⟨zin (i := 243) (by decide +kernel) rfl, zin (i := 244) (by decide +kernel) rfl, zin (i := 245) (by decide +kernel) rfl, wCX6_row⟩
theorem wCX7_row : zCW mX7_row 3 := ⟨zin (i := 8) (by decide +kernel) rfl, zin (i := 947) (by decide +kernel) rfl, by decide +kernel, by decide +kernel, by decide +kernel⟩
theorem sCL_17 : zCV RL 17 mX7_row 3 := ⟨zin (i := 944) (by decide +kernel) rfl, zin (i := 945) (by decide +kernel) rfl, zin (i := 946) (by decide +kernel) rfl, wCX7_row⟩
def fL_b1422 (g18 : Nat → Nat → Int32 → ZMem → Option (ZMem)) (L : Nat) (xs : Nat → Int32) (n : Nat) (v1 : Nat) (v2 : Nat) (v3 : Int32) (μ : ZMem) : Option (ZMem) := (g18 v1 v2 (v3 + (6 : Int32)) μ)
theorem tL_b1422 {l : Launch} {L : Nat} {xs : Nat → Int32} {n : Nat} {z : ZMem} {g18 : Nat → Nat → Int32 → ZMem → Option (ZMem)} (hg18 : ∀ (v1 : Nat) (v2 : Nat) (v3 : Int32) (μ : ZMem), isC n 6 v1 = true → isC n 7 v2 = true → g18 v1 v2 v3 μ = some z → V (zkL l L xs n z) false 18 [(0, .ref 1000), (1, .ref v1), (2, .ref v2), (3, .int v3)] [] n μ) (v1 : Nat) (v2 : Nat) (v3 : Int32) (μ : ZMem) (c_v1 : isC n 6 v1 = true) (c_v2 : isC n 7 v2 = true) (h : fL_b1422 g18 L xs n v1 v2 v3 μ = some z) : V (zkL l L xs n z) false 1422 [(0, .ref 1000), (1, .ref v1), (2, .ref v2), (3, .int v3)] [] n μ := by
  unfold fL_b1422 at h
  refine V_inc (dx := 6) (ls' := [(0, .ref 1000), (1, .ref v1), (2, .ref v2), (3, .int (v3 + (6 : Int32)))]) 3 [1, 2, 3, 0] (zdk tbL_20_ok 0 rfl) rfl (Nat.le_of_ble_eq_true rfl) rfl rfl ?_
  refine V_goto (tgt := 18) (zdk tbL_20_ok 1 rfl) (by decide) ?_
  exact hg18 v1 v2 (v3 + (6 : Int32)) μ c_v1 c_v2 h
def fL_b1399 (g18 : Nat → Nat → Int32 → ZMem → Option (ZMem)) (L : Nat) (xs : Nat → Int32) (n : Nat) (v1 : Nat) (v2 : Nat) (v3 : Int32) (μ : ZMem) : Option (ZMem) := chk (inN (v3 + (1 : Int32)) L) (bd2 (fX6_status n v1 (xs (v3 + (1 : Int32)).toNatClampNeg) μ) (fun μ3 r4 => chk (inN (v3 + (1 : Int32)) L) (bd2 (fX7_status n v2 (xs (v3 + (1 : Int32)).toNatClampNeg) μ3) (fun μ7 r8 => (if r4 = r8 then (fL_b1422 g18 L xs n v1 v2 v3 μ7) else none)))))
theorem tL_b1399 {l : Launch} {L : Nat} {xs : Nat → Int32} {n : Nat} {z : ZMem} {g18 : Nat → Nat → Int32 → ZMem → Option (ZMem)} (hg18 : ∀ (v1 : Nat) (v2 : Nat) (v3 : Int32) (μ : ZMem), isC n 6 v1 = true → isC n 7 v2 = true → g18 v1 v2 v3 μ = some z → V (zkL l L xs n z) false 18 [(0, .ref 1000), (1, .ref v1), (2, .ref v2), (3, .int v3)] [] n μ) (v1 : Nat) (v2 : Nat) (v3 : Int32) (μ : ZMem) (c_v1 : isC n 6 v1 = true) (c_v2 : isC n 7 v2 = true) (h : fL_b1399 g18 L xs n v1 v2 v3 μ = some z) : V (zkL l L xs n z) false 1399 [(0, .ref 1000), (1, .ref v1), (2, .ref v2), (3, .int v3)] [] n μ := by
  unfold fL_b1399 at h
  refine V_aload_n 1 (zdk tbL_19_ok 33 rfl) rfl ?_
  refine V_aload_n 0 (zdk tbL_19_ok 34 rfl) rfl ?_
  refine V_iload_n 3 (zdk tbL_19_ok 35 rfl) rfl ?_
  refine V_iconst (v := 1) (zdk tbL_19_ok 36 rfl) rfl ?_
  refine V_iadd (zdk tbL_19_ok 37 rfl) ?_
  obtain ⟨b1, h⟩ := chk_some h
  refine V_sld (zdk tbL_19_ok 38 rfl) (fun ξ hξ => by rw [hξ.2]; exact inN_in b1) (fun ξ hξ => by rw [hξ.1]) ?_
  obtain ⟨μ3, r4, q2, h⟩ := bd2_some h
  refine V_callV (R1 := (rmd 2)) (As := [.int (xs (v3 + (1 : Int32)).toNatClampNeg)]) (r := (some (.int r4))) (zdk tbL_19_ok 39 rfl) sCL_175 (tX6_status q2) (c_v1) rfl rfl rfl ⟨Nat.le_of_ble_eq_true rfl, Nat.le_of_ble_eq_true rfl⟩ (Nat.le_of_ble_eq_true rfl) ⟨rfl, rfl⟩ id ?_
  refine V_aload_n 2 (zdk tbL_19_ok 40 rfl) rfl ?_
  refine V_aload_n 0 (zdk tbL_19_ok 41 rfl) rfl ?_
  refine V_iload_n 3 (zdk tbL_19_ok 42 rfl) rfl ?_
  refine V_iconst (v := 1) (zdk tbL_19_ok 43 rfl) rfl ?_
  refine V_iadd (zdk tbL_19_ok 44 rfl) ?_
  obtain ⟨b5, h⟩ := chk_some h
  refine V_sld (zdk tbL_19_ok 45 rfl) (fun ξ hξ => by rw [hξ.2]; exact inN_in b5) (fun ξ hξ => by rw [hξ.1]) ?_
  obtain ⟨μ7, r8, q6, h⟩ := bd2_some h
  refine V_callV (R1 := (rmd 1)) (As := [.int (xs (v3 + (1 : Int32)).toNatClampNeg)]) (r := (some (.int r8))) (zdk tbL_19_ok 46 rfl) sCL_178 (tX7_status q6) (c_v2) rfl rfl rfl ⟨Nat.le_of_ble_eq_true rfl, Nat.le_of_ble_eq_true rfl⟩ (Nat.le_of_ble_eq_true rfl) ⟨rfl, rfl⟩ id ?_
  refine V_icmp_eq (tgt := 1422) (zdk tbL_19_ok 47 rfl) (by decide) (fun c9 => ?_) (fun c9 => ?_)
  · replace h := ite_t h c9
    exact tL_b1422 hg18 v1 v2 v3 μ7 c_v1 c_v2 h
  · replace h := ite_f h c9
    refine V_iconst (v := 0) (zdk tbL_19_ok 48 rfl) rfl ?_
    cases h
def fL_b1386 (g18 : Nat → Nat → Int32 → ZMem → Option (ZMem)) (L : Nat) (xs : Nat → Int32) (n : Nat) (v1 : Nat) (v2 : Nat) (v3 : Int32) (μ : ZMem) : Option (ZMem) := bd2 (fX6_restore n v1 μ) (fun μ2 r3 => bd2 (fX7_restore n v2 μ2) (fun μ5 r6 => (if r3 = r6 then (fL_b1422 g18 L xs n v1 v2 v3 μ5) else none)))
theorem tL_b1386 {l : Launch} {L : Nat} {xs : Nat → Int32} {n : Nat} {z : ZMem} {g18 : Nat → Nat → Int32 → ZMem → Option (ZMem)} (hg18 : ∀ (v1 : Nat) (v2 : Nat) (v3 : Int32) (μ : ZMem), isC n 6 v1 = true → isC n 7 v2 = true → g18 v1 v2 v3 μ = some z → V (zkL l L xs n z) false 18 [(0, .ref 1000), (1, .ref v1), (2, .ref v2), (3, .int v3)] [] n μ) (v1 : Nat) (v2 : Nat) (v3 : Int32) (μ : ZMem) (c_v1 : isC n 6 v1 = true) (c_v2 : isC n 7 v2 = true) (h : fL_b1386 g18 L xs n v1 v2 v3 μ = some z) : V (zkL l L xs n z) false 1386 [(0, .ref 1000), (1, .ref v1), (2, .ref v2), (3, .int v3)] [] n μ := by
  unfold fL_b1386 at h
  refine V_aload_n 1 (zdk tbL_19_ok 26 rfl) rfl ?_
  obtain ⟨μ2, r3, q1, h⟩ := bd2_some h
  refine V_callV (R1 := (rmd 3)) (As := []) (r := (some (.int r3))) (zdk tbL_19_ok 27 rfl) sCL_171 (tX6_restore q1) (c_v1) rfl rfl rfl ⟨Nat.le_of_ble_eq_true rfl, Nat.le_of_ble_eq_true rfl⟩ (Nat.le_of_ble_eq_true rfl) ⟨rfl, rfl⟩ id ?_
  refine V_aload_n 2 (zdk tbL_19_ok 28 rfl) rfl ?_
  obtain ⟨μ5, r6, q4, h⟩ := bd2_some h
  refine V_callV (R1 := (rmd 3)) (As := []) (r := (some (.int r6))) (zdk tbL_19_ok 29 rfl) sCL_174 (tX7_restore q4) (c_v2) rfl rfl rfl ⟨Nat.le_of_ble_eq_true rfl, Nat.le_of_ble_eq_true rfl⟩ (Nat.le_of_ble_eq_true rfl) ⟨rfl, rfl⟩ id ?_
  refine V_icmp_eq (tgt := 1422) (zdk tbL_19_ok 30 rfl) (by decide) (fun c7 => ?_) (fun c7 => ?_)
  · replace h := ite_t h c7
    exact tL_b1422 hg18 v1 v2 v3 μ5 c_v1 c_v2 h
  · replace h := ite_f h c7
    refine V_iconst (v := 0) (zdk tbL_19_ok 31 rfl) rfl ?_
    cases h
def fL_b1373 (g18 : Nat → Nat → Int32 → ZMem → Option (ZMem)) (L : Nat) (xs : Nat → Int32) (n : Nat) (v1 : Nat) (v2 : Nat) (v3 : Int32) (μ : ZMem) : Option (ZMem) := bd2 (fX6_image n v1 μ) (fun μ2 r3 => bd2 (fX7_image n v2 μ2) (fun μ5 r6 => (if r3 = r6 then (fL_b1422 g18 L xs n v1 v2 v3 μ5) else none)))
theorem tL_b1373 {l : Launch} {L : Nat} {xs : Nat → Int32} {n : Nat} {z : ZMem} {g18 : Nat → Nat → Int32 → ZMem → Option (ZMem)} (hg18 : ∀ (v1 : Nat) (v2 : Nat) (v3 : Int32) (μ : ZMem), isC n 6 v1 = true → isC n 7 v2 = true → g18 v1 v2 v3 μ = some z → V (zkL l L xs n z) false 18 [(0, .ref 1000), (1, .ref v1), (2, .ref v2), (3, .int v3)] [] n μ) (v1 : Nat) (v2 : Nat) (v3 : Int32) (μ : ZMem) (c_v1 : isC n 6 v1 = true) (c_v2 : isC n 7 v2 = true) (h : fL_b1373 g18 L xs n v1 v2 v3 μ = some z) : V (zkL l L xs n z) false 1373 [(0, .ref 1000), (1, .ref v1), (2, .ref v2), (3, .int v3)] [] n μ := by
  unfold fL_b1373 at h
  refine V_aload_n 1 (zdk tbL_19_ok 19 rfl) rfl ?_
  obtain ⟨μ2, r3, q1, h⟩ := bd2_some h
  refine V_callV (R1 := (rmd 3)) (As := []) (r := (some (.int r3))) (zdk tbL_19_ok 20 rfl) sCL_167 (tX6_image q1) (c_v1) rfl rfl rfl ⟨Nat.le_of_ble_eq_true rfl, Nat.le_of_ble_eq_true rfl⟩ (Nat.le_of_ble_eq_true rfl) ⟨rfl, rfl⟩ id ?_
  refine V_aload_n 2 (zdk tbL_19_ok 21 rfl) rfl ?_
  obtain ⟨μ5, r6, q4, h⟩ := bd2_some h
  refine V_callV (R1 := (rmd 3)) (As := []) (r := (some (.int r6))) (zdk tbL_19_ok 22 rfl) sCL_170 (tX7_image q4) (c_v2) rfl rfl rfl ⟨Nat.le_of_ble_eq_true rfl, Nat.le_of_ble_eq_true rfl⟩ (Nat.le_of_ble_eq_true rfl) ⟨rfl, rfl⟩ id ?_
  refine V_icmp_eq (tgt := 1422) (zdk tbL_19_ok 23 rfl) (by decide) (fun c7 => ?_) (fun c7 => ?_)
  · replace h := ite_t h c7
    exact tL_b1422 hg18 v1 v2 v3 μ5 c_v1 c_v2 h
  · replace h := ite_f h c7
    refine V_iconst (v := 0) (zdk tbL_19_ok 24 rfl) rfl ?_
    cases h
def fL_b1350 (g18 : Nat → Nat → Int32 → ZMem → Option (ZMem)) (L : Nat) (xs : Nat → Int32) (n : Nat) (v1 : Nat) (v2 : Nat) (v3 : Int32) (μ : ZMem) : Option (ZMem) := chk (inN (v3 + (1 : Int32)) L) (bd2 (fX6_trace n v1 (xs (v3 + (1 : Int32)).toNatClampNeg) μ) (fun μ3 r4 => chk (inN (v3 + (1 : Int32)) L) (bd2 (fX7_trace n v2 (xs (v3 + (1 : Int32)).toNatClampNeg) μ3) (fun μ7 r8 => (if r4 = r8 then (fL_b1422 g18 L xs n v1 v2 v3 μ7) else none)))))
theorem tL_b1350 {l : Launch} {L : Nat} {xs : Nat → Int32} {n : Nat} {z : ZMem} {g18 : Nat → Nat → Int32 → ZMem → Option (ZMem)} (hg18 : ∀ (v1 : Nat) (v2 : Nat) (v3 : Int32) (μ : ZMem), isC n 6 v1 = true → isC n 7 v2 = true → g18 v1 v2 v3 μ = some z → V (zkL l L xs n z) false 18 [(0, .ref 1000), (1, .ref v1), (2, .ref v2), (3, .int v3)] [] n μ) (v1 : Nat) (v2 : Nat) (v3 : Int32) (μ : ZMem) (c_v1 : isC n 6 v1 = true) (c_v2 : isC n 7 v2 = true) (h : fL_b1350 g18 L xs n v1 v2 v3 μ = some z) : V (zkL l L xs n z) false 1350 [(0, .ref 1000), (1, .ref v1), (2, .ref v2), (3, .int v3)] [] n μ := by
  unfold fL_b1350 at h
  refine V_aload_n 1 (zdk tbL_19_ok 2 rfl) rfl ?_
  refine V_aload_n 0 (zdk tbL_19_ok 3 rfl) rfl ?_
  refine V_iload_n 3 (zdk tbL_19_ok 4 rfl) rfl ?_
  refine V_iconst (v := 1) (zdk tbL_19_ok 5 rfl) rfl ?_
  refine V_iadd (zdk tbL_19_ok 6 rfl) ?_
  obtain ⟨b1, h⟩ := chk_some h
  refine V_sld (zdk tbL_19_ok 7 rfl) (fun ξ hξ => by rw [hξ.2]; exact inN_in b1) (fun ξ hξ => by rw [hξ.1]) ?_
  obtain ⟨μ3, r4, q2, h⟩ := bd2_some h
  refine V_callV (R1 := (rmd 3)) (As := [.int (xs (v3 + (1 : Int32)).toNatClampNeg)]) (r := (some (.int r4))) (zdk tbL_19_ok 8 rfl) sCL_163 (tX6_trace q2) (c_v1) rfl rfl rfl ⟨Nat.le_of_ble_eq_true rfl, Nat.le_of_ble_eq_true rfl⟩ (Nat.le_of_ble_eq_true rfl) ⟨rfl, rfl⟩ id ?_
  refine V_aload_n 2 (zdk tbL_19_ok 9 rfl) rfl ?_
  refine V_aload_n 0 (zdk tbL_19_ok 10 rfl) rfl ?_
  refine V_iload_n 3 (zdk tbL_19_ok 11 rfl) rfl ?_
  refine V_iconst (v := 1) (zdk tbL_19_ok 12 rfl) rfl ?_
  refine V_iadd (zdk tbL_19_ok 13 rfl) ?_
  obtain ⟨b5, h⟩ := chk_some h
  refine V_sld (zdk tbL_19_ok 14 rfl) (fun ξ hξ => by rw [hξ.2]; exact inN_in b5) (fun ξ hξ => by rw [hξ.1]) ?_
  obtain ⟨μ7, r8, q6, h⟩ := bd2_some h
  refine V_callV (R1 := (rmd 1)) (As := [.int (xs (v3 + (1 : Int32)).toNatClampNeg)]) (r := (some (.int r8))) (zdk tbL_19_ok 15 rfl) sCL_166 (tX7_trace q6) (c_v2) rfl rfl rfl ⟨Nat.le_of_ble_eq_true rfl, Nat.le_of_ble_eq_true rfl⟩ (Nat.le_of_ble_eq_true rfl) ⟨rfl, rfl⟩ id ?_
  refine V_icmp_eq (tgt := 1422) (zdk tbL_19_ok 16 rfl) (by decide) (fun c9 => ?_) (fun c9 => ?_)
  · replace h := ite_t h c9
    exact tL_b1422 hg18 v1 v2 v3 μ7 c_v1 c_v2 h
  · replace h := ite_f h c9
    refine V_iconst (v := 0) (zdk tbL_19_ok 17 rfl) rfl ?_
    cases h
def fL_b1307 (g18 : Nat → Nat → Int32 → ZMem → Option (ZMem)) (L : Nat) (xs : Nat → Int32) (n : Nat) (v1 : Nat) (v2 : Nat) (v3 : Int32) (μ : ZMem) : Option (ZMem) := chk (inN (v3 + (1 : Int32)) L) (chk (inN (v3 + (2 : Int32)) L) (chk (inN (v3 + (3 : Int32)) L) (bd2 (fX6_act n v1 (xs (v3 + (1 : Int32)).toNatClampNeg) (xs (v3 + (2 : Int32)).toNatClampNeg) (xs (v3 + (3 : Int32)).toNatClampNeg) μ) (fun μ5 r6 => chk (inN (v3 + (1 : Int32)) L) (chk (inN (v3 + (2 : Int32)) L) (chk (inN (v3 + (3 : Int32)) L) (bd2 (fX7_act n v2 (xs (v3 + (1 : Int32)).toNatClampNeg) (xs (v3 + (2 : Int32)).toNatClampNeg) (xs (v3 + (3 : Int32)).toNatClampNeg) μ5) (fun μ11 r12 => (if r6 = r12 then (fL_b1422 g18 L xs n v1 v2 v3 μ11) else none)))))))))
theorem tL_b1307 {l : Launch} {L : Nat} {xs : Nat → Int32} {n : Nat} {z : ZMem} {g18 : Nat → Nat → Int32 → ZMem → Option (ZMem)} (hg18 : ∀ (v1 : Nat) (v2 : Nat) (v3 : Int32) (μ : ZMem), isC n 6 v1 = true → isC n 7 v2 = true → g18 v1 v2 v3 μ = some z → V (zkL l L xs n z) false 18 [(0, .ref 1000), (1, .ref v1), (2, .ref v2), (3, .int v3)] [] n μ) (v1 : Nat) (v2 : Nat) (v3 : Int32) (μ : ZMem) (c_v1 : isC n 6 v1 = true) (c_v2 : isC n 7 v2 = true) (h : fL_b1307 g18 L xs n v1 v2 v3 μ = some z) : V (zkL l L xs n z) false 1307 [(0, .ref 1000), (1, .ref v1), (2, .ref v2), (3, .int v3)] [] n μ := by
  unfold fL_b1307 at h
  refine V_aload_n 1 (zdk tbL_18_ok 15 rfl) rfl ?_
  refine V_aload_n 0 (zdk tbL_18_ok 16 rfl) rfl ?_
  refine V_iload_n 3 (zdk tbL_18_ok 17 rfl) rfl ?_
  refine V_iconst (v := 1) (zdk tbL_18_ok 18 rfl) rfl ?_
  refine V_iadd (zdk tbL_18_ok 19 rfl) ?_
  obtain ⟨b1, h⟩ := chk_some h
  refine V_sld (zdk tbL_18_ok 20 rfl) (fun ξ hξ => by rw [hξ.2]; exact inN_in b1) (fun ξ hξ => by rw [hξ.1]) ?_
  refine V_aload_n 0 (zdk tbL_18_ok 21 rfl) rfl ?_
  refine V_iload_n 3 (zdk tbL_18_ok 22 rfl) rfl ?_
  refine V_iconst (v := 2) (zdk tbL_18_ok 23 rfl) rfl ?_
  refine V_iadd (zdk tbL_18_ok 24 rfl) ?_
  obtain ⟨b2, h⟩ := chk_some h
  refine V_sld (zdk tbL_18_ok 25 rfl) (fun ξ hξ => by rw [hξ.2]; exact inN_in b2) (fun ξ hξ => by rw [hξ.1]) ?_
  refine V_aload_n 0 (zdk tbL_18_ok 26 rfl) rfl ?_
  refine V_iload_n 3 (zdk tbL_18_ok 27 rfl) rfl ?_
  refine V_iconst (v := 3) (zdk tbL_18_ok 28 rfl) rfl ?_
  refine V_iadd (zdk tbL_18_ok 29 rfl) ?_
  obtain ⟨b3, h⟩ := chk_some h
  refine V_sld (zdk tbL_18_ok 30 rfl) (fun ξ hξ => by rw [hξ.2]; exact inN_in b3) (fun ξ hξ => by rw [hξ.1]) ?_
  obtain ⟨μ5, r6, q4, h⟩ := bd2_some h
  refine V_callV (R1 := (rmd 47)) (As := [.int (xs (v3 + (1 : Int32)).toNatClampNeg), .int (xs (v3 + (2 : Int32)).toNatClampNeg), .int (xs (v3 + (3 : Int32)).toNatClampNeg)]) (r := (some (.int r6))) (zdk tbL_18_ok 31 rfl) sCL_159 (tX6_act q4) (c_v1) rfl rfl rfl ⟨Nat.le_of_ble_eq_true rfl, Nat.le_of_ble_eq_true rfl⟩ (Nat.le_of_ble_eq_true rfl) ⟨rfl, rfl⟩ id ?_
  refine V_aload_n 2 (zdk tbL_18_ok 32 rfl) rfl ?_
  refine V_aload_n 0 (zdk tbL_18_ok 33 rfl) rfl ?_
  refine V_iload_n 3 (zdk tbL_18_ok 34 rfl) rfl ?_
  refine V_iconst (v := 1) (zdk tbL_18_ok 35 rfl) rfl ?_
  refine V_iadd (zdk tbL_18_ok 36 rfl) ?_
  obtain ⟨b7, h⟩ := chk_some h
  refine V_sld (zdk tbL_18_ok 37 rfl) (fun ξ hξ => by rw [hξ.2]; exact inN_in b7) (fun ξ hξ => by rw [hξ.1]) ?_
  refine V_aload_n 0 (zdk tbL_18_ok 38 rfl) rfl ?_
  refine V_iload_n 3 (zdk tbL_18_ok 39 rfl) rfl ?_
  refine V_iconst (v := 2) (zdk tbL_18_ok 40 rfl) rfl ?_
  refine V_iadd (zdk tbL_18_ok 41 rfl) ?_
  obtain ⟨b8, h⟩ := chk_some h
  refine V_sld (zdk tbL_18_ok 42 rfl) (fun ξ hξ => by rw [hξ.2]; exact inN_in b8) (fun ξ hξ => by rw [hξ.1]) ?_
  refine V_aload_n 0 (zdk tbL_18_ok 43 rfl) rfl ?_
  refine V_iload_n 3 (zdk tbL_18_ok 44 rfl) rfl ?_
  refine V_iconst (v := 3) (zdk tbL_18_ok 45 rfl) rfl ?_
  refine V_iadd (zdk tbL_18_ok 46 rfl) ?_
  obtain ⟨b9, h⟩ := chk_some h
  refine V_sld (zdk tbL_18_ok 47 rfl) (fun ξ hξ => by rw [hξ.2]; exact inN_in b9) (fun ξ hξ => by rw [hξ.1]) ?_
  obtain ⟨μ11, r12, q10, h⟩ := bd2_some h
  refine V_callV (R1 := (rmd 5)) (As := [.int (xs (v3 + (1 : Int32)).toNatClampNeg), .int (xs (v3 + (2 : Int32)).toNatClampNeg), .int (xs (v3 + (3 : Int32)).toNatClampNeg)]) (r := (some (.int r12))) (zdk tbL_18_ok 48 rfl) sCL_162 (tX7_act q10) (c_v2) rfl rfl rfl ⟨Nat.le_of_ble_eq_true rfl, Nat.le_of_ble_eq_true rfl⟩ (Nat.le_of_ble_eq_true rfl) ⟨rfl, rfl⟩ id ?_
  refine V_icmp_eq (tgt := 1422) (zdk tbL_18_ok 49 rfl) (by decide) (fun c13 => ?_) (fun c13 => ?_)
  · replace h := ite_t h c13
    exact tL_b1422 hg18 v1 v2 v3 μ11 c_v1 c_v2 h
  · replace h := ite_f h c13
    refine V_iconst (v := 0) (zdk tbL_19_ok 0 rfl) rfl ?_
    cases h
def fL_b1284 (g18 : Nat → Nat → Int32 → ZMem → Option (ZMem)) (L : Nat) (xs : Nat → Int32) (n : Nat) (v1 : Nat) (v2 : Nat) (v3 : Int32) (μ : ZMem) : Option (ZMem) := chk (inN (v3 + (1 : Int32)) L) (bd2 (fX6_seed n v1 (xs (v3 + (1 : Int32)).toNatClampNeg) μ) (fun μ3 r4 => chk (inN (v3 + (1 : Int32)) L) (bd2 (fX7_seed n v2 (xs (v3 + (1 : Int32)).toNatClampNeg) μ3) (fun μ7 r8 => (if r4 = r8 then (fL_b1422 g18 L xs n v1 v2 v3 μ7) else none)))))
theorem tL_b1284 {l : Launch} {L : Nat} {xs : Nat → Int32} {n : Nat} {z : ZMem} {g18 : Nat → Nat → Int32 → ZMem → Option (ZMem)} (hg18 : ∀ (v1 : Nat) (v2 : Nat) (v3 : Int32) (μ : ZMem), isC n 6 v1 = true → isC n 7 v2 = true → g18 v1 v2 v3 μ = some z → V (zkL l L xs n z) false 18 [(0, .ref 1000), (1, .ref v1), (2, .ref v2), (3, .int v3)] [] n μ) (v1 : Nat) (v2 : Nat) (v3 : Int32) (μ : ZMem) (c_v1 : isC n 6 v1 = true) (c_v2 : isC n 7 v2 = true) (h : fL_b1284 g18 L xs n v1 v2 v3 μ = some z) : V (zkL l L xs n z) false 1284 [(0, .ref 1000), (1, .ref v1), (2, .ref v2), (3, .int v3)] [] n μ := by
  unfold fL_b1284 at h
  refine V_aload_n 1 (zdk tbL_17_ok 48 rfl) rfl ?_
  refine V_aload_n 0 (zdk tbL_17_ok 49 rfl) rfl ?_
  refine V_iload_n 3 (zdk tbL_18_ok 0 rfl) rfl ?_
  refine V_iconst (v := 1) (zdk tbL_18_ok 1 rfl) rfl ?_
  refine V_iadd (zdk tbL_18_ok 2 rfl) ?_
  obtain ⟨b1, h⟩ := chk_some h
  refine V_sld (zdk tbL_18_ok 3 rfl) (fun ξ hξ => by rw [hξ.2]; exact inN_in b1) (fun ξ hξ => by rw [hξ.1]) ?_
  obtain ⟨μ3, r4, q2, h⟩ := bd2_some h
  refine V_callV (R1 := (rmd 1)) (As := [.int (xs (v3 + (1 : Int32)).toNatClampNeg)]) (r := (some (.int r4))) (zdk tbL_18_ok 4 rfl) sCL_155 (tX6_seed q2) (c_v1) rfl rfl rfl ⟨Nat.le_of_ble_eq_true rfl, Nat.le_of_ble_eq_true rfl⟩ (Nat.le_of_ble_eq_true rfl) ⟨rfl, rfl⟩ id ?_
  refine V_aload_n 2 (zdk tbL_18_ok 5 rfl) rfl ?_
  refine V_aload_n 0 (zdk tbL_18_ok 6 rfl) rfl ?_
  refine V_iload_n 3 (zdk tbL_18_ok 7 rfl) rfl ?_
  refine V_iconst (v := 1) (zdk tbL_18_ok 8 rfl) rfl ?_
  refine V_iadd (zdk tbL_18_ok 9 rfl) ?_
  obtain ⟨b5, h⟩ := chk_some h
  refine V_sld (zdk tbL_18_ok 10 rfl) (fun ξ hξ => by rw [hξ.2]; exact inN_in b5) (fun ξ hξ => by rw [hξ.1]) ?_
  obtain ⟨μ7, r8, q6, h⟩ := bd2_some h
  refine V_callV (R1 := (rmd 1)) (As := [.int (xs (v3 + (1 : Int32)).toNatClampNeg)]) (r := (some (.int r8))) (zdk tbL_18_ok 11 rfl) sCL_158 (tX7_seed q6) (c_v2) rfl rfl rfl ⟨Nat.le_of_ble_eq_true rfl, Nat.le_of_ble_eq_true rfl⟩ (Nat.le_of_ble_eq_true rfl) ⟨rfl, rfl⟩ id ?_
  refine V_icmp_eq (tgt := 1422) (zdk tbL_18_ok 12 rfl) (by decide) (fun c9 => ?_) (fun c9 => ?_)
  · replace h := ite_t h c9
    exact tL_b1422 hg18 v1 v2 v3 μ7 c_v1 c_v2 h
  · replace h := ite_f h c9
    refine V_iconst (v := 0) (zdk tbL_18_ok 13 rfl) rfl ?_
    cases h
def fL_b1261 (g18 : Nat → Nat → Int32 → ZMem → Option (ZMem)) (L : Nat) (xs : Nat → Int32) (n : Nat) (v1 : Nat) (v2 : Nat) (v3 : Int32) (μ : ZMem) : Option (ZMem) := chk (inN (v3 + (1 : Int32)) L) (bd2 (fX6_days n v1 (xs (v3 + (1 : Int32)).toNatClampNeg) μ) (fun μ3 r4 => chk (inN (v3 + (1 : Int32)) L) (bd2 (fX7_days n v2 (xs (v3 + (1 : Int32)).toNatClampNeg) μ3) (fun μ7 r8 => (if r4 = r8 then (fL_b1422 g18 L xs n v1 v2 v3 μ7) else none)))))
theorem tL_b1261 {l : Launch} {L : Nat} {xs : Nat → Int32} {n : Nat} {z : ZMem} {g18 : Nat → Nat → Int32 → ZMem → Option (ZMem)} (hg18 : ∀ (v1 : Nat) (v2 : Nat) (v3 : Int32) (μ : ZMem), isC n 6 v1 = true → isC n 7 v2 = true → g18 v1 v2 v3 μ = some z → V (zkL l L xs n z) false 18 [(0, .ref 1000), (1, .ref v1), (2, .ref v2), (3, .int v3)] [] n μ) (v1 : Nat) (v2 : Nat) (v3 : Int32) (μ : ZMem) (c_v1 : isC n 6 v1 = true) (c_v2 : isC n 7 v2 = true) (h : fL_b1261 g18 L xs n v1 v2 v3 μ = some z) : V (zkL l L xs n z) false 1261 [(0, .ref 1000), (1, .ref v1), (2, .ref v2), (3, .int v3)] [] n μ := by
  unfold fL_b1261 at h
  refine V_aload_n 1 (zdk tbL_17_ok 31 rfl) rfl ?_
  refine V_aload_n 0 (zdk tbL_17_ok 32 rfl) rfl ?_
  refine V_iload_n 3 (zdk tbL_17_ok 33 rfl) rfl ?_
  refine V_iconst (v := 1) (zdk tbL_17_ok 34 rfl) rfl ?_
  refine V_iadd (zdk tbL_17_ok 35 rfl) ?_
  obtain ⟨b1, h⟩ := chk_some h
  refine V_sld (zdk tbL_17_ok 36 rfl) (fun ξ hξ => by rw [hξ.2]; exact inN_in b1) (fun ξ hξ => by rw [hξ.1]) ?_
  obtain ⟨μ3, r4, q2, h⟩ := bd2_some h
  refine V_callV (R1 := (rmd 6)) (As := [.int (xs (v3 + (1 : Int32)).toNatClampNeg)]) (r := (some (.int r4))) (zdk tbL_17_ok 37 rfl) sCL_151 (tX6_days q2) (c_v1) rfl rfl rfl ⟨Nat.le_of_ble_eq_true rfl, Nat.le_of_ble_eq_true rfl⟩ (Nat.le_of_ble_eq_true rfl) ⟨rfl, rfl⟩ id ?_
  refine V_aload_n 2 (zdk tbL_17_ok 38 rfl) rfl ?_
  refine V_aload_n 0 (zdk tbL_17_ok 39 rfl) rfl ?_
  refine V_iload_n 3 (zdk tbL_17_ok 40 rfl) rfl ?_
  refine V_iconst (v := 1) (zdk tbL_17_ok 41 rfl) rfl ?_
  refine V_iadd (zdk tbL_17_ok 42 rfl) ?_
  obtain ⟨b5, h⟩ := chk_some h
  refine V_sld (zdk tbL_17_ok 43 rfl) (fun ξ hξ => by rw [hξ.2]; exact inN_in b5) (fun ξ hξ => by rw [hξ.1]) ?_
  obtain ⟨μ7, r8, q6, h⟩ := bd2_some h
  refine V_callV (R1 := (rmd 4)) (As := [.int (xs (v3 + (1 : Int32)).toNatClampNeg)]) (r := (some (.int r8))) (zdk tbL_17_ok 44 rfl) sCL_154 (tX7_days q6) (c_v2) rfl rfl rfl ⟨Nat.le_of_ble_eq_true rfl, Nat.le_of_ble_eq_true rfl⟩ (Nat.le_of_ble_eq_true rfl) ⟨rfl, rfl⟩ id ?_
  refine V_icmp_eq (tgt := 1422) (zdk tbL_17_ok 45 rfl) (by decide) (fun c9 => ?_) (fun c9 => ?_)
  · replace h := ite_t h c9
    exact tL_b1422 hg18 v1 v2 v3 μ7 c_v1 c_v2 h
  · replace h := ite_f h c9
    refine V_iconst (v := 0) (zdk tbL_17_ok 46 rfl) rfl ?_
    cases h
def fL_b1238 (g18 : Nat → Nat → Int32 → ZMem → Option (ZMem)) (L : Nat) (xs : Nat → Int32) (n : Nat) (v1 : Nat) (v2 : Nat) (v3 : Int32) (μ : ZMem) : Option (ZMem) := chk (inN (v3 + (1 : Int32)) L) (bd2 (fX6_steps n v1 (xs (v3 + (1 : Int32)).toNatClampNeg) μ) (fun μ3 r4 => chk (inN (v3 + (1 : Int32)) L) (bd2 (fX7_steps n v2 (xs (v3 + (1 : Int32)).toNatClampNeg) μ3) (fun μ7 r8 => (if r4 = r8 then (fL_b1422 g18 L xs n v1 v2 v3 μ7) else none)))))
theorem tL_b1238 {l : Launch} {L : Nat} {xs : Nat → Int32} {n : Nat} {z : ZMem} {g18 : Nat → Nat → Int32 → ZMem → Option (ZMem)} (hg18 : ∀ (v1 : Nat) (v2 : Nat) (v3 : Int32) (μ : ZMem), isC n 6 v1 = true → isC n 7 v2 = true → g18 v1 v2 v3 μ = some z → V (zkL l L xs n z) false 18 [(0, .ref 1000), (1, .ref v1), (2, .ref v2), (3, .int v3)] [] n μ) (v1 : Nat) (v2 : Nat) (v3 : Int32) (μ : ZMem) (c_v1 : isC n 6 v1 = true) (c_v2 : isC n 7 v2 = true) (h : fL_b1238 g18 L xs n v1 v2 v3 μ = some z) : V (zkL l L xs n z) false 1238 [(0, .ref 1000), (1, .ref v1), (2, .ref v2), (3, .int v3)] [] n μ := by
  unfold fL_b1238 at h
  refine V_aload_n 1 (zdk tbL_17_ok 14 rfl) rfl ?_
  refine V_aload_n 0 (zdk tbL_17_ok 15 rfl) rfl ?_
  refine V_iload_n 3 (zdk tbL_17_ok 16 rfl) rfl ?_
  refine V_iconst (v := 1) (zdk tbL_17_ok 17 rfl) rfl ?_
  refine V_iadd (zdk tbL_17_ok 18 rfl) ?_
  obtain ⟨b1, h⟩ := chk_some h
  refine V_sld (zdk tbL_17_ok 19 rfl) (fun ξ hξ => by rw [hξ.2]; exact inN_in b1) (fun ξ hξ => by rw [hξ.1]) ?_
  obtain ⟨μ3, r4, q2, h⟩ := bd2_some h
  refine V_callV (R1 := (rmd 6)) (As := [.int (xs (v3 + (1 : Int32)).toNatClampNeg)]) (r := (some (.int r4))) (zdk tbL_17_ok 20 rfl) sCL_147 (tX6_steps q2) (c_v1) rfl rfl rfl ⟨Nat.le_of_ble_eq_true rfl, Nat.le_of_ble_eq_true rfl⟩ (Nat.le_of_ble_eq_true rfl) ⟨rfl, rfl⟩ id ?_
  refine V_aload_n 2 (zdk tbL_17_ok 21 rfl) rfl ?_
  refine V_aload_n 0 (zdk tbL_17_ok 22 rfl) rfl ?_
  refine V_iload_n 3 (zdk tbL_17_ok 23 rfl) rfl ?_
  refine V_iconst (v := 1) (zdk tbL_17_ok 24 rfl) rfl ?_
  refine V_iadd (zdk tbL_17_ok 25 rfl) ?_
  obtain ⟨b5, h⟩ := chk_some h
  refine V_sld (zdk tbL_17_ok 26 rfl) (fun ξ hξ => by rw [hξ.2]; exact inN_in b5) (fun ξ hξ => by rw [hξ.1]) ?_
  obtain ⟨μ7, r8, q6, h⟩ := bd2_some h
  refine V_callV (R1 := (rmd 4)) (As := [.int (xs (v3 + (1 : Int32)).toNatClampNeg)]) (r := (some (.int r8))) (zdk tbL_17_ok 27 rfl) sCL_150 (tX7_steps q6) (c_v2) rfl rfl rfl ⟨Nat.le_of_ble_eq_true rfl, Nat.le_of_ble_eq_true rfl⟩ (Nat.le_of_ble_eq_true rfl) ⟨rfl, rfl⟩ id ?_
  refine V_icmp_eq (tgt := 1422) (zdk tbL_17_ok 28 rfl) (by decide) (fun c9 => ?_) (fun c9 => ?_)
  · replace h := ite_t h c9
    exact tL_b1422 hg18 v1 v2 v3 μ7 c_v1 c_v2 h
  · replace h := ite_f h c9
    refine V_iconst (v := 0) (zdk tbL_17_ok 29 rfl) rfl ?_
    cases h
def fL_b1205 (g18 : Nat → Nat → Int32 → ZMem → Option (ZMem)) (L : Nat) (xs : Nat → Int32) (n : Nat) (v1 : Nat) (v2 : Nat) (v3 : Int32) (μ : ZMem) : Option (ZMem) := chk (inN (v3 + (1 : Int32)) L) (chk (inN (v3 + (2 : Int32)) L) (bd2 (fX6_say n v1 (xs (v3 + (1 : Int32)).toNatClampNeg) (xs (v3 + (2 : Int32)).toNatClampNeg) μ) (fun μ4 r5 => chk (inN (v3 + (1 : Int32)) L) (chk (inN (v3 + (2 : Int32)) L) (bd2 (fX7_say n v2 (xs (v3 + (1 : Int32)).toNatClampNeg) (xs (v3 + (2 : Int32)).toNatClampNeg) μ4) (fun μ9 r10 => (if r5 = r10 then (fL_b1422 g18 L xs n v1 v2 v3 μ9) else none)))))))
theorem tL_b1205 {l : Launch} {L : Nat} {xs : Nat → Int32} {n : Nat} {z : ZMem} {g18 : Nat → Nat → Int32 → ZMem → Option (ZMem)} (hg18 : ∀ (v1 : Nat) (v2 : Nat) (v3 : Int32) (μ : ZMem), isC n 6 v1 = true → isC n 7 v2 = true → g18 v1 v2 v3 μ = some z → V (zkL l L xs n z) false 18 [(0, .ref 1000), (1, .ref v1), (2, .ref v2), (3, .int v3)] [] n μ) (v1 : Nat) (v2 : Nat) (v3 : Int32) (μ : ZMem) (c_v1 : isC n 6 v1 = true) (c_v2 : isC n 7 v2 = true) (h : fL_b1205 g18 L xs n v1 v2 v3 μ = some z) : V (zkL l L xs n z) false 1205 [(0, .ref 1000), (1, .ref v1), (2, .ref v2), (3, .int v3)] [] n μ := by
  unfold fL_b1205 at h
  refine V_aload_n 1 (zdk tbL_16_ok 37 rfl) rfl ?_
  refine V_aload_n 0 (zdk tbL_16_ok 38 rfl) rfl ?_
  refine V_iload_n 3 (zdk tbL_16_ok 39 rfl) rfl ?_
  refine V_iconst (v := 1) (zdk tbL_16_ok 40 rfl) rfl ?_
  refine V_iadd (zdk tbL_16_ok 41 rfl) ?_
  obtain ⟨b1, h⟩ := chk_some h
  refine V_sld (zdk tbL_16_ok 42 rfl) (fun ξ hξ => by rw [hξ.2]; exact inN_in b1) (fun ξ hξ => by rw [hξ.1]) ?_
  refine V_aload_n 0 (zdk tbL_16_ok 43 rfl) rfl ?_
  refine V_iload_n 3 (zdk tbL_16_ok 44 rfl) rfl ?_
  refine V_iconst (v := 2) (zdk tbL_16_ok 45 rfl) rfl ?_
  refine V_iadd (zdk tbL_16_ok 46 rfl) ?_
  obtain ⟨b2, h⟩ := chk_some h
  refine V_sld (zdk tbL_16_ok 47 rfl) (fun ξ hξ => by rw [hξ.2]; exact inN_in b2) (fun ξ hξ => by rw [hξ.1]) ?_
  obtain ⟨μ4, r5, q3, h⟩ := bd2_some h
  refine V_callV (R1 := (rmd 5)) (As := [.int (xs (v3 + (1 : Int32)).toNatClampNeg), .int (xs (v3 + (2 : Int32)).toNatClampNeg)]) (r := (some (.int r5))) (zdk tbL_16_ok 48 rfl) sCL_143 (tX6_say q3) (c_v1) rfl rfl rfl ⟨Nat.le_of_ble_eq_true rfl, Nat.le_of_ble_eq_true rfl⟩ (Nat.le_of_ble_eq_true rfl) ⟨rfl, rfl⟩ id ?_
  refine V_aload_n 2 (zdk tbL_16_ok 49 rfl) rfl ?_
  refine V_aload_n 0 (zdk tbL_17_ok 0 rfl) rfl ?_
  refine V_iload_n 3 (zdk tbL_17_ok 1 rfl) rfl ?_
  refine V_iconst (v := 1) (zdk tbL_17_ok 2 rfl) rfl ?_
  refine V_iadd (zdk tbL_17_ok 3 rfl) ?_
  obtain ⟨b6, h⟩ := chk_some h
  refine V_sld (zdk tbL_17_ok 4 rfl) (fun ξ hξ => by rw [hξ.2]; exact inN_in b6) (fun ξ hξ => by rw [hξ.1]) ?_
  refine V_aload_n 0 (zdk tbL_17_ok 5 rfl) rfl ?_
  refine V_iload_n 3 (zdk tbL_17_ok 6 rfl) rfl ?_
  refine V_iconst (v := 2) (zdk tbL_17_ok 7 rfl) rfl ?_
  refine V_iadd (zdk tbL_17_ok 8 rfl) ?_
  obtain ⟨b7, h⟩ := chk_some h
  refine V_sld (zdk tbL_17_ok 9 rfl) (fun ξ hξ => by rw [hξ.2]; exact inN_in b7) (fun ξ hξ => by rw [hξ.1]) ?_
  obtain ⟨μ9, r10, q8, h⟩ := bd2_some h
  refine V_callV (R1 := (rmd 2)) (As := [.int (xs (v3 + (1 : Int32)).toNatClampNeg), .int (xs (v3 + (2 : Int32)).toNatClampNeg)]) (r := (some (.int r10))) (zdk tbL_17_ok 10 rfl) sCL_146 (tX7_say q8) (c_v2) rfl rfl rfl ⟨Nat.le_of_ble_eq_true rfl, Nat.le_of_ble_eq_true rfl⟩ (Nat.le_of_ble_eq_true rfl) ⟨rfl, rfl⟩ id ?_
  refine V_icmp_eq (tgt := 1422) (zdk tbL_17_ok 11 rfl) (by decide) (fun c11 => ?_) (fun c11 => ?_)
  · replace h := ite_t h c11
    exact tL_b1422 hg18 v1 v2 v3 μ9 c_v1 c_v2 h
  · replace h := ite_f h c11
    refine V_iconst (v := 0) (zdk tbL_17_ok 12 rfl) rfl ?_
    cases h
def fL_b1172 (g18 : Nat → Nat → Int32 → ZMem → Option (ZMem)) (L : Nat) (xs : Nat → Int32) (n : Nat) (v1 : Nat) (v2 : Nat) (v3 : Int32) (μ : ZMem) : Option (ZMem) := chk (inN (v3 + (1 : Int32)) L) (chk (inN (v3 + (2 : Int32)) L) (bd2 (fX6_done n v1 (xs (v3 + (1 : Int32)).toNatClampNeg) (xs (v3 + (2 : Int32)).toNatClampNeg) μ) (fun μ4 r5 => chk (inN (v3 + (1 : Int32)) L) (chk (inN (v3 + (2 : Int32)) L) (bd2 (fX7_done n v2 (xs (v3 + (1 : Int32)).toNatClampNeg) (xs (v3 + (2 : Int32)).toNatClampNeg) μ4) (fun μ9 r10 => (if r5 = r10 then (fL_b1422 g18 L xs n v1 v2 v3 μ9) else none)))))))
theorem tL_b1172 {l : Launch} {L : Nat} {xs : Nat → Int32} {n : Nat} {z : ZMem} {g18 : Nat → Nat → Int32 → ZMem → Option (ZMem)} (hg18 : ∀ (v1 : Nat) (v2 : Nat) (v3 : Int32) (μ : ZMem), isC n 6 v1 = true → isC n 7 v2 = true → g18 v1 v2 v3 μ = some z → V (zkL l L xs n z) false 18 [(0, .ref 1000), (1, .ref v1), (2, .ref v2), (3, .int v3)] [] n μ) (v1 : Nat) (v2 : Nat) (v3 : Int32) (μ : ZMem) (c_v1 : isC n 6 v1 = true) (c_v2 : isC n 7 v2 = true) (h : fL_b1172 g18 L xs n v1 v2 v3 μ = some z) : V (zkL l L xs n z) false 1172 [(0, .ref 1000), (1, .ref v1), (2, .ref v2), (3, .int v3)] [] n μ := by
  unfold fL_b1172 at h
  refine V_aload_n 1 (zdk tbL_16_ok 10 rfl) rfl ?_
  refine V_aload_n 0 (zdk tbL_16_ok 11 rfl) rfl ?_
  refine V_iload_n 3 (zdk tbL_16_ok 12 rfl) rfl ?_
  refine V_iconst (v := 1) (zdk tbL_16_ok 13 rfl) rfl ?_
  refine V_iadd (zdk tbL_16_ok 14 rfl) ?_
  obtain ⟨b1, h⟩ := chk_some h
  refine V_sld (zdk tbL_16_ok 15 rfl) (fun ξ hξ => by rw [hξ.2]; exact inN_in b1) (fun ξ hξ => by rw [hξ.1]) ?_
  refine V_aload_n 0 (zdk tbL_16_ok 16 rfl) rfl ?_
  refine V_iload_n 3 (zdk tbL_16_ok 17 rfl) rfl ?_
  refine V_iconst (v := 2) (zdk tbL_16_ok 18 rfl) rfl ?_
  refine V_iadd (zdk tbL_16_ok 19 rfl) ?_
  obtain ⟨b2, h⟩ := chk_some h
  refine V_sld (zdk tbL_16_ok 20 rfl) (fun ξ hξ => by rw [hξ.2]; exact inN_in b2) (fun ξ hξ => by rw [hξ.1]) ?_
  obtain ⟨μ4, r5, q3, h⟩ := bd2_some h
  refine V_callV (R1 := (rmd 6)) (As := [.int (xs (v3 + (1 : Int32)).toNatClampNeg), .int (xs (v3 + (2 : Int32)).toNatClampNeg)]) (r := (some (.int r5))) (zdk tbL_16_ok 21 rfl) sCL_139 (tX6_done q3) (c_v1) rfl rfl rfl ⟨Nat.le_of_ble_eq_true rfl, Nat.le_of_ble_eq_true rfl⟩ (Nat.le_of_ble_eq_true rfl) ⟨rfl, rfl⟩ id ?_
  refine V_aload_n 2 (zdk tbL_16_ok 22 rfl) rfl ?_
  refine V_aload_n 0 (zdk tbL_16_ok 23 rfl) rfl ?_
  refine V_iload_n 3 (zdk tbL_16_ok 24 rfl) rfl ?_
  refine V_iconst (v := 1) (zdk tbL_16_ok 25 rfl) rfl ?_
  refine V_iadd (zdk tbL_16_ok 26 rfl) ?_
  obtain ⟨b6, h⟩ := chk_some h
  refine V_sld (zdk tbL_16_ok 27 rfl) (fun ξ hξ => by rw [hξ.2]; exact inN_in b6) (fun ξ hξ => by rw [hξ.1]) ?_
  refine V_aload_n 0 (zdk tbL_16_ok 28 rfl) rfl ?_
  refine V_iload_n 3 (zdk tbL_16_ok 29 rfl) rfl ?_
  refine V_iconst (v := 2) (zdk tbL_16_ok 30 rfl) rfl ?_
  refine V_iadd (zdk tbL_16_ok 31 rfl) ?_
  obtain ⟨b7, h⟩ := chk_some h
  refine V_sld (zdk tbL_16_ok 32 rfl) (fun ξ hξ => by rw [hξ.2]; exact inN_in b7) (fun ξ hξ => by rw [hξ.1]) ?_
  obtain ⟨μ9, r10, q8, h⟩ := bd2_some h
  refine V_callV (R1 := (rmd 5)) (As := [.int (xs (v3 + (1 : Int32)).toNatClampNeg), .int (xs (v3 + (2 : Int32)).toNatClampNeg)]) (r := (some (.int r10))) (zdk tbL_16_ok 33 rfl) sCL_142 (tX7_done q8) (c_v2) rfl rfl rfl ⟨Nat.le_of_ble_eq_true rfl, Nat.le_of_ble_eq_true rfl⟩ (Nat.le_of_ble_eq_true rfl) ⟨rfl, rfl⟩ id ?_
  refine V_icmp_eq (tgt := 1422) (zdk tbL_16_ok 34 rfl) (by decide) (fun c11 => ?_) (fun c11 => ?_)
  · replace h := ite_t h c11
    exact tL_b1422 hg18 v1 v2 v3 μ9 c_v1 c_v2 h
  · replace h := ite_f h c11
    refine V_iconst (v := 0) (zdk tbL_16_ok 35 rfl) rfl ?_
    cases h
def fL_b1129 (g18 : Nat → Nat → Int32 → ZMem → Option (ZMem)) (L : Nat) (xs : Nat → Int32) (n : Nat) (v1 : Nat) (v2 : Nat) (v3 : Int32) (μ : ZMem) : Option (ZMem) := chk (inN (v3 + (1 : Int32)) L) (chk (inN (v3 + (2 : Int32)) L) (chk (inN (v3 + (3 : Int32)) L) (bd2 (fX6_behind n v1 (xs (v3 + (1 : Int32)).toNatClampNeg) (xs (v3 + (2 : Int32)).toNatClampNeg) (xs (v3 + (3 : Int32)).toNatClampNeg) μ) (fun μ5 r6 => chk (inN (v3 + (1 : Int32)) L) (chk (inN (v3 + (2 : Int32)) L) (chk (inN (v3 + (3 : Int32)) L) (bd2 (fX7_behind n v2 (xs (v3 + (1 : Int32)).toNatClampNeg) (xs (v3 + (2 : Int32)).toNatClampNeg) (xs (v3 + (3 : Int32)).toNatClampNeg) μ5) (fun μ11 r12 => (if r6 = r12 then (fL_b1422 g18 L xs n v1 v2 v3 μ11) else none)))))))))
theorem tL_b1129 {l : Launch} {L : Nat} {xs : Nat → Int32} {n : Nat} {z : ZMem} {g18 : Nat → Nat → Int32 → ZMem → Option (ZMem)} (hg18 : ∀ (v1 : Nat) (v2 : Nat) (v3 : Int32) (μ : ZMem), isC n 6 v1 = true → isC n 7 v2 = true → g18 v1 v2 v3 μ = some z → V (zkL l L xs n z) false 18 [(0, .ref 1000), (1, .ref v1), (2, .ref v2), (3, .int v3)] [] n μ) (v1 : Nat) (v2 : Nat) (v3 : Int32) (μ : ZMem) (c_v1 : isC n 6 v1 = true) (c_v2 : isC n 7 v2 = true) (h : fL_b1129 g18 L xs n v1 v2 v3 μ = some z) : V (zkL l L xs n z) false 1129 [(0, .ref 1000), (1, .ref v1), (2, .ref v2), (3, .int v3)] [] n μ := by
  unfold fL_b1129 at h
  refine V_aload_n 1 (zdk tbL_15_ok 23 rfl) rfl ?_
  refine V_aload_n 0 (zdk tbL_15_ok 24 rfl) rfl ?_
  refine V_iload_n 3 (zdk tbL_15_ok 25 rfl) rfl ?_
  refine V_iconst (v := 1) (zdk tbL_15_ok 26 rfl) rfl ?_
  refine V_iadd (zdk tbL_15_ok 27 rfl) ?_
  obtain ⟨b1, h⟩ := chk_some h
  refine V_sld (zdk tbL_15_ok 28 rfl) (fun ξ hξ => by rw [hξ.2]; exact inN_in b1) (fun ξ hξ => by rw [hξ.1]) ?_
  refine V_aload_n 0 (zdk tbL_15_ok 29 rfl) rfl ?_
  refine V_iload_n 3 (zdk tbL_15_ok 30 rfl) rfl ?_
  refine V_iconst (v := 2) (zdk tbL_15_ok 31 rfl) rfl ?_
  refine V_iadd (zdk tbL_15_ok 32 rfl) ?_
  obtain ⟨b2, h⟩ := chk_some h
  refine V_sld (zdk tbL_15_ok 33 rfl) (fun ξ hξ => by rw [hξ.2]; exact inN_in b2) (fun ξ hξ => by rw [hξ.1]) ?_
  refine V_aload_n 0 (zdk tbL_15_ok 34 rfl) rfl ?_
  refine V_iload_n 3 (zdk tbL_15_ok 35 rfl) rfl ?_
  refine V_iconst (v := 3) (zdk tbL_15_ok 36 rfl) rfl ?_
  refine V_iadd (zdk tbL_15_ok 37 rfl) ?_
  obtain ⟨b3, h⟩ := chk_some h
  refine V_sld (zdk tbL_15_ok 38 rfl) (fun ξ hξ => by rw [hξ.2]; exact inN_in b3) (fun ξ hξ => by rw [hξ.1]) ?_
  obtain ⟨μ5, r6, q4, h⟩ := bd2_some h
  refine V_callV (R1 := (rmd 6)) (As := [.int (xs (v3 + (1 : Int32)).toNatClampNeg), .int (xs (v3 + (2 : Int32)).toNatClampNeg), .int (xs (v3 + (3 : Int32)).toNatClampNeg)]) (r := (some (.int r6))) (zdk tbL_15_ok 39 rfl) sCL_135 (tX6_behind q4) (c_v1) rfl rfl rfl ⟨Nat.le_of_ble_eq_true rfl, Nat.le_of_ble_eq_true rfl⟩ (Nat.le_of_ble_eq_true rfl) ⟨rfl, rfl⟩ id ?_
  refine V_aload_n 2 (zdk tbL_15_ok 40 rfl) rfl ?_
  refine V_aload_n 0 (zdk tbL_15_ok 41 rfl) rfl ?_
  refine V_iload_n 3 (zdk tbL_15_ok 42 rfl) rfl ?_
  refine V_iconst (v := 1) (zdk tbL_15_ok 43 rfl) rfl ?_
  refine V_iadd (zdk tbL_15_ok 44 rfl) ?_
  obtain ⟨b7, h⟩ := chk_some h
  refine V_sld (zdk tbL_15_ok 45 rfl) (fun ξ hξ => by rw [hξ.2]; exact inN_in b7) (fun ξ hξ => by rw [hξ.1]) ?_
  refine V_aload_n 0 (zdk tbL_15_ok 46 rfl) rfl ?_
  refine V_iload_n 3 (zdk tbL_15_ok 47 rfl) rfl ?_
  refine V_iconst (v := 2) (zdk tbL_15_ok 48 rfl) rfl ?_
  refine V_iadd (zdk tbL_15_ok 49 rfl) ?_
  obtain ⟨b8, h⟩ := chk_some h
  refine V_sld (zdk tbL_16_ok 0 rfl) (fun ξ hξ => by rw [hξ.2]; exact inN_in b8) (fun ξ hξ => by rw [hξ.1]) ?_
  refine V_aload_n 0 (zdk tbL_16_ok 1 rfl) rfl ?_
  refine V_iload_n 3 (zdk tbL_16_ok 2 rfl) rfl ?_
  refine V_iconst (v := 3) (zdk tbL_16_ok 3 rfl) rfl ?_
  refine V_iadd (zdk tbL_16_ok 4 rfl) ?_
  obtain ⟨b9, h⟩ := chk_some h
  refine V_sld (zdk tbL_16_ok 5 rfl) (fun ξ hξ => by rw [hξ.2]; exact inN_in b9) (fun ξ hξ => by rw [hξ.1]) ?_
  obtain ⟨μ11, r12, q10, h⟩ := bd2_some h
  refine V_callV (R1 := (rmd 5)) (As := [.int (xs (v3 + (1 : Int32)).toNatClampNeg), .int (xs (v3 + (2 : Int32)).toNatClampNeg), .int (xs (v3 + (3 : Int32)).toNatClampNeg)]) (r := (some (.int r12))) (zdk tbL_16_ok 6 rfl) sCL_138 (tX7_behind q10) (c_v2) rfl rfl rfl ⟨Nat.le_of_ble_eq_true rfl, Nat.le_of_ble_eq_true rfl⟩ (Nat.le_of_ble_eq_true rfl) ⟨rfl, rfl⟩ id ?_
  refine V_icmp_eq (tgt := 1422) (zdk tbL_16_ok 7 rfl) (by decide) (fun c13 => ?_) (fun c13 => ?_)
  · replace h := ite_t h c13
    exact tL_b1422 hg18 v1 v2 v3 μ11 c_v1 c_v2 h
  · replace h := ite_f h c13
    refine V_iconst (v := 0) (zdk tbL_16_ok 8 rfl) rfl ?_
    cases h
def fL_b1096 (g18 : Nat → Nat → Int32 → ZMem → Option (ZMem)) (L : Nat) (xs : Nat → Int32) (n : Nat) (v1 : Nat) (v2 : Nat) (v3 : Int32) (μ : ZMem) : Option (ZMem) := chk (inN (v3 + (1 : Int32)) L) (chk (inN (v3 + (2 : Int32)) L) (bd2 (fX6_judge n v1 (xs (v3 + (1 : Int32)).toNatClampNeg) (xs (v3 + (2 : Int32)).toNatClampNeg) μ) (fun μ4 r5 => chk (inN (v3 + (1 : Int32)) L) (chk (inN (v3 + (2 : Int32)) L) (bd2 (fX7_judge n v2 (xs (v3 + (1 : Int32)).toNatClampNeg) (xs (v3 + (2 : Int32)).toNatClampNeg) μ4) (fun μ9 r10 => (if r5 = r10 then (fL_b1422 g18 L xs n v1 v2 v3 μ9) else none)))))))
theorem tL_b1096 {l : Launch} {L : Nat} {xs : Nat → Int32} {n : Nat} {z : ZMem} {g18 : Nat → Nat → Int32 → ZMem → Option (ZMem)} (hg18 : ∀ (v1 : Nat) (v2 : Nat) (v3 : Int32) (μ : ZMem), isC n 6 v1 = true → isC n 7 v2 = true → g18 v1 v2 v3 μ = some z → V (zkL l L xs n z) false 18 [(0, .ref 1000), (1, .ref v1), (2, .ref v2), (3, .int v3)] [] n μ) (v1 : Nat) (v2 : Nat) (v3 : Int32) (μ : ZMem) (c_v1 : isC n 6 v1 = true) (c_v2 : isC n 7 v2 = true) (h : fL_b1096 g18 L xs n v1 v2 v3 μ = some z) : V (zkL l L xs n z) false 1096 [(0, .ref 1000), (1, .ref v1), (2, .ref v2), (3, .int v3)] [] n μ := by
  unfold fL_b1096 at h
  refine V_aload_n 1 (zdk tbL_14_ok 46 rfl) rfl ?_
  refine V_aload_n 0 (zdk tbL_14_ok 47 rfl) rfl ?_
  refine V_iload_n 3 (zdk tbL_14_ok 48 rfl) rfl ?_
  refine V_iconst (v := 1) (zdk tbL_14_ok 49 rfl) rfl ?_
  refine V_iadd (zdk tbL_15_ok 0 rfl) ?_
  obtain ⟨b1, h⟩ := chk_some h
  refine V_sld (zdk tbL_15_ok 1 rfl) (fun ξ hξ => by rw [hξ.2]; exact inN_in b1) (fun ξ hξ => by rw [hξ.1]) ?_
  refine V_aload_n 0 (zdk tbL_15_ok 2 rfl) rfl ?_
  refine V_iload_n 3 (zdk tbL_15_ok 3 rfl) rfl ?_
  refine V_iconst (v := 2) (zdk tbL_15_ok 4 rfl) rfl ?_
  refine V_iadd (zdk tbL_15_ok 5 rfl) ?_
  obtain ⟨b2, h⟩ := chk_some h
  refine V_sld (zdk tbL_15_ok 6 rfl) (fun ξ hξ => by rw [hξ.2]; exact inN_in b2) (fun ξ hξ => by rw [hξ.1]) ?_
  obtain ⟨μ4, r5, q3, h⟩ := bd2_some h
  refine V_callV (R1 := (rmd 6)) (As := [.int (xs (v3 + (1 : Int32)).toNatClampNeg), .int (xs (v3 + (2 : Int32)).toNatClampNeg)]) (r := (some (.int r5))) (zdk tbL_15_ok 7 rfl) sCL_131 (tX6_judge q3) (c_v1) rfl rfl rfl ⟨Nat.le_of_ble_eq_true rfl, Nat.le_of_ble_eq_true rfl⟩ (Nat.le_of_ble_eq_true rfl) ⟨rfl, rfl⟩ id ?_
  refine V_aload_n 2 (zdk tbL_15_ok 8 rfl) rfl ?_
  refine V_aload_n 0 (zdk tbL_15_ok 9 rfl) rfl ?_
  refine V_iload_n 3 (zdk tbL_15_ok 10 rfl) rfl ?_
  refine V_iconst (v := 1) (zdk tbL_15_ok 11 rfl) rfl ?_
  refine V_iadd (zdk tbL_15_ok 12 rfl) ?_
  obtain ⟨b6, h⟩ := chk_some h
  refine V_sld (zdk tbL_15_ok 13 rfl) (fun ξ hξ => by rw [hξ.2]; exact inN_in b6) (fun ξ hξ => by rw [hξ.1]) ?_
  refine V_aload_n 0 (zdk tbL_15_ok 14 rfl) rfl ?_
  refine V_iload_n 3 (zdk tbL_15_ok 15 rfl) rfl ?_
  refine V_iconst (v := 2) (zdk tbL_15_ok 16 rfl) rfl ?_
  refine V_iadd (zdk tbL_15_ok 17 rfl) ?_
  obtain ⟨b7, h⟩ := chk_some h
  refine V_sld (zdk tbL_15_ok 18 rfl) (fun ξ hξ => by rw [hξ.2]; exact inN_in b7) (fun ξ hξ => by rw [hξ.1]) ?_
  obtain ⟨μ9, r10, q8, h⟩ := bd2_some h
  refine V_callV (R1 := (rmd 5)) (As := [.int (xs (v3 + (1 : Int32)).toNatClampNeg), .int (xs (v3 + (2 : Int32)).toNatClampNeg)]) (r := (some (.int r10))) (zdk tbL_15_ok 19 rfl) sCL_134 (tX7_judge q8) (c_v2) rfl rfl rfl ⟨Nat.le_of_ble_eq_true rfl, Nat.le_of_ble_eq_true rfl⟩ (Nat.le_of_ble_eq_true rfl) ⟨rfl, rfl⟩ id ?_
  refine V_icmp_eq (tgt := 1422) (zdk tbL_15_ok 20 rfl) (by decide) (fun c11 => ?_) (fun c11 => ?_)
  · replace h := ite_t h c11
    exact tL_b1422 hg18 v1 v2 v3 μ9 c_v1 c_v2 h
  · replace h := ite_f h c11
    refine V_iconst (v := 0) (zdk tbL_15_ok 21 rfl) rfl ?_
    cases h
def fL_b1073 (g18 : Nat → Nat → Int32 → ZMem → Option (ZMem)) (L : Nat) (xs : Nat → Int32) (n : Nat) (v1 : Nat) (v2 : Nat) (v3 : Int32) (μ : ZMem) : Option (ZMem) := chk (inN (v3 + (1 : Int32)) L) (bd2 (fX6_praise n v1 (xs (v3 + (1 : Int32)).toNatClampNeg) μ) (fun μ3 r4 => chk (inN (v3 + (1 : Int32)) L) (bd2 (fX7_praise n v2 (xs (v3 + (1 : Int32)).toNatClampNeg) μ3) (fun μ7 r8 => (if r4 = r8 then (fL_b1422 g18 L xs n v1 v2 v3 μ7) else none)))))
theorem tL_b1073 {l : Launch} {L : Nat} {xs : Nat → Int32} {n : Nat} {z : ZMem} {g18 : Nat → Nat → Int32 → ZMem → Option (ZMem)} (hg18 : ∀ (v1 : Nat) (v2 : Nat) (v3 : Int32) (μ : ZMem), isC n 6 v1 = true → isC n 7 v2 = true → g18 v1 v2 v3 μ = some z → V (zkL l L xs n z) false 18 [(0, .ref 1000), (1, .ref v1), (2, .ref v2), (3, .int v3)] [] n μ) (v1 : Nat) (v2 : Nat) (v3 : Int32) (μ : ZMem) (c_v1 : isC n 6 v1 = true) (c_v2 : isC n 7 v2 = true) (h : fL_b1073 g18 L xs n v1 v2 v3 μ = some z) : V (zkL l L xs n z) false 1073 [(0, .ref 1000), (1, .ref v1), (2, .ref v2), (3, .int v3)] [] n μ := by
  unfold fL_b1073 at h
  refine V_aload_n 1 (zdk tbL_14_ok 29 rfl) rfl ?_
  refine V_aload_n 0 (zdk tbL_14_ok 30 rfl) rfl ?_
  refine V_iload_n 3 (zdk tbL_14_ok 31 rfl) rfl ?_
  refine V_iconst (v := 1) (zdk tbL_14_ok 32 rfl) rfl ?_
  refine V_iadd (zdk tbL_14_ok 33 rfl) ?_
  obtain ⟨b1, h⟩ := chk_some h
  refine V_sld (zdk tbL_14_ok 34 rfl) (fun ξ hξ => by rw [hξ.2]; exact inN_in b1) (fun ξ hξ => by rw [hξ.1]) ?_
  obtain ⟨μ3, r4, q2, h⟩ := bd2_some h
  refine V_callV (R1 := (rmd 7)) (As := [.int (xs (v3 + (1 : Int32)).toNatClampNeg)]) (r := (some (.int r4))) (zdk tbL_14_ok 35 rfl) sCL_127 (tX6_praise q2) (c_v1) rfl rfl rfl ⟨Nat.le_of_ble_eq_true rfl, Nat.le_of_ble_eq_true rfl⟩ (Nat.le_of_ble_eq_true rfl) ⟨rfl, rfl⟩ id ?_
  refine V_aload_n 2 (zdk tbL_14_ok 36 rfl) rfl ?_
  refine V_aload_n 0 (zdk tbL_14_ok 37 rfl) rfl ?_
  refine V_iload_n 3 (zdk tbL_14_ok 38 rfl) rfl ?_
  refine V_iconst (v := 1) (zdk tbL_14_ok 39 rfl) rfl ?_
  refine V_iadd (zdk tbL_14_ok 40 rfl) ?_
  obtain ⟨b5, h⟩ := chk_some h
  refine V_sld (zdk tbL_14_ok 41 rfl) (fun ξ hξ => by rw [hξ.2]; exact inN_in b5) (fun ξ hξ => by rw [hξ.1]) ?_
  obtain ⟨μ7, r8, q6, h⟩ := bd2_some h
  refine V_callV (R1 := (rmd 6)) (As := [.int (xs (v3 + (1 : Int32)).toNatClampNeg)]) (r := (some (.int r8))) (zdk tbL_14_ok 42 rfl) sCL_130 (tX7_praise q6) (c_v2) rfl rfl rfl ⟨Nat.le_of_ble_eq_true rfl, Nat.le_of_ble_eq_true rfl⟩ (Nat.le_of_ble_eq_true rfl) ⟨rfl, rfl⟩ id ?_
  refine V_icmp_eq (tgt := 1422) (zdk tbL_14_ok 43 rfl) (by decide) (fun c9 => ?_) (fun c9 => ?_)
  · replace h := ite_t h c9
    exact tL_b1422 hg18 v1 v2 v3 μ7 c_v1 c_v2 h
  · replace h := ite_f h c9
    refine V_iconst (v := 0) (zdk tbL_14_ok 44 rfl) rfl ?_
    cases h
def fL_b1040 (g18 : Nat → Nat → Int32 → ZMem → Option (ZMem)) (L : Nat) (xs : Nat → Int32) (n : Nat) (v1 : Nat) (v2 : Nat) (v3 : Int32) (μ : ZMem) : Option (ZMem) := chk (inN (v3 + (1 : Int32)) L) (chk (inN (v3 + (2 : Int32)) L) (bd2 (fX6_weights n v1 (xs (v3 + (1 : Int32)).toNatClampNeg) (xs (v3 + (2 : Int32)).toNatClampNeg) μ) (fun μ4 r5 => chk (inN (v3 + (1 : Int32)) L) (chk (inN (v3 + (2 : Int32)) L) (bd2 (fX7_weights n v2 (xs (v3 + (1 : Int32)).toNatClampNeg) (xs (v3 + (2 : Int32)).toNatClampNeg) μ4) (fun μ9 r10 => (if r5 = r10 then (fL_b1422 g18 L xs n v1 v2 v3 μ9) else none)))))))
theorem tL_b1040 {l : Launch} {L : Nat} {xs : Nat → Int32} {n : Nat} {z : ZMem} {g18 : Nat → Nat → Int32 → ZMem → Option (ZMem)} (hg18 : ∀ (v1 : Nat) (v2 : Nat) (v3 : Int32) (μ : ZMem), isC n 6 v1 = true → isC n 7 v2 = true → g18 v1 v2 v3 μ = some z → V (zkL l L xs n z) false 18 [(0, .ref 1000), (1, .ref v1), (2, .ref v2), (3, .int v3)] [] n μ) (v1 : Nat) (v2 : Nat) (v3 : Int32) (μ : ZMem) (c_v1 : isC n 6 v1 = true) (c_v2 : isC n 7 v2 = true) (h : fL_b1040 g18 L xs n v1 v2 v3 μ = some z) : V (zkL l L xs n z) false 1040 [(0, .ref 1000), (1, .ref v1), (2, .ref v2), (3, .int v3)] [] n μ := by
  unfold fL_b1040 at h
  refine V_aload_n 1 (zdk tbL_14_ok 2 rfl) rfl ?_
  refine V_aload_n 0 (zdk tbL_14_ok 3 rfl) rfl ?_
  refine V_iload_n 3 (zdk tbL_14_ok 4 rfl) rfl ?_
  refine V_iconst (v := 1) (zdk tbL_14_ok 5 rfl) rfl ?_
  refine V_iadd (zdk tbL_14_ok 6 rfl) ?_
  obtain ⟨b1, h⟩ := chk_some h
  refine V_sld (zdk tbL_14_ok 7 rfl) (fun ξ hξ => by rw [hξ.2]; exact inN_in b1) (fun ξ hξ => by rw [hξ.1]) ?_
  refine V_aload_n 0 (zdk tbL_14_ok 8 rfl) rfl ?_
  refine V_iload_n 3 (zdk tbL_14_ok 9 rfl) rfl ?_
  refine V_iconst (v := 2) (zdk tbL_14_ok 10 rfl) rfl ?_
  refine V_iadd (zdk tbL_14_ok 11 rfl) ?_
  obtain ⟨b2, h⟩ := chk_some h
  refine V_sld (zdk tbL_14_ok 12 rfl) (fun ξ hξ => by rw [hξ.2]; exact inN_in b2) (fun ξ hξ => by rw [hξ.1]) ?_
  obtain ⟨μ4, r5, q3, h⟩ := bd2_some h
  refine V_callV (R1 := (rmd 7)) (As := [.int (xs (v3 + (1 : Int32)).toNatClampNeg), .int (xs (v3 + (2 : Int32)).toNatClampNeg)]) (r := (some (.int r5))) (zdk tbL_14_ok 13 rfl) sCL_123 (tX6_weights q3) (c_v1) rfl rfl rfl ⟨Nat.le_of_ble_eq_true rfl, Nat.le_of_ble_eq_true rfl⟩ (Nat.le_of_ble_eq_true rfl) ⟨rfl, rfl⟩ id ?_
  refine V_aload_n 2 (zdk tbL_14_ok 14 rfl) rfl ?_
  refine V_aload_n 0 (zdk tbL_14_ok 15 rfl) rfl ?_
  refine V_iload_n 3 (zdk tbL_14_ok 16 rfl) rfl ?_
  refine V_iconst (v := 1) (zdk tbL_14_ok 17 rfl) rfl ?_
  refine V_iadd (zdk tbL_14_ok 18 rfl) ?_
  obtain ⟨b6, h⟩ := chk_some h
  refine V_sld (zdk tbL_14_ok 19 rfl) (fun ξ hξ => by rw [hξ.2]; exact inN_in b6) (fun ξ hξ => by rw [hξ.1]) ?_
  refine V_aload_n 0 (zdk tbL_14_ok 20 rfl) rfl ?_
  refine V_iload_n 3 (zdk tbL_14_ok 21 rfl) rfl ?_
  refine V_iconst (v := 2) (zdk tbL_14_ok 22 rfl) rfl ?_
  refine V_iadd (zdk tbL_14_ok 23 rfl) ?_
  obtain ⟨b7, h⟩ := chk_some h
  refine V_sld (zdk tbL_14_ok 24 rfl) (fun ξ hξ => by rw [hξ.2]; exact inN_in b7) (fun ξ hξ => by rw [hξ.1]) ?_
  obtain ⟨μ9, r10, q8, h⟩ := bd2_some h
  refine V_callV (R1 := (rmd 6)) (As := [.int (xs (v3 + (1 : Int32)).toNatClampNeg), .int (xs (v3 + (2 : Int32)).toNatClampNeg)]) (r := (some (.int r10))) (zdk tbL_14_ok 25 rfl) sCL_126 (tX7_weights q8) (c_v2) rfl rfl rfl ⟨Nat.le_of_ble_eq_true rfl, Nat.le_of_ble_eq_true rfl⟩ (Nat.le_of_ble_eq_true rfl) ⟨rfl, rfl⟩ id ?_
  refine V_icmp_eq (tgt := 1422) (zdk tbL_14_ok 26 rfl) (by decide) (fun c11 => ?_) (fun c11 => ?_)
  · replace h := ite_t h c11
    exact tL_b1422 hg18 v1 v2 v3 μ9 c_v1 c_v2 h
  · replace h := ite_f h c11
    refine V_iconst (v := 0) (zdk tbL_14_ok 27 rfl) rfl ?_
    cases h
def fL_b1027 (g18 : Nat → Nat → Int32 → ZMem → Option (ZMem)) (L : Nat) (xs : Nat → Int32) (n : Nat) (v1 : Nat) (v2 : Nat) (v3 : Int32) (μ : ZMem) : Option (ZMem) := bd2 (fX6_without n v1 μ) (fun μ2 r3 => bd2 (fX7_without n v2 μ2) (fun μ5 r6 => (if r3 = r6 then (fL_b1422 g18 L xs n v1 v2 v3 μ5) else none)))
theorem tL_b1027 {l : Launch} {L : Nat} {xs : Nat → Int32} {n : Nat} {z : ZMem} {g18 : Nat → Nat → Int32 → ZMem → Option (ZMem)} (hg18 : ∀ (v1 : Nat) (v2 : Nat) (v3 : Int32) (μ : ZMem), isC n 6 v1 = true → isC n 7 v2 = true → g18 v1 v2 v3 μ = some z → V (zkL l L xs n z) false 18 [(0, .ref 1000), (1, .ref v1), (2, .ref v2), (3, .int v3)] [] n μ) (v1 : Nat) (v2 : Nat) (v3 : Int32) (μ : ZMem) (c_v1 : isC n 6 v1 = true) (c_v2 : isC n 7 v2 = true) (h : fL_b1027 g18 L xs n v1 v2 v3 μ = some z) : V (zkL l L xs n z) false 1027 [(0, .ref 1000), (1, .ref v1), (2, .ref v2), (3, .int v3)] [] n μ := by
  unfold fL_b1027 at h
  refine V_aload_n 1 (zdk tbL_13_ok 45 rfl) rfl ?_
  obtain ⟨μ2, r3, q1, h⟩ := bd2_some h
  refine V_callV (R1 := (rmd 6)) (As := []) (r := (some (.int r3))) (zdk tbL_13_ok 46 rfl) sCL_119 (tX6_without q1) (c_v1) rfl rfl rfl ⟨Nat.le_of_ble_eq_true rfl, Nat.le_of_ble_eq_true rfl⟩ (Nat.le_of_ble_eq_true rfl) ⟨rfl, rfl⟩ id ?_
  refine V_aload_n 2 (zdk tbL_13_ok 47 rfl) rfl ?_
  obtain ⟨μ5, r6, q4, h⟩ := bd2_some h
  refine V_callV (R1 := (rmd 6)) (As := []) (r := (some (.int r6))) (zdk tbL_13_ok 48 rfl) sCL_122 (tX7_without q4) (c_v2) rfl rfl rfl ⟨Nat.le_of_ble_eq_true rfl, Nat.le_of_ble_eq_true rfl⟩ (Nat.le_of_ble_eq_true rfl) ⟨rfl, rfl⟩ id ?_
  refine V_icmp_eq (tgt := 1422) (zdk tbL_13_ok 49 rfl) (by decide) (fun c7 => ?_) (fun c7 => ?_)
  · replace h := ite_t h c7
    exact tL_b1422 hg18 v1 v2 v3 μ5 c_v1 c_v2 h
  · replace h := ite_f h c7
    refine V_iconst (v := 0) (zdk tbL_14_ok 0 rfl) rfl ?_
    cases h
def fL_b994 (g18 : Nat → Nat → Int32 → ZMem → Option (ZMem)) (L : Nat) (xs : Nat → Int32) (n : Nat) (v1 : Nat) (v2 : Nat) (v3 : Int32) (μ : ZMem) : Option (ZMem) := chk (inN (v3 + (1 : Int32)) L) (chk (inN (v3 + (2 : Int32)) L) (bd2 (fX6_borne n v1 (xs (v3 + (1 : Int32)).toNatClampNeg) (xs (v3 + (2 : Int32)).toNatClampNeg) μ) (fun μ4 r5 => chk (inN (v3 + (1 : Int32)) L) (chk (inN (v3 + (2 : Int32)) L) (bd2 (fX7_borne n v2 (xs (v3 + (1 : Int32)).toNatClampNeg) (xs (v3 + (2 : Int32)).toNatClampNeg) μ4) (fun μ9 r10 => (if r5 = r10 then (fL_b1422 g18 L xs n v1 v2 v3 μ9) else none)))))))
theorem tL_b994 {l : Launch} {L : Nat} {xs : Nat → Int32} {n : Nat} {z : ZMem} {g18 : Nat → Nat → Int32 → ZMem → Option (ZMem)} (hg18 : ∀ (v1 : Nat) (v2 : Nat) (v3 : Int32) (μ : ZMem), isC n 6 v1 = true → isC n 7 v2 = true → g18 v1 v2 v3 μ = some z → V (zkL l L xs n z) false 18 [(0, .ref 1000), (1, .ref v1), (2, .ref v2), (3, .int v3)] [] n μ) (v1 : Nat) (v2 : Nat) (v3 : Int32) (μ : ZMem) (c_v1 : isC n 6 v1 = true) (c_v2 : isC n 7 v2 = true) (h : fL_b994 g18 L xs n v1 v2 v3 μ = some z) : V (zkL l L xs n z) false 994 [(0, .ref 1000), (1, .ref v1), (2, .ref v2), (3, .int v3)] [] n μ := by
  unfold fL_b994 at h
  refine V_aload_n 1 (zdk tbL_13_ok 18 rfl) rfl ?_
  refine V_aload_n 0 (zdk tbL_13_ok 19 rfl) rfl ?_
  refine V_iload_n 3 (zdk tbL_13_ok 20 rfl) rfl ?_
  refine V_iconst (v := 1) (zdk tbL_13_ok 21 rfl) rfl ?_
  refine V_iadd (zdk tbL_13_ok 22 rfl) ?_
  obtain ⟨b1, h⟩ := chk_some h
  refine V_sld (zdk tbL_13_ok 23 rfl) (fun ξ hξ => by rw [hξ.2]; exact inN_in b1) (fun ξ hξ => by rw [hξ.1]) ?_
  refine V_aload_n 0 (zdk tbL_13_ok 24 rfl) rfl ?_
  refine V_iload_n 3 (zdk tbL_13_ok 25 rfl) rfl ?_
  refine V_iconst (v := 2) (zdk tbL_13_ok 26 rfl) rfl ?_
  refine V_iadd (zdk tbL_13_ok 27 rfl) ?_
  obtain ⟨b2, h⟩ := chk_some h
  refine V_sld (zdk tbL_13_ok 28 rfl) (fun ξ hξ => by rw [hξ.2]; exact inN_in b2) (fun ξ hξ => by rw [hξ.1]) ?_
  obtain ⟨μ4, r5, q3, h⟩ := bd2_some h
  refine V_callV (R1 := (rmd 6)) (As := [.int (xs (v3 + (1 : Int32)).toNatClampNeg), .int (xs (v3 + (2 : Int32)).toNatClampNeg)]) (r := (some (.int r5))) (zdk tbL_13_ok 29 rfl) sCL_115 (tX6_borne q3) (c_v1) rfl rfl rfl ⟨Nat.le_of_ble_eq_true rfl, Nat.le_of_ble_eq_true rfl⟩ (Nat.le_of_ble_eq_true rfl) ⟨rfl, rfl⟩ id ?_
  refine V_aload_n 2 (zdk tbL_13_ok 30 rfl) rfl ?_
  refine V_aload_n 0 (zdk tbL_13_ok 31 rfl) rfl ?_
  refine V_iload_n 3 (zdk tbL_13_ok 32 rfl) rfl ?_
  refine V_iconst (v := 1) (zdk tbL_13_ok 33 rfl) rfl ?_
  refine V_iadd (zdk tbL_13_ok 34 rfl) ?_
  obtain ⟨b6, h⟩ := chk_some h
  refine V_sld (zdk tbL_13_ok 35 rfl) (fun ξ hξ => by rw [hξ.2]; exact inN_in b6) (fun ξ hξ => by rw [hξ.1]) ?_
  refine V_aload_n 0 (zdk tbL_13_ok 36 rfl) rfl ?_
  refine V_iload_n 3 (zdk tbL_13_ok 37 rfl) rfl ?_
  refine V_iconst (v := 2) (zdk tbL_13_ok 38 rfl) rfl ?_
  refine V_iadd (zdk tbL_13_ok 39 rfl) ?_
  obtain ⟨b7, h⟩ := chk_some h
  refine V_sld (zdk tbL_13_ok 40 rfl) (fun ξ hξ => by rw [hξ.2]; exact inN_in b7) (fun ξ hξ => by rw [hξ.1]) ?_
  obtain ⟨μ9, r10, q8, h⟩ := bd2_some h
  refine V_callV (R1 := (rmd 5)) (As := [.int (xs (v3 + (1 : Int32)).toNatClampNeg), .int (xs (v3 + (2 : Int32)).toNatClampNeg)]) (r := (some (.int r10))) (zdk tbL_13_ok 41 rfl) sCL_118 (tX7_borne q8) (c_v2) rfl rfl rfl ⟨Nat.le_of_ble_eq_true rfl, Nat.le_of_ble_eq_true rfl⟩ (Nat.le_of_ble_eq_true rfl) ⟨rfl, rfl⟩ id ?_
  refine V_icmp_eq (tgt := 1422) (zdk tbL_13_ok 42 rfl) (by decide) (fun c11 => ?_) (fun c11 => ?_)
  · replace h := ite_t h c11
    exact tL_b1422 hg18 v1 v2 v3 μ9 c_v1 c_v2 h
  · replace h := ite_f h c11
    refine V_iconst (v := 0) (zdk tbL_13_ok 43 rfl) rfl ?_
    cases h
def fL_b961 (g18 : Nat → Nat → Int32 → ZMem → Option (ZMem)) (L : Nat) (xs : Nat → Int32) (n : Nat) (v1 : Nat) (v2 : Nat) (v3 : Int32) (μ : ZMem) : Option (ZMem) := chk (inN (v3 + (1 : Int32)) L) (chk (inN (v3 + (2 : Int32)) L) (bd2 (fX6_clash n v1 (xs (v3 + (1 : Int32)).toNatClampNeg) (xs (v3 + (2 : Int32)).toNatClampNeg) μ) (fun μ4 r5 => chk (inN (v3 + (1 : Int32)) L) (chk (inN (v3 + (2 : Int32)) L) (bd2 (fX7_clash n v2 (xs (v3 + (1 : Int32)).toNatClampNeg) (xs (v3 + (2 : Int32)).toNatClampNeg) μ4) (fun μ9 r10 => (if r5 = r10 then (fL_b1422 g18 L xs n v1 v2 v3 μ9) else none)))))))
theorem tL_b961 {l : Launch} {L : Nat} {xs : Nat → Int32} {n : Nat} {z : ZMem} {g18 : Nat → Nat → Int32 → ZMem → Option (ZMem)} (hg18 : ∀ (v1 : Nat) (v2 : Nat) (v3 : Int32) (μ : ZMem), isC n 6 v1 = true → isC n 7 v2 = true → g18 v1 v2 v3 μ = some z → V (zkL l L xs n z) false 18 [(0, .ref 1000), (1, .ref v1), (2, .ref v2), (3, .int v3)] [] n μ) (v1 : Nat) (v2 : Nat) (v3 : Int32) (μ : ZMem) (c_v1 : isC n 6 v1 = true) (c_v2 : isC n 7 v2 = true) (h : fL_b961 g18 L xs n v1 v2 v3 μ = some z) : V (zkL l L xs n z) false 961 [(0, .ref 1000), (1, .ref v1), (2, .ref v2), (3, .int v3)] [] n μ := by
  unfold fL_b961 at h
  refine V_aload_n 1 (zdk tbL_12_ok 41 rfl) rfl ?_
  refine V_aload_n 0 (zdk tbL_12_ok 42 rfl) rfl ?_
  refine V_iload_n 3 (zdk tbL_12_ok 43 rfl) rfl ?_
  refine V_iconst (v := 1) (zdk tbL_12_ok 44 rfl) rfl ?_
  refine V_iadd (zdk tbL_12_ok 45 rfl) ?_
  obtain ⟨b1, h⟩ := chk_some h
  refine V_sld (zdk tbL_12_ok 46 rfl) (fun ξ hξ => by rw [hξ.2]; exact inN_in b1) (fun ξ hξ => by rw [hξ.1]) ?_
  refine V_aload_n 0 (zdk tbL_12_ok 47 rfl) rfl ?_
  refine V_iload_n 3 (zdk tbL_12_ok 48 rfl) rfl ?_
  refine V_iconst (v := 2) (zdk tbL_12_ok 49 rfl) rfl ?_
  refine V_iadd (zdk tbL_13_ok 0 rfl) ?_
  obtain ⟨b2, h⟩ := chk_some h
  refine V_sld (zdk tbL_13_ok 1 rfl) (fun ξ hξ => by rw [hξ.2]; exact inN_in b2) (fun ξ hξ => by rw [hξ.1]) ?_
  obtain ⟨μ4, r5, q3, h⟩ := bd2_some h
  refine V_callV (R1 := (rmd 6)) (As := [.int (xs (v3 + (1 : Int32)).toNatClampNeg), .int (xs (v3 + (2 : Int32)).toNatClampNeg)]) (r := (some (.int r5))) (zdk tbL_13_ok 2 rfl) sCL_111 (tX6_clash q3) (c_v1) rfl rfl rfl ⟨Nat.le_of_ble_eq_true rfl, Nat.le_of_ble_eq_true rfl⟩ (Nat.le_of_ble_eq_true rfl) ⟨rfl, rfl⟩ id ?_
  refine V_aload_n 2 (zdk tbL_13_ok 3 rfl) rfl ?_
  refine V_aload_n 0 (zdk tbL_13_ok 4 rfl) rfl ?_
  refine V_iload_n 3 (zdk tbL_13_ok 5 rfl) rfl ?_
  refine V_iconst (v := 1) (zdk tbL_13_ok 6 rfl) rfl ?_
  refine V_iadd (zdk tbL_13_ok 7 rfl) ?_
  obtain ⟨b6, h⟩ := chk_some h
  refine V_sld (zdk tbL_13_ok 8 rfl) (fun ξ hξ => by rw [hξ.2]; exact inN_in b6) (fun ξ hξ => by rw [hξ.1]) ?_
  refine V_aload_n 0 (zdk tbL_13_ok 9 rfl) rfl ?_
  refine V_iload_n 3 (zdk tbL_13_ok 10 rfl) rfl ?_
  refine V_iconst (v := 2) (zdk tbL_13_ok 11 rfl) rfl ?_
  refine V_iadd (zdk tbL_13_ok 12 rfl) ?_
  obtain ⟨b7, h⟩ := chk_some h
  refine V_sld (zdk tbL_13_ok 13 rfl) (fun ξ hξ => by rw [hξ.2]; exact inN_in b7) (fun ξ hξ => by rw [hξ.1]) ?_
  obtain ⟨μ9, r10, q8, h⟩ := bd2_some h
  refine V_callV (R1 := (rmd 4)) (As := [.int (xs (v3 + (1 : Int32)).toNatClampNeg), .int (xs (v3 + (2 : Int32)).toNatClampNeg)]) (r := (some (.int r10))) (zdk tbL_13_ok 14 rfl) sCL_114 (tX7_clash q8) (c_v2) rfl rfl rfl ⟨Nat.le_of_ble_eq_true rfl, Nat.le_of_ble_eq_true rfl⟩ (Nat.le_of_ble_eq_true rfl) ⟨rfl, rfl⟩ id ?_
  refine V_icmp_eq (tgt := 1422) (zdk tbL_13_ok 15 rfl) (by decide) (fun c11 => ?_) (fun c11 => ?_)
  · replace h := ite_t h c11
    exact tL_b1422 hg18 v1 v2 v3 μ9 c_v1 c_v2 h
  · replace h := ite_f h c11
    refine V_iconst (v := 0) (zdk tbL_13_ok 16 rfl) rfl ?_
    cases h
def fL_b918 (g18 : Nat → Nat → Int32 → ZMem → Option (ZMem)) (L : Nat) (xs : Nat → Int32) (n : Nat) (v1 : Nat) (v2 : Nat) (v3 : Int32) (μ : ZMem) : Option (ZMem) := chk (inN (v3 + (1 : Int32)) L) (chk (inN (v3 + (2 : Int32)) L) (chk (inN (v3 + (3 : Int32)) L) (bd2 (fX6_cases n v1 (xs (v3 + (1 : Int32)).toNatClampNeg) (xs (v3 + (2 : Int32)).toNatClampNeg) (xs (v3 + (3 : Int32)).toNatClampNeg) μ) (fun μ5 r6 => chk (inN (v3 + (1 : Int32)) L) (chk (inN (v3 + (2 : Int32)) L) (chk (inN (v3 + (3 : Int32)) L) (bd2 (fX7_cases n v2 (xs (v3 + (1 : Int32)).toNatClampNeg) (xs (v3 + (2 : Int32)).toNatClampNeg) (xs (v3 + (3 : Int32)).toNatClampNeg) μ5) (fun μ11 r12 => (if r6 = r12 then (fL_b1422 g18 L xs n v1 v2 v3 μ11) else none)))))))))
theorem tL_b918 {l : Launch} {L : Nat} {xs : Nat → Int32} {n : Nat} {z : ZMem} {g18 : Nat → Nat → Int32 → ZMem → Option (ZMem)} (hg18 : ∀ (v1 : Nat) (v2 : Nat) (v3 : Int32) (μ : ZMem), isC n 6 v1 = true → isC n 7 v2 = true → g18 v1 v2 v3 μ = some z → V (zkL l L xs n z) false 18 [(0, .ref 1000), (1, .ref v1), (2, .ref v2), (3, .int v3)] [] n μ) (v1 : Nat) (v2 : Nat) (v3 : Int32) (μ : ZMem) (c_v1 : isC n 6 v1 = true) (c_v2 : isC n 7 v2 = true) (h : fL_b918 g18 L xs n v1 v2 v3 μ = some z) : V (zkL l L xs n z) false 918 [(0, .ref 1000), (1, .ref v1), (2, .ref v2), (3, .int v3)] [] n μ := by
  unfold fL_b918 at h
  refine V_aload_n 1 (zdk tbL_12_ok 4 rfl) rfl ?_
  refine V_aload_n 0 (zdk tbL_12_ok 5 rfl) rfl ?_
  refine V_iload_n 3 (zdk tbL_12_ok 6 rfl) rfl ?_
  refine V_iconst (v := 1) (zdk tbL_12_ok 7 rfl) rfl ?_
  refine V_iadd (zdk tbL_12_ok 8 rfl) ?_
  obtain ⟨b1, h⟩ := chk_some h
  refine V_sld (zdk tbL_12_ok 9 rfl) (fun ξ hξ => by rw [hξ.2]; exact inN_in b1) (fun ξ hξ => by rw [hξ.1]) ?_
  refine V_aload_n 0 (zdk tbL_12_ok 10 rfl) rfl ?_
  refine V_iload_n 3 (zdk tbL_12_ok 11 rfl) rfl ?_
  refine V_iconst (v := 2) (zdk tbL_12_ok 12 rfl) rfl ?_
  refine V_iadd (zdk tbL_12_ok 13 rfl) ?_
  obtain ⟨b2, h⟩ := chk_some h
  refine V_sld (zdk tbL_12_ok 14 rfl) (fun ξ hξ => by rw [hξ.2]; exact inN_in b2) (fun ξ hξ => by rw [hξ.1]) ?_
  refine V_aload_n 0 (zdk tbL_12_ok 15 rfl) rfl ?_
  refine V_iload_n 3 (zdk tbL_12_ok 16 rfl) rfl ?_
  refine V_iconst (v := 3) (zdk tbL_12_ok 17 rfl) rfl ?_
  refine V_iadd (zdk tbL_12_ok 18 rfl) ?_
  obtain ⟨b3, h⟩ := chk_some h
  refine V_sld (zdk tbL_12_ok 19 rfl) (fun ξ hξ => by rw [hξ.2]; exact inN_in b3) (fun ξ hξ => by rw [hξ.1]) ?_
  obtain ⟨μ5, r6, q4, h⟩ := bd2_some h
  refine V_callV (R1 := (rmd 6)) (As := [.int (xs (v3 + (1 : Int32)).toNatClampNeg), .int (xs (v3 + (2 : Int32)).toNatClampNeg), .int (xs (v3 + (3 : Int32)).toNatClampNeg)]) (r := (some (.int r6))) (zdk tbL_12_ok 20 rfl) sCL_107 (tX6_cases q4) (c_v1) rfl rfl rfl ⟨Nat.le_of_ble_eq_true rfl, Nat.le_of_ble_eq_true rfl⟩ (Nat.le_of_ble_eq_true rfl) ⟨rfl, rfl⟩ id ?_
  refine V_aload_n 2 (zdk tbL_12_ok 21 rfl) rfl ?_
  refine V_aload_n 0 (zdk tbL_12_ok 22 rfl) rfl ?_
  refine V_iload_n 3 (zdk tbL_12_ok 23 rfl) rfl ?_
  refine V_iconst (v := 1) (zdk tbL_12_ok 24 rfl) rfl ?_
  refine V_iadd (zdk tbL_12_ok 25 rfl) ?_
  obtain ⟨b7, h⟩ := chk_some h
  refine V_sld (zdk tbL_12_ok 26 rfl) (fun ξ hξ => by rw [hξ.2]; exact inN_in b7) (fun ξ hξ => by rw [hξ.1]) ?_
  refine V_aload_n 0 (zdk tbL_12_ok 27 rfl) rfl ?_
  refine V_iload_n 3 (zdk tbL_12_ok 28 rfl) rfl ?_
  refine V_iconst (v := 2) (zdk tbL_12_ok 29 rfl) rfl ?_
  refine V_iadd (zdk tbL_12_ok 30 rfl) ?_
  obtain ⟨b8, h⟩ := chk_some h
  refine V_sld (zdk tbL_12_ok 31 rfl) (fun ξ hξ => by rw [hξ.2]; exact inN_in b8) (fun ξ hξ => by rw [hξ.1]) ?_
  refine V_aload_n 0 (zdk tbL_12_ok 32 rfl) rfl ?_
  refine V_iload_n 3 (zdk tbL_12_ok 33 rfl) rfl ?_
  refine V_iconst (v := 3) (zdk tbL_12_ok 34 rfl) rfl ?_
  refine V_iadd (zdk tbL_12_ok 35 rfl) ?_
  obtain ⟨b9, h⟩ := chk_some h
  refine V_sld (zdk tbL_12_ok 36 rfl) (fun ξ hξ => by rw [hξ.2]; exact inN_in b9) (fun ξ hξ => by rw [hξ.1]) ?_
  obtain ⟨μ11, r12, q10, h⟩ := bd2_some h
  refine V_callV (R1 := (rmd 4)) (As := [.int (xs (v3 + (1 : Int32)).toNatClampNeg), .int (xs (v3 + (2 : Int32)).toNatClampNeg), .int (xs (v3 + (3 : Int32)).toNatClampNeg)]) (r := (some (.int r12))) (zdk tbL_12_ok 37 rfl) sCL_110 (tX7_cases q10) (c_v2) rfl rfl rfl ⟨Nat.le_of_ble_eq_true rfl, Nat.le_of_ble_eq_true rfl⟩ (Nat.le_of_ble_eq_true rfl) ⟨rfl, rfl⟩ id ?_
  refine V_icmp_eq (tgt := 1422) (zdk tbL_12_ok 38 rfl) (by decide) (fun c13 => ?_) (fun c13 => ?_)
  · replace h := ite_t h c13
    exact tL_b1422 hg18 v1 v2 v3 μ11 c_v1 c_v2 h
  · replace h := ite_f h c13
    refine V_iconst (v := 0) (zdk tbL_12_ok 39 rfl) rfl ?_
    cases h
def fL_b875 (g18 : Nat → Nat → Int32 → ZMem → Option (ZMem)) (L : Nat) (xs : Nat → Int32) (n : Nat) (v1 : Nat) (v2 : Nat) (v3 : Int32) (μ : ZMem) : Option (ZMem) := chk (inN (v3 + (1 : Int32)) L) (chk (inN (v3 + (2 : Int32)) L) (chk (inN (v3 + (3 : Int32)) L) (bd2 (fX6_relay n v1 (xs (v3 + (1 : Int32)).toNatClampNeg) (xs (v3 + (2 : Int32)).toNatClampNeg) (xs (v3 + (3 : Int32)).toNatClampNeg) μ) (fun μ5 r6 => chk (inN (v3 + (1 : Int32)) L) (chk (inN (v3 + (2 : Int32)) L) (chk (inN (v3 + (3 : Int32)) L) (bd2 (fX7_relay n v2 (xs (v3 + (1 : Int32)).toNatClampNeg) (xs (v3 + (2 : Int32)).toNatClampNeg) (xs (v3 + (3 : Int32)).toNatClampNeg) μ5) (fun μ11 r12 => (if r6 = r12 then (fL_b1422 g18 L xs n v1 v2 v3 μ11) else none)))))))))
theorem tL_b875 {l : Launch} {L : Nat} {xs : Nat → Int32} {n : Nat} {z : ZMem} {g18 : Nat → Nat → Int32 → ZMem → Option (ZMem)} (hg18 : ∀ (v1 : Nat) (v2 : Nat) (v3 : Int32) (μ : ZMem), isC n 6 v1 = true → isC n 7 v2 = true → g18 v1 v2 v3 μ = some z → V (zkL l L xs n z) false 18 [(0, .ref 1000), (1, .ref v1), (2, .ref v2), (3, .int v3)] [] n μ) (v1 : Nat) (v2 : Nat) (v3 : Int32) (μ : ZMem) (c_v1 : isC n 6 v1 = true) (c_v2 : isC n 7 v2 = true) (h : fL_b875 g18 L xs n v1 v2 v3 μ = some z) : V (zkL l L xs n z) false 875 [(0, .ref 1000), (1, .ref v1), (2, .ref v2), (3, .int v3)] [] n μ := by
  unfold fL_b875 at h
  refine V_aload_n 1 (zdk tbL_11_ok 17 rfl) rfl ?_
  refine V_aload_n 0 (zdk tbL_11_ok 18 rfl) rfl ?_
  refine V_iload_n 3 (zdk tbL_11_ok 19 rfl) rfl ?_
  refine V_iconst (v := 1) (zdk tbL_11_ok 20 rfl) rfl ?_
  refine V_iadd (zdk tbL_11_ok 21 rfl) ?_
  obtain ⟨b1, h⟩ := chk_some h
  refine V_sld (zdk tbL_11_ok 22 rfl) (fun ξ hξ => by rw [hξ.2]; exact inN_in b1) (fun ξ hξ => by rw [hξ.1]) ?_
  refine V_aload_n 0 (zdk tbL_11_ok 23 rfl) rfl ?_
  refine V_iload_n 3 (zdk tbL_11_ok 24 rfl) rfl ?_
  refine V_iconst (v := 2) (zdk tbL_11_ok 25 rfl) rfl ?_
  refine V_iadd (zdk tbL_11_ok 26 rfl) ?_
  obtain ⟨b2, h⟩ := chk_some h
  refine V_sld (zdk tbL_11_ok 27 rfl) (fun ξ hξ => by rw [hξ.2]; exact inN_in b2) (fun ξ hξ => by rw [hξ.1]) ?_
  refine V_aload_n 0 (zdk tbL_11_ok 28 rfl) rfl ?_
  refine V_iload_n 3 (zdk tbL_11_ok 29 rfl) rfl ?_
  refine V_iconst (v := 3) (zdk tbL_11_ok 30 rfl) rfl ?_
  refine V_iadd (zdk tbL_11_ok 31 rfl) ?_
  obtain ⟨b3, h⟩ := chk_some h
  refine V_sld (zdk tbL_11_ok 32 rfl) (fun ξ hξ => by rw [hξ.2]; exact inN_in b3) (fun ξ hξ => by rw [hξ.1]) ?_
  obtain ⟨μ5, r6, q4, h⟩ := bd2_some h
  refine V_callV (R1 := (rmd 48)) (As := [.int (xs (v3 + (1 : Int32)).toNatClampNeg), .int (xs (v3 + (2 : Int32)).toNatClampNeg), .int (xs (v3 + (3 : Int32)).toNatClampNeg)]) (r := (some (.int r6))) (zdk tbL_11_ok 33 rfl) sCL_103 (tX6_relay q4) (c_v1) rfl rfl rfl ⟨Nat.le_of_ble_eq_true rfl, Nat.le_of_ble_eq_true rfl⟩ (Nat.le_of_ble_eq_true rfl) ⟨rfl, rfl⟩ id ?_
  refine V_aload_n 2 (zdk tbL_11_ok 34 rfl) rfl ?_
  refine V_aload_n 0 (zdk tbL_11_ok 35 rfl) rfl ?_
  refine V_iload_n 3 (zdk tbL_11_ok 36 rfl) rfl ?_
  refine V_iconst (v := 1) (zdk tbL_11_ok 37 rfl) rfl ?_
  refine V_iadd (zdk tbL_11_ok 38 rfl) ?_
  obtain ⟨b7, h⟩ := chk_some h
  refine V_sld (zdk tbL_11_ok 39 rfl) (fun ξ hξ => by rw [hξ.2]; exact inN_in b7) (fun ξ hξ => by rw [hξ.1]) ?_
  refine V_aload_n 0 (zdk tbL_11_ok 40 rfl) rfl ?_
  refine V_iload_n 3 (zdk tbL_11_ok 41 rfl) rfl ?_
  refine V_iconst (v := 2) (zdk tbL_11_ok 42 rfl) rfl ?_
  refine V_iadd (zdk tbL_11_ok 43 rfl) ?_
  obtain ⟨b8, h⟩ := chk_some h
  refine V_sld (zdk tbL_11_ok 44 rfl) (fun ξ hξ => by rw [hξ.2]; exact inN_in b8) (fun ξ hξ => by rw [hξ.1]) ?_
  refine V_aload_n 0 (zdk tbL_11_ok 45 rfl) rfl ?_
  refine V_iload_n 3 (zdk tbL_11_ok 46 rfl) rfl ?_
  refine V_iconst (v := 3) (zdk tbL_11_ok 47 rfl) rfl ?_
  refine V_iadd (zdk tbL_11_ok 48 rfl) ?_
  obtain ⟨b9, h⟩ := chk_some h
  refine V_sld (zdk tbL_11_ok 49 rfl) (fun ξ hξ => by rw [hξ.2]; exact inN_in b9) (fun ξ hξ => by rw [hξ.1]) ?_
  obtain ⟨μ11, r12, q10, h⟩ := bd2_some h
  refine V_callV (R1 := (rmd 47)) (As := [.int (xs (v3 + (1 : Int32)).toNatClampNeg), .int (xs (v3 + (2 : Int32)).toNatClampNeg), .int (xs (v3 + (3 : Int32)).toNatClampNeg)]) (r := (some (.int r12))) (zdk tbL_12_ok 0 rfl) sCL_106 (tX7_relay q10) (c_v2) rfl rfl rfl ⟨Nat.le_of_ble_eq_true rfl, Nat.le_of_ble_eq_true rfl⟩ (Nat.le_of_ble_eq_true rfl) ⟨rfl, rfl⟩ id ?_
  refine V_icmp_eq (tgt := 1422) (zdk tbL_12_ok 1 rfl) (by decide) (fun c13 => ?_) (fun c13 => ?_)
  · replace h := ite_t h c13
    exact tL_b1422 hg18 v1 v2 v3 μ11 c_v1 c_v2 h
  · replace h := ite_f h c13
    refine V_iconst (v := 0) (zdk tbL_12_ok 2 rfl) rfl ?_
    cases h
def fL_b842 (g18 : Nat → Nat → Int32 → ZMem → Option (ZMem)) (L : Nat) (xs : Nat → Int32) (n : Nat) (v1 : Nat) (v2 : Nat) (v3 : Int32) (μ : ZMem) : Option (ZMem) := chk (inN (v3 + (1 : Int32)) L) (chk (inN (v3 + (2 : Int32)) L) (bd2 (fX6_alone n v1 (xs (v3 + (1 : Int32)).toNatClampNeg) (xs (v3 + (2 : Int32)).toNatClampNeg) μ) (fun μ4 r5 => chk (inN (v3 + (1 : Int32)) L) (chk (inN (v3 + (2 : Int32)) L) (bd2 (fX7_alone n v2 (xs (v3 + (1 : Int32)).toNatClampNeg) (xs (v3 + (2 : Int32)).toNatClampNeg) μ4) (fun μ9 r10 => (if r5 = r10 then (fL_b1422 g18 L xs n v1 v2 v3 μ9) else none)))))))
theorem tL_b842 {l : Launch} {L : Nat} {xs : Nat → Int32} {n : Nat} {z : ZMem} {g18 : Nat → Nat → Int32 → ZMem → Option (ZMem)} (hg18 : ∀ (v1 : Nat) (v2 : Nat) (v3 : Int32) (μ : ZMem), isC n 6 v1 = true → isC n 7 v2 = true → g18 v1 v2 v3 μ = some z → V (zkL l L xs n z) false 18 [(0, .ref 1000), (1, .ref v1), (2, .ref v2), (3, .int v3)] [] n μ) (v1 : Nat) (v2 : Nat) (v3 : Int32) (μ : ZMem) (c_v1 : isC n 6 v1 = true) (c_v2 : isC n 7 v2 = true) (h : fL_b842 g18 L xs n v1 v2 v3 μ = some z) : V (zkL l L xs n z) false 842 [(0, .ref 1000), (1, .ref v1), (2, .ref v2), (3, .int v3)] [] n μ := by
  unfold fL_b842 at h
  refine V_aload_n 1 (zdk tbL_10_ok 40 rfl) rfl ?_
  refine V_aload_n 0 (zdk tbL_10_ok 41 rfl) rfl ?_
  refine V_iload_n 3 (zdk tbL_10_ok 42 rfl) rfl ?_
  refine V_iconst (v := 1) (zdk tbL_10_ok 43 rfl) rfl ?_
  refine V_iadd (zdk tbL_10_ok 44 rfl) ?_
  obtain ⟨b1, h⟩ := chk_some h
  refine V_sld (zdk tbL_10_ok 45 rfl) (fun ξ hξ => by rw [hξ.2]; exact inN_in b1) (fun ξ hξ => by rw [hξ.1]) ?_
  refine V_aload_n 0 (zdk tbL_10_ok 46 rfl) rfl ?_
  refine V_iload_n 3 (zdk tbL_10_ok 47 rfl) rfl ?_
  refine V_iconst (v := 2) (zdk tbL_10_ok 48 rfl) rfl ?_
  refine V_iadd (zdk tbL_10_ok 49 rfl) ?_
  obtain ⟨b2, h⟩ := chk_some h
  refine V_sld (zdk tbL_11_ok 0 rfl) (fun ξ hξ => by rw [hξ.2]; exact inN_in b2) (fun ξ hξ => by rw [hξ.1]) ?_
  obtain ⟨μ4, r5, q3, h⟩ := bd2_some h
  refine V_callV (R1 := (rmd 4)) (As := [.int (xs (v3 + (1 : Int32)).toNatClampNeg), .int (xs (v3 + (2 : Int32)).toNatClampNeg)]) (r := (some (.int r5))) (zdk tbL_11_ok 1 rfl) sCL_99 (tX6_alone q3) (c_v1) rfl rfl rfl ⟨Nat.le_of_ble_eq_true rfl, Nat.le_of_ble_eq_true rfl⟩ (Nat.le_of_ble_eq_true rfl) ⟨rfl, rfl⟩ id ?_
  refine V_aload_n 2 (zdk tbL_11_ok 2 rfl) rfl ?_
  refine V_aload_n 0 (zdk tbL_11_ok 3 rfl) rfl ?_
  refine V_iload_n 3 (zdk tbL_11_ok 4 rfl) rfl ?_
  refine V_iconst (v := 1) (zdk tbL_11_ok 5 rfl) rfl ?_
  refine V_iadd (zdk tbL_11_ok 6 rfl) ?_
  obtain ⟨b6, h⟩ := chk_some h
  refine V_sld (zdk tbL_11_ok 7 rfl) (fun ξ hξ => by rw [hξ.2]; exact inN_in b6) (fun ξ hξ => by rw [hξ.1]) ?_
  refine V_aload_n 0 (zdk tbL_11_ok 8 rfl) rfl ?_
  refine V_iload_n 3 (zdk tbL_11_ok 9 rfl) rfl ?_
  refine V_iconst (v := 2) (zdk tbL_11_ok 10 rfl) rfl ?_
  refine V_iadd (zdk tbL_11_ok 11 rfl) ?_
  obtain ⟨b7, h⟩ := chk_some h
  refine V_sld (zdk tbL_11_ok 12 rfl) (fun ξ hξ => by rw [hξ.2]; exact inN_in b7) (fun ξ hξ => by rw [hξ.1]) ?_
  obtain ⟨μ9, r10, q8, h⟩ := bd2_some h
  refine V_callV (R1 := (rmd 3)) (As := [.int (xs (v3 + (1 : Int32)).toNatClampNeg), .int (xs (v3 + (2 : Int32)).toNatClampNeg)]) (r := (some (.int r10))) (zdk tbL_11_ok 13 rfl) sCL_102 (tX7_alone q8) (c_v2) rfl rfl rfl ⟨Nat.le_of_ble_eq_true rfl, Nat.le_of_ble_eq_true rfl⟩ (Nat.le_of_ble_eq_true rfl) ⟨rfl, rfl⟩ id ?_
  refine V_icmp_eq (tgt := 1422) (zdk tbL_11_ok 14 rfl) (by decide) (fun c11 => ?_) (fun c11 => ?_)
  · replace h := ite_t h c11
    exact tL_b1422 hg18 v1 v2 v3 μ9 c_v1 c_v2 h
  · replace h := ite_f h c11
    refine V_iconst (v := 0) (zdk tbL_11_ok 15 rfl) rfl ?_
    cases h
def fL_b829 (g18 : Nat → Nat → Int32 → ZMem → Option (ZMem)) (L : Nat) (xs : Nat → Int32) (n : Nat) (v1 : Nat) (v2 : Nat) (v3 : Int32) (μ : ZMem) : Option (ZMem) := bd2 (fX6_over n v1 μ) (fun μ2 r3 => bd2 (fX7_over n v2 μ2) (fun μ5 r6 => (if r3 = r6 then (fL_b1422 g18 L xs n v1 v2 v3 μ5) else none)))
theorem tL_b829 {l : Launch} {L : Nat} {xs : Nat → Int32} {n : Nat} {z : ZMem} {g18 : Nat → Nat → Int32 → ZMem → Option (ZMem)} (hg18 : ∀ (v1 : Nat) (v2 : Nat) (v3 : Int32) (μ : ZMem), isC n 6 v1 = true → isC n 7 v2 = true → g18 v1 v2 v3 μ = some z → V (zkL l L xs n z) false 18 [(0, .ref 1000), (1, .ref v1), (2, .ref v2), (3, .int v3)] [] n μ) (v1 : Nat) (v2 : Nat) (v3 : Int32) (μ : ZMem) (c_v1 : isC n 6 v1 = true) (c_v2 : isC n 7 v2 = true) (h : fL_b829 g18 L xs n v1 v2 v3 μ = some z) : V (zkL l L xs n z) false 829 [(0, .ref 1000), (1, .ref v1), (2, .ref v2), (3, .int v3)] [] n μ := by
  unfold fL_b829 at h
  refine V_aload_n 1 (zdk tbL_10_ok 33 rfl) rfl ?_
  obtain ⟨μ2, r3, q1, h⟩ := bd2_some h
  refine V_callV (R1 := (rmd 6)) (As := []) (r := (some (.int r3))) (zdk tbL_10_ok 34 rfl) sCL_95 (tX6_over q1) (c_v1) rfl rfl rfl ⟨Nat.le_of_ble_eq_true rfl, Nat.le_of_ble_eq_true rfl⟩ (Nat.le_of_ble_eq_true rfl) ⟨rfl, rfl⟩ id ?_
  refine V_aload_n 2 (zdk tbL_10_ok 35 rfl) rfl ?_
  obtain ⟨μ5, r6, q4, h⟩ := bd2_some h
  refine V_callV (R1 := (rmd 5)) (As := []) (r := (some (.int r6))) (zdk tbL_10_ok 36 rfl) sCL_98 (tX7_over q4) (c_v2) rfl rfl rfl ⟨Nat.le_of_ble_eq_true rfl, Nat.le_of_ble_eq_true rfl⟩ (Nat.le_of_ble_eq_true rfl) ⟨rfl, rfl⟩ id ?_
  refine V_icmp_eq (tgt := 1422) (zdk tbL_10_ok 37 rfl) (by decide) (fun c7 => ?_) (fun c7 => ?_)
  · replace h := ite_t h c7
    exact tL_b1422 hg18 v1 v2 v3 μ5 c_v1 c_v2 h
  · replace h := ite_f h c7
    refine V_iconst (v := 0) (zdk tbL_10_ok 38 rfl) rfl ?_
    cases h
def fL_b796 (g18 : Nat → Nat → Int32 → ZMem → Option (ZMem)) (L : Nat) (xs : Nat → Int32) (n : Nat) (v1 : Nat) (v2 : Nat) (v3 : Int32) (μ : ZMem) : Option (ZMem) := chk (inN (v3 + (1 : Int32)) L) (chk (inN (v3 + (2 : Int32)) L) (bd2 (fX6_tired n v1 (xs (v3 + (1 : Int32)).toNatClampNeg) (xs (v3 + (2 : Int32)).toNatClampNeg) μ) (fun μ4 r5 => chk (inN (v3 + (1 : Int32)) L) (chk (inN (v3 + (2 : Int32)) L) (bd2 (fX7_tired n v2 (xs (v3 + (1 : Int32)).toNatClampNeg) (xs (v3 + (2 : Int32)).toNatClampNeg) μ4) (fun μ9 r10 => (if r5 = r10 then (fL_b1422 g18 L xs n v1 v2 v3 μ9) else none)))))))
theorem tL_b796 {l : Launch} {L : Nat} {xs : Nat → Int32} {n : Nat} {z : ZMem} {g18 : Nat → Nat → Int32 → ZMem → Option (ZMem)} (hg18 : ∀ (v1 : Nat) (v2 : Nat) (v3 : Int32) (μ : ZMem), isC n 6 v1 = true → isC n 7 v2 = true → g18 v1 v2 v3 μ = some z → V (zkL l L xs n z) false 18 [(0, .ref 1000), (1, .ref v1), (2, .ref v2), (3, .int v3)] [] n μ) (v1 : Nat) (v2 : Nat) (v3 : Int32) (μ : ZMem) (c_v1 : isC n 6 v1 = true) (c_v2 : isC n 7 v2 = true) (h : fL_b796 g18 L xs n v1 v2 v3 μ = some z) : V (zkL l L xs n z) false 796 [(0, .ref 1000), (1, .ref v1), (2, .ref v2), (3, .int v3)] [] n μ := by
  unfold fL_b796 at h
  refine V_aload_n 1 (zdk tbL_10_ok 6 rfl) rfl ?_
  refine V_aload_n 0 (zdk tbL_10_ok 7 rfl) rfl ?_
  refine V_iload_n 3 (zdk tbL_10_ok 8 rfl) rfl ?_
  refine V_iconst (v := 1) (zdk tbL_10_ok 9 rfl) rfl ?_
  refine V_iadd (zdk tbL_10_ok 10 rfl) ?_
  obtain ⟨b1, h⟩ := chk_some h
  refine V_sld (zdk tbL_10_ok 11 rfl) (fun ξ hξ => by rw [hξ.2]; exact inN_in b1) (fun ξ hξ => by rw [hξ.1]) ?_
  refine V_aload_n 0 (zdk tbL_10_ok 12 rfl) rfl ?_
  refine V_iload_n 3 (zdk tbL_10_ok 13 rfl) rfl ?_
  refine V_iconst (v := 2) (zdk tbL_10_ok 14 rfl) rfl ?_
  refine V_iadd (zdk tbL_10_ok 15 rfl) ?_
  obtain ⟨b2, h⟩ := chk_some h
  refine V_sld (zdk tbL_10_ok 16 rfl) (fun ξ hξ => by rw [hξ.2]; exact inN_in b2) (fun ξ hξ => by rw [hξ.1]) ?_
  obtain ⟨μ4, r5, q3, h⟩ := bd2_some h
  refine V_callV (R1 := (rmd 6)) (As := [.int (xs (v3 + (1 : Int32)).toNatClampNeg), .int (xs (v3 + (2 : Int32)).toNatClampNeg)]) (r := (some (.int r5))) (zdk tbL_10_ok 17 rfl) sCL_91 (tX6_tired q3) (c_v1) rfl rfl rfl ⟨Nat.le_of_ble_eq_true rfl, Nat.le_of_ble_eq_true rfl⟩ (Nat.le_of_ble_eq_true rfl) ⟨rfl, rfl⟩ id ?_
  refine V_aload_n 2 (zdk tbL_10_ok 18 rfl) rfl ?_
  refine V_aload_n 0 (zdk tbL_10_ok 19 rfl) rfl ?_
  refine V_iload_n 3 (zdk tbL_10_ok 20 rfl) rfl ?_
  refine V_iconst (v := 1) (zdk tbL_10_ok 21 rfl) rfl ?_
  refine V_iadd (zdk tbL_10_ok 22 rfl) ?_
  obtain ⟨b6, h⟩ := chk_some h
  refine V_sld (zdk tbL_10_ok 23 rfl) (fun ξ hξ => by rw [hξ.2]; exact inN_in b6) (fun ξ hξ => by rw [hξ.1]) ?_
  refine V_aload_n 0 (zdk tbL_10_ok 24 rfl) rfl ?_
  refine V_iload_n 3 (zdk tbL_10_ok 25 rfl) rfl ?_
  refine V_iconst (v := 2) (zdk tbL_10_ok 26 rfl) rfl ?_
  refine V_iadd (zdk tbL_10_ok 27 rfl) ?_
  obtain ⟨b7, h⟩ := chk_some h
  refine V_sld (zdk tbL_10_ok 28 rfl) (fun ξ hξ => by rw [hξ.2]; exact inN_in b7) (fun ξ hξ => by rw [hξ.1]) ?_
  obtain ⟨μ9, r10, q8, h⟩ := bd2_some h
  refine V_callV (R1 := (rmd 4)) (As := [.int (xs (v3 + (1 : Int32)).toNatClampNeg), .int (xs (v3 + (2 : Int32)).toNatClampNeg)]) (r := (some (.int r10))) (zdk tbL_10_ok 29 rfl) sCL_94 (tX7_tired q8) (c_v2) rfl rfl rfl ⟨Nat.le_of_ble_eq_true rfl, Nat.le_of_ble_eq_true rfl⟩ (Nat.le_of_ble_eq_true rfl) ⟨rfl, rfl⟩ id ?_
  refine V_icmp_eq (tgt := 1422) (zdk tbL_10_ok 30 rfl) (by decide) (fun c11 => ?_) (fun c11 => ?_)
  · replace h := ite_t h c11
    exact tL_b1422 hg18 v1 v2 v3 μ9 c_v1 c_v2 h
  · replace h := ite_f h c11
    refine V_iconst (v := 0) (zdk tbL_10_ok 31 rfl) rfl ?_
    cases h
def fL_b763 (g18 : Nat → Nat → Int32 → ZMem → Option (ZMem)) (L : Nat) (xs : Nat → Int32) (n : Nat) (v1 : Nat) (v2 : Nat) (v3 : Int32) (μ : ZMem) : Option (ZMem) := chk (inN (v3 + (1 : Int32)) L) (chk (inN (v3 + (2 : Int32)) L) (bd2 (fX6_ahead n v1 (xs (v3 + (1 : Int32)).toNatClampNeg) (xs (v3 + (2 : Int32)).toNatClampNeg) μ) (fun μ4 r5 => chk (inN (v3 + (1 : Int32)) L) (chk (inN (v3 + (2 : Int32)) L) (bd2 (fX7_ahead n v2 (xs (v3 + (1 : Int32)).toNatClampNeg) (xs (v3 + (2 : Int32)).toNatClampNeg) μ4) (fun μ9 r10 => (if r5 = r10 then (fL_b1422 g18 L xs n v1 v2 v3 μ9) else none)))))))
theorem tL_b763 {l : Launch} {L : Nat} {xs : Nat → Int32} {n : Nat} {z : ZMem} {g18 : Nat → Nat → Int32 → ZMem → Option (ZMem)} (hg18 : ∀ (v1 : Nat) (v2 : Nat) (v3 : Int32) (μ : ZMem), isC n 6 v1 = true → isC n 7 v2 = true → g18 v1 v2 v3 μ = some z → V (zkL l L xs n z) false 18 [(0, .ref 1000), (1, .ref v1), (2, .ref v2), (3, .int v3)] [] n μ) (v1 : Nat) (v2 : Nat) (v3 : Int32) (μ : ZMem) (c_v1 : isC n 6 v1 = true) (c_v2 : isC n 7 v2 = true) (h : fL_b763 g18 L xs n v1 v2 v3 μ = some z) : V (zkL l L xs n z) false 763 [(0, .ref 1000), (1, .ref v1), (2, .ref v2), (3, .int v3)] [] n μ := by
  unfold fL_b763 at h
  refine V_aload_n 1 (zdk tbL_9_ok 29 rfl) rfl ?_
  refine V_aload_n 0 (zdk tbL_9_ok 30 rfl) rfl ?_
  refine V_iload_n 3 (zdk tbL_9_ok 31 rfl) rfl ?_
  refine V_iconst (v := 1) (zdk tbL_9_ok 32 rfl) rfl ?_
  refine V_iadd (zdk tbL_9_ok 33 rfl) ?_
  obtain ⟨b1, h⟩ := chk_some h
  refine V_sld (zdk tbL_9_ok 34 rfl) (fun ξ hξ => by rw [hξ.2]; exact inN_in b1) (fun ξ hξ => by rw [hξ.1]) ?_
  refine V_aload_n 0 (zdk tbL_9_ok 35 rfl) rfl ?_
  refine V_iload_n 3 (zdk tbL_9_ok 36 rfl) rfl ?_
  refine V_iconst (v := 2) (zdk tbL_9_ok 37 rfl) rfl ?_
  refine V_iadd (zdk tbL_9_ok 38 rfl) ?_
  obtain ⟨b2, h⟩ := chk_some h
  refine V_sld (zdk tbL_9_ok 39 rfl) (fun ξ hξ => by rw [hξ.2]; exact inN_in b2) (fun ξ hξ => by rw [hξ.1]) ?_
  obtain ⟨μ4, r5, q3, h⟩ := bd2_some h
  refine V_callV (R1 := (rmd 6)) (As := [.int (xs (v3 + (1 : Int32)).toNatClampNeg), .int (xs (v3 + (2 : Int32)).toNatClampNeg)]) (r := (some (.int r5))) (zdk tbL_9_ok 40 rfl) sCL_87 (tX6_ahead q3) (c_v1) rfl rfl rfl ⟨Nat.le_of_ble_eq_true rfl, Nat.le_of_ble_eq_true rfl⟩ (Nat.le_of_ble_eq_true rfl) ⟨rfl, rfl⟩ id ?_
  refine V_aload_n 2 (zdk tbL_9_ok 41 rfl) rfl ?_
  refine V_aload_n 0 (zdk tbL_9_ok 42 rfl) rfl ?_
  refine V_iload_n 3 (zdk tbL_9_ok 43 rfl) rfl ?_
  refine V_iconst (v := 1) (zdk tbL_9_ok 44 rfl) rfl ?_
  refine V_iadd (zdk tbL_9_ok 45 rfl) ?_
  obtain ⟨b6, h⟩ := chk_some h
  refine V_sld (zdk tbL_9_ok 46 rfl) (fun ξ hξ => by rw [hξ.2]; exact inN_in b6) (fun ξ hξ => by rw [hξ.1]) ?_
  refine V_aload_n 0 (zdk tbL_9_ok 47 rfl) rfl ?_
  refine V_iload_n 3 (zdk tbL_9_ok 48 rfl) rfl ?_
  refine V_iconst (v := 2) (zdk tbL_9_ok 49 rfl) rfl ?_
  refine V_iadd (zdk tbL_10_ok 0 rfl) ?_
  obtain ⟨b7, h⟩ := chk_some h
  refine V_sld (zdk tbL_10_ok 1 rfl) (fun ξ hξ => by rw [hξ.2]; exact inN_in b7) (fun ξ hξ => by rw [hξ.1]) ?_
  obtain ⟨μ9, r10, q8, h⟩ := bd2_some h
  refine V_callV (R1 := (rmd 4)) (As := [.int (xs (v3 + (1 : Int32)).toNatClampNeg), .int (xs (v3 + (2 : Int32)).toNatClampNeg)]) (r := (some (.int r10))) (zdk tbL_10_ok 2 rfl) sCL_90 (tX7_ahead q8) (c_v2) rfl rfl rfl ⟨Nat.le_of_ble_eq_true rfl, Nat.le_of_ble_eq_true rfl⟩ (Nat.le_of_ble_eq_true rfl) ⟨rfl, rfl⟩ id ?_
  refine V_icmp_eq (tgt := 1422) (zdk tbL_10_ok 3 rfl) (by decide) (fun c11 => ?_) (fun c11 => ?_)
  · replace h := ite_t h c11
    exact tL_b1422 hg18 v1 v2 v3 μ9 c_v1 c_v2 h
  · replace h := ite_f h c11
    refine V_iconst (v := 0) (zdk tbL_10_ok 4 rfl) rfl ?_
    cases h
def fL_b740 (g18 : Nat → Nat → Int32 → ZMem → Option (ZMem)) (L : Nat) (xs : Nat → Int32) (n : Nat) (v1 : Nat) (v2 : Nat) (v3 : Int32) (μ : ZMem) : Option (ZMem) := chk (inN (v3 + (1 : Int32)) L) (bd2 (fX6_ready n v1 (xs (v3 + (1 : Int32)).toNatClampNeg) μ) (fun μ3 r4 => chk (inN (v3 + (1 : Int32)) L) (bd2 (fX7_ready n v2 (xs (v3 + (1 : Int32)).toNatClampNeg) μ3) (fun μ7 r8 => (if r4 = r8 then (fL_b1422 g18 L xs n v1 v2 v3 μ7) else none)))))
theorem tL_b740 {l : Launch} {L : Nat} {xs : Nat → Int32} {n : Nat} {z : ZMem} {g18 : Nat → Nat → Int32 → ZMem → Option (ZMem)} (hg18 : ∀ (v1 : Nat) (v2 : Nat) (v3 : Int32) (μ : ZMem), isC n 6 v1 = true → isC n 7 v2 = true → g18 v1 v2 v3 μ = some z → V (zkL l L xs n z) false 18 [(0, .ref 1000), (1, .ref v1), (2, .ref v2), (3, .int v3)] [] n μ) (v1 : Nat) (v2 : Nat) (v3 : Int32) (μ : ZMem) (c_v1 : isC n 6 v1 = true) (c_v2 : isC n 7 v2 = true) (h : fL_b740 g18 L xs n v1 v2 v3 μ = some z) : V (zkL l L xs n z) false 740 [(0, .ref 1000), (1, .ref v1), (2, .ref v2), (3, .int v3)] [] n μ := by
  unfold fL_b740 at h
  refine V_aload_n 1 (zdk tbL_9_ok 12 rfl) rfl ?_
  refine V_aload_n 0 (zdk tbL_9_ok 13 rfl) rfl ?_
  refine V_iload_n 3 (zdk tbL_9_ok 14 rfl) rfl ?_
  refine V_iconst (v := 1) (zdk tbL_9_ok 15 rfl) rfl ?_
  refine V_iadd (zdk tbL_9_ok 16 rfl) ?_
  obtain ⟨b1, h⟩ := chk_some h
  refine V_sld (zdk tbL_9_ok 17 rfl) (fun ξ hξ => by rw [hξ.2]; exact inN_in b1) (fun ξ hξ => by rw [hξ.1]) ?_
  obtain ⟨μ3, r4, q2, h⟩ := bd2_some h
  refine V_callV (R1 := (rmd 4)) (As := [.int (xs (v3 + (1 : Int32)).toNatClampNeg)]) (r := (some (.int r4))) (zdk tbL_9_ok 18 rfl) sCL_83 (tX6_ready q2) (c_v1) rfl rfl rfl ⟨Nat.le_of_ble_eq_true rfl, Nat.le_of_ble_eq_true rfl⟩ (Nat.le_of_ble_eq_true rfl) ⟨rfl, rfl⟩ id ?_
  refine V_aload_n 2 (zdk tbL_9_ok 19 rfl) rfl ?_
  refine V_aload_n 0 (zdk tbL_9_ok 20 rfl) rfl ?_
  refine V_iload_n 3 (zdk tbL_9_ok 21 rfl) rfl ?_
  refine V_iconst (v := 1) (zdk tbL_9_ok 22 rfl) rfl ?_
  refine V_iadd (zdk tbL_9_ok 23 rfl) ?_
  obtain ⟨b5, h⟩ := chk_some h
  refine V_sld (zdk tbL_9_ok 24 rfl) (fun ξ hξ => by rw [hξ.2]; exact inN_in b5) (fun ξ hξ => by rw [hξ.1]) ?_
  obtain ⟨μ7, r8, q6, h⟩ := bd2_some h
  refine V_callV (R1 := (rmd 3)) (As := [.int (xs (v3 + (1 : Int32)).toNatClampNeg)]) (r := (some (.int r8))) (zdk tbL_9_ok 25 rfl) sCL_86 (tX7_ready q6) (c_v2) rfl rfl rfl ⟨Nat.le_of_ble_eq_true rfl, Nat.le_of_ble_eq_true rfl⟩ (Nat.le_of_ble_eq_true rfl) ⟨rfl, rfl⟩ id ?_
  refine V_icmp_eq (tgt := 1422) (zdk tbL_9_ok 26 rfl) (by decide) (fun c9 => ?_) (fun c9 => ?_)
  · replace h := ite_t h c9
    exact tL_b1422 hg18 v1 v2 v3 μ7 c_v1 c_v2 h
  · replace h := ite_f h c9
    refine V_iconst (v := 0) (zdk tbL_9_ok 27 rfl) rfl ?_
    cases h
def fL_b717 (g18 : Nat → Nat → Int32 → ZMem → Option (ZMem)) (L : Nat) (xs : Nat → Int32) (n : Nat) (v1 : Nat) (v2 : Nat) (v3 : Int32) (μ : ZMem) : Option (ZMem) := chk (inN (v3 + (1 : Int32)) L) (bd2 (fX6_sighs n v1 (xs (v3 + (1 : Int32)).toNatClampNeg) μ) (fun μ3 r4 => chk (inN (v3 + (1 : Int32)) L) (bd2 (fX7_sighs n v2 (xs (v3 + (1 : Int32)).toNatClampNeg) μ3) (fun μ7 r8 => (if r4 = r8 then (fL_b1422 g18 L xs n v1 v2 v3 μ7) else none)))))
theorem tL_b717 {l : Launch} {L : Nat} {xs : Nat → Int32} {n : Nat} {z : ZMem} {g18 : Nat → Nat → Int32 → ZMem → Option (ZMem)} (hg18 : ∀ (v1 : Nat) (v2 : Nat) (v3 : Int32) (μ : ZMem), isC n 6 v1 = true → isC n 7 v2 = true → g18 v1 v2 v3 μ = some z → V (zkL l L xs n z) false 18 [(0, .ref 1000), (1, .ref v1), (2, .ref v2), (3, .int v3)] [] n μ) (v1 : Nat) (v2 : Nat) (v3 : Int32) (μ : ZMem) (c_v1 : isC n 6 v1 = true) (c_v2 : isC n 7 v2 = true) (h : fL_b717 g18 L xs n v1 v2 v3 μ = some z) : V (zkL l L xs n z) false 717 [(0, .ref 1000), (1, .ref v1), (2, .ref v2), (3, .int v3)] [] n μ := by
  unfold fL_b717 at h
  refine V_aload_n 1 (zdk tbL_8_ok 45 rfl) rfl ?_
  refine V_aload_n 0 (zdk tbL_8_ok 46 rfl) rfl ?_
  refine V_iload_n 3 (zdk tbL_8_ok 47 rfl) rfl ?_
  refine V_iconst (v := 1) (zdk tbL_8_ok 48 rfl) rfl ?_
  refine V_iadd (zdk tbL_8_ok 49 rfl) ?_
  obtain ⟨b1, h⟩ := chk_some h
  refine V_sld (zdk tbL_9_ok 0 rfl) (fun ξ hξ => by rw [hξ.2]; exact inN_in b1) (fun ξ hξ => by rw [hξ.1]) ?_
  obtain ⟨μ3, r4, q2, h⟩ := bd2_some h
  refine V_callV (R1 := (rmd 3)) (As := [.int (xs (v3 + (1 : Int32)).toNatClampNeg)]) (r := (some (.int r4))) (zdk tbL_9_ok 1 rfl) sCL_79 (tX6_sighs q2) (c_v1) rfl rfl rfl ⟨Nat.le_of_ble_eq_true rfl, Nat.le_of_ble_eq_true rfl⟩ (Nat.le_of_ble_eq_true rfl) ⟨rfl, rfl⟩ id ?_
  refine V_aload_n 2 (zdk tbL_9_ok 2 rfl) rfl ?_
  refine V_aload_n 0 (zdk tbL_9_ok 3 rfl) rfl ?_
  refine V_iload_n 3 (zdk tbL_9_ok 4 rfl) rfl ?_
  refine V_iconst (v := 1) (zdk tbL_9_ok 5 rfl) rfl ?_
  refine V_iadd (zdk tbL_9_ok 6 rfl) ?_
  obtain ⟨b5, h⟩ := chk_some h
  refine V_sld (zdk tbL_9_ok 7 rfl) (fun ξ hξ => by rw [hξ.2]; exact inN_in b5) (fun ξ hξ => by rw [hξ.1]) ?_
  obtain ⟨μ7, r8, q6, h⟩ := bd2_some h
  refine V_callV (R1 := (rmd 3)) (As := [.int (xs (v3 + (1 : Int32)).toNatClampNeg)]) (r := (some (.int r8))) (zdk tbL_9_ok 8 rfl) sCL_82 (tX7_sighs q6) (c_v2) rfl rfl rfl ⟨Nat.le_of_ble_eq_true rfl, Nat.le_of_ble_eq_true rfl⟩ (Nat.le_of_ble_eq_true rfl) ⟨rfl, rfl⟩ id ?_
  refine V_icmp_eq (tgt := 1422) (zdk tbL_9_ok 9 rfl) (by decide) (fun c9 => ?_) (fun c9 => ?_)
  · replace h := ite_t h c9
    exact tL_b1422 hg18 v1 v2 v3 μ7 c_v1 c_v2 h
  · replace h := ite_f h c9
    refine V_iconst (v := 0) (zdk tbL_9_ok 10 rfl) rfl ?_
    cases h
def fL_b704 (g18 : Nat → Nat → Int32 → ZMem → Option (ZMem)) (L : Nat) (xs : Nat → Int32) (n : Nat) (v1 : Nat) (v2 : Nat) (v3 : Int32) (μ : ZMem) : Option (ZMem) := bd2 (fX6_fault n v1 μ) (fun μ2 r3 => bd2 (fX7_fault n v2 μ2) (fun μ5 r6 => (if r3 = r6 then (fL_b1422 g18 L xs n v1 v2 v3 μ5) else none)))
theorem tL_b704 {l : Launch} {L : Nat} {xs : Nat → Int32} {n : Nat} {z : ZMem} {g18 : Nat → Nat → Int32 → ZMem → Option (ZMem)} (hg18 : ∀ (v1 : Nat) (v2 : Nat) (v3 : Int32) (μ : ZMem), isC n 6 v1 = true → isC n 7 v2 = true → g18 v1 v2 v3 μ = some z → V (zkL l L xs n z) false 18 [(0, .ref 1000), (1, .ref v1), (2, .ref v2), (3, .int v3)] [] n μ) (v1 : Nat) (v2 : Nat) (v3 : Int32) (μ : ZMem) (c_v1 : isC n 6 v1 = true) (c_v2 : isC n 7 v2 = true) (h : fL_b704 g18 L xs n v1 v2 v3 μ = some z) : V (zkL l L xs n z) false 704 [(0, .ref 1000), (1, .ref v1), (2, .ref v2), (3, .int v3)] [] n μ := by
  unfold fL_b704 at h
  refine V_aload_n 1 (zdk tbL_8_ok 38 rfl) rfl ?_
  obtain ⟨μ2, r3, q1, h⟩ := bd2_some h
  refine V_callV (R1 := (rmd 1)) (As := []) (r := (some (.int r3))) (zdk tbL_8_ok 39 rfl) sCL_74 (tX6_fault q1) (c_v1) rfl rfl rfl ⟨Nat.le_of_ble_eq_true rfl, Nat.le_of_ble_eq_true rfl⟩ (Nat.le_of_ble_eq_true rfl) ⟨rfl, rfl⟩ id ?_
  refine V_aload_n 2 (zdk tbL_8_ok 40 rfl) rfl ?_
  obtain ⟨μ5, r6, q4, h⟩ := bd2_some h
  refine V_callV (R1 := (rmd 1)) (As := []) (r := (some (.int r6))) (zdk tbL_8_ok 41 rfl) sCL_78 (tX7_fault q4) (c_v2) rfl rfl rfl ⟨Nat.le_of_ble_eq_true rfl, Nat.le_of_ble_eq_true rfl⟩ (Nat.le_of_ble_eq_true rfl) ⟨rfl, rfl⟩ id ?_
  refine V_icmp_eq (tgt := 1422) (zdk tbL_8_ok 42 rfl) (by decide) (fun c7 => ?_) (fun c7 => ?_)
  · replace h := ite_t h c7
    exact tL_b1422 hg18 v1 v2 v3 μ5 c_v1 c_v2 h
  · replace h := ite_f h c7
    refine V_iconst (v := 0) (zdk tbL_8_ok 43 rfl) rfl ?_
    cases h
def fL_b681 (g18 : Nat → Nat → Int32 → ZMem → Option (ZMem)) (L : Nat) (xs : Nat → Int32) (n : Nat) (v1 : Nat) (v2 : Nat) (v3 : Int32) (μ : ZMem) : Option (ZMem) := chk (inN (v3 + (1 : Int32)) L) (bd2 (fX6_vow n v1 (xs (v3 + (1 : Int32)).toNatClampNeg) μ) (fun μ3 r4 => chk (inN (v3 + (1 : Int32)) L) (bd2 (fX7_vow n v2 (xs (v3 + (1 : Int32)).toNatClampNeg) μ3) (fun μ7 r8 => (if r4 = r8 then (fL_b1422 g18 L xs n v1 v2 v3 μ7) else none)))))
theorem tL_b681 {l : Launch} {L : Nat} {xs : Nat → Int32} {n : Nat} {z : ZMem} {g18 : Nat → Nat → Int32 → ZMem → Option (ZMem)} (hg18 : ∀ (v1 : Nat) (v2 : Nat) (v3 : Int32) (μ : ZMem), isC n 6 v1 = true → isC n 7 v2 = true → g18 v1 v2 v3 μ = some z → V (zkL l L xs n z) false 18 [(0, .ref 1000), (1, .ref v1), (2, .ref v2), (3, .int v3)] [] n μ) (v1 : Nat) (v2 : Nat) (v3 : Int32) (μ : ZMem) (c_v1 : isC n 6 v1 = true) (c_v2 : isC n 7 v2 = true) (h : fL_b681 g18 L xs n v1 v2 v3 μ = some z) : V (zkL l L xs n z) false 681 [(0, .ref 1000), (1, .ref v1), (2, .ref v2), (3, .int v3)] [] n μ := by
  unfold fL_b681 at h
  refine V_aload_n 1 (zdk tbL_8_ok 21 rfl) rfl ?_
  refine V_aload_n 0 (zdk tbL_8_ok 22 rfl) rfl ?_
  refine V_iload_n 3 (zdk tbL_8_ok 23 rfl) rfl ?_
  refine V_iconst (v := 1) (zdk tbL_8_ok 24 rfl) rfl ?_
  refine V_iadd (zdk tbL_8_ok 25 rfl) ?_
  obtain ⟨b1, h⟩ := chk_some h
  refine V_sld (zdk tbL_8_ok 26 rfl) (fun ξ hξ => by rw [hξ.2]; exact inN_in b1) (fun ξ hξ => by rw [hξ.1]) ?_
  obtain ⟨μ3, r4, q2, h⟩ := bd2_some h
  refine V_callV (R1 := (rmd 8)) (As := [.int (xs (v3 + (1 : Int32)).toNatClampNeg)]) (r := (some (.int r4))) (zdk tbL_8_ok 27 rfl) sCL_70 (tX6_vow q2) (c_v1) rfl rfl rfl ⟨Nat.le_of_ble_eq_true rfl, Nat.le_of_ble_eq_true rfl⟩ (Nat.le_of_ble_eq_true rfl) ⟨rfl, rfl⟩ id ?_
  refine V_aload_n 2 (zdk tbL_8_ok 28 rfl) rfl ?_
  refine V_aload_n 0 (zdk tbL_8_ok 29 rfl) rfl ?_
  refine V_iload_n 3 (zdk tbL_8_ok 30 rfl) rfl ?_
  refine V_iconst (v := 1) (zdk tbL_8_ok 31 rfl) rfl ?_
  refine V_iadd (zdk tbL_8_ok 32 rfl) ?_
  obtain ⟨b5, h⟩ := chk_some h
  refine V_sld (zdk tbL_8_ok 33 rfl) (fun ξ hξ => by rw [hξ.2]; exact inN_in b5) (fun ξ hξ => by rw [hξ.1]) ?_
  obtain ⟨μ7, r8, q6, h⟩ := bd2_some h
  refine V_callV (R1 := (rmd 4)) (As := [.int (xs (v3 + (1 : Int32)).toNatClampNeg)]) (r := (some (.int r8))) (zdk tbL_8_ok 34 rfl) sCL_73 (tX7_vow q6) (c_v2) rfl rfl rfl ⟨Nat.le_of_ble_eq_true rfl, Nat.le_of_ble_eq_true rfl⟩ (Nat.le_of_ble_eq_true rfl) ⟨rfl, rfl⟩ id ?_
  refine V_icmp_eq (tgt := 1422) (zdk tbL_8_ok 35 rfl) (by decide) (fun c9 => ?_) (fun c9 => ?_)
  · replace h := ite_t h c9
    exact tL_b1422 hg18 v1 v2 v3 μ7 c_v1 c_v2 h
  · replace h := ite_f h c9
    refine V_iconst (v := 0) (zdk tbL_8_ok 36 rfl) rfl ?_
    cases h
def fL_b648 (g18 : Nat → Nat → Int32 → ZMem → Option (ZMem)) (L : Nat) (xs : Nat → Int32) (n : Nat) (v1 : Nat) (v2 : Nat) (v3 : Int32) (μ : ZMem) : Option (ZMem) := chk (inN (v3 + (1 : Int32)) L) (chk (inN (v3 + (2 : Int32)) L) (bd2 (fX6_personOf n v1 (xs (v3 + (1 : Int32)).toNatClampNeg) (xs (v3 + (2 : Int32)).toNatClampNeg) μ) (fun μ4 r5 => chk (inN (v3 + (1 : Int32)) L) (chk (inN (v3 + (2 : Int32)) L) (bd2 (fX7_personOf n v2 (xs (v3 + (1 : Int32)).toNatClampNeg) (xs (v3 + (2 : Int32)).toNatClampNeg) μ4) (fun μ9 r10 => (if r5 = r10 then (fL_b1422 g18 L xs n v1 v2 v3 μ9) else none)))))))
theorem tL_b648 {l : Launch} {L : Nat} {xs : Nat → Int32} {n : Nat} {z : ZMem} {g18 : Nat → Nat → Int32 → ZMem → Option (ZMem)} (hg18 : ∀ (v1 : Nat) (v2 : Nat) (v3 : Int32) (μ : ZMem), isC n 6 v1 = true → isC n 7 v2 = true → g18 v1 v2 v3 μ = some z → V (zkL l L xs n z) false 18 [(0, .ref 1000), (1, .ref v1), (2, .ref v2), (3, .int v3)] [] n μ) (v1 : Nat) (v2 : Nat) (v3 : Int32) (μ : ZMem) (c_v1 : isC n 6 v1 = true) (c_v2 : isC n 7 v2 = true) (h : fL_b648 g18 L xs n v1 v2 v3 μ = some z) : V (zkL l L xs n z) false 648 [(0, .ref 1000), (1, .ref v1), (2, .ref v2), (3, .int v3)] [] n μ := by
  unfold fL_b648 at h
  refine V_aload_n 1 (zdk tbL_7_ok 44 rfl) rfl ?_
  refine V_aload_n 0 (zdk tbL_7_ok 45 rfl) rfl ?_
  refine V_iload_n 3 (zdk tbL_7_ok 46 rfl) rfl ?_
  refine V_iconst (v := 1) (zdk tbL_7_ok 47 rfl) rfl ?_
  refine V_iadd (zdk tbL_7_ok 48 rfl) ?_
  obtain ⟨b1, h⟩ := chk_some h
  refine V_sld (zdk tbL_7_ok 49 rfl) (fun ξ hξ => by rw [hξ.2]; exact inN_in b1) (fun ξ hξ => by rw [hξ.1]) ?_
  refine V_aload_n 0 (zdk tbL_8_ok 0 rfl) rfl ?_
  refine V_iload_n 3 (zdk tbL_8_ok 1 rfl) rfl ?_
  refine V_iconst (v := 2) (zdk tbL_8_ok 2 rfl) rfl ?_
  refine V_iadd (zdk tbL_8_ok 3 rfl) ?_
  obtain ⟨b2, h⟩ := chk_some h
  refine V_sld (zdk tbL_8_ok 4 rfl) (fun ξ hξ => by rw [hξ.2]; exact inN_in b2) (fun ξ hξ => by rw [hξ.1]) ?_
  obtain ⟨μ4, r5, q3, h⟩ := bd2_some h
  refine V_callV (R1 := (rmd 3)) (As := [.int (xs (v3 + (1 : Int32)).toNatClampNeg), .int (xs (v3 + (2 : Int32)).toNatClampNeg)]) (r := (some (.int r5))) (zdk tbL_8_ok 5 rfl) sCL_66 (tX6_personOf q3) (c_v1) rfl rfl rfl ⟨Nat.le_of_ble_eq_true rfl, Nat.le_of_ble_eq_true rfl⟩ (Nat.le_of_ble_eq_true rfl) ⟨rfl, rfl⟩ id ?_
  refine V_aload_n 2 (zdk tbL_8_ok 6 rfl) rfl ?_
  refine V_aload_n 0 (zdk tbL_8_ok 7 rfl) rfl ?_
  refine V_iload_n 3 (zdk tbL_8_ok 8 rfl) rfl ?_
  refine V_iconst (v := 1) (zdk tbL_8_ok 9 rfl) rfl ?_
  refine V_iadd (zdk tbL_8_ok 10 rfl) ?_
  obtain ⟨b6, h⟩ := chk_some h
  refine V_sld (zdk tbL_8_ok 11 rfl) (fun ξ hξ => by rw [hξ.2]; exact inN_in b6) (fun ξ hξ => by rw [hξ.1]) ?_
  refine V_aload_n 0 (zdk tbL_8_ok 12 rfl) rfl ?_
  refine V_iload_n 3 (zdk tbL_8_ok 13 rfl) rfl ?_
  refine V_iconst (v := 2) (zdk tbL_8_ok 14 rfl) rfl ?_
  refine V_iadd (zdk tbL_8_ok 15 rfl) ?_
  obtain ⟨b7, h⟩ := chk_some h
  refine V_sld (zdk tbL_8_ok 16 rfl) (fun ξ hξ => by rw [hξ.2]; exact inN_in b7) (fun ξ hξ => by rw [hξ.1]) ?_
  obtain ⟨μ9, r10, q8, h⟩ := bd2_some h
  refine V_callV (R1 := (rmd 2)) (As := [.int (xs (v3 + (1 : Int32)).toNatClampNeg), .int (xs (v3 + (2 : Int32)).toNatClampNeg)]) (r := (some (.int r10))) (zdk tbL_8_ok 17 rfl) sCL_69 (tX7_personOf q8) (c_v2) rfl rfl rfl ⟨Nat.le_of_ble_eq_true rfl, Nat.le_of_ble_eq_true rfl⟩ (Nat.le_of_ble_eq_true rfl) ⟨rfl, rfl⟩ id ?_
  refine V_icmp_eq (tgt := 1422) (zdk tbL_8_ok 18 rfl) (by decide) (fun c11 => ?_) (fun c11 => ?_)
  · replace h := ite_t h c11
    exact tL_b1422 hg18 v1 v2 v3 μ9 c_v1 c_v2 h
  · replace h := ite_f h c11
    refine V_iconst (v := 0) (zdk tbL_8_ok 19 rfl) rfl ?_
    cases h
def fL_b625 (g18 : Nat → Nat → Int32 → ZMem → Option (ZMem)) (L : Nat) (xs : Nat → Int32) (n : Nat) (v1 : Nat) (v2 : Nat) (v3 : Int32) (μ : ZMem) : Option (ZMem) := chk (inN (v3 + (1 : Int32)) L) (bd2 (fX6_give n v1 (xs (v3 + (1 : Int32)).toNatClampNeg) μ) (fun μ3 r4 => chk (inN (v3 + (1 : Int32)) L) (bd2 (fX7_give n v2 (xs (v3 + (1 : Int32)).toNatClampNeg) μ3) (fun μ7 r8 => (if r4 = r8 then (fL_b1422 g18 L xs n v1 v2 v3 μ7) else none)))))
theorem tL_b625 {l : Launch} {L : Nat} {xs : Nat → Int32} {n : Nat} {z : ZMem} {g18 : Nat → Nat → Int32 → ZMem → Option (ZMem)} (hg18 : ∀ (v1 : Nat) (v2 : Nat) (v3 : Int32) (μ : ZMem), isC n 6 v1 = true → isC n 7 v2 = true → g18 v1 v2 v3 μ = some z → V (zkL l L xs n z) false 18 [(0, .ref 1000), (1, .ref v1), (2, .ref v2), (3, .int v3)] [] n μ) (v1 : Nat) (v2 : Nat) (v3 : Int32) (μ : ZMem) (c_v1 : isC n 6 v1 = true) (c_v2 : isC n 7 v2 = true) (h : fL_b625 g18 L xs n v1 v2 v3 μ = some z) : V (zkL l L xs n z) false 625 [(0, .ref 1000), (1, .ref v1), (2, .ref v2), (3, .int v3)] [] n μ := by
  unfold fL_b625 at h
  refine V_aload_n 1 (zdk tbL_7_ok 27 rfl) rfl ?_
  refine V_aload_n 0 (zdk tbL_7_ok 28 rfl) rfl ?_
  refine V_iload_n 3 (zdk tbL_7_ok 29 rfl) rfl ?_
  refine V_iconst (v := 1) (zdk tbL_7_ok 30 rfl) rfl ?_
  refine V_iadd (zdk tbL_7_ok 31 rfl) ?_
  obtain ⟨b1, h⟩ := chk_some h
  refine V_sld (zdk tbL_7_ok 32 rfl) (fun ξ hξ => by rw [hξ.2]; exact inN_in b1) (fun ξ hξ => by rw [hξ.1]) ?_
  obtain ⟨μ3, r4, q2, h⟩ := bd2_some h
  refine V_callV (R1 := (rmd 4)) (As := [.int (xs (v3 + (1 : Int32)).toNatClampNeg)]) (r := (some (.int r4))) (zdk tbL_7_ok 33 rfl) sCL_62 (tX6_give q2) (c_v1) rfl rfl rfl ⟨Nat.le_of_ble_eq_true rfl, Nat.le_of_ble_eq_true rfl⟩ (Nat.le_of_ble_eq_true rfl) ⟨rfl, rfl⟩ id ?_
  refine V_aload_n 2 (zdk tbL_7_ok 34 rfl) rfl ?_
  refine V_aload_n 0 (zdk tbL_7_ok 35 rfl) rfl ?_
  refine V_iload_n 3 (zdk tbL_7_ok 36 rfl) rfl ?_
  refine V_iconst (v := 1) (zdk tbL_7_ok 37 rfl) rfl ?_
  refine V_iadd (zdk tbL_7_ok 38 rfl) ?_
  obtain ⟨b5, h⟩ := chk_some h
  refine V_sld (zdk tbL_7_ok 39 rfl) (fun ξ hξ => by rw [hξ.2]; exact inN_in b5) (fun ξ hξ => by rw [hξ.1]) ?_
  obtain ⟨μ7, r8, q6, h⟩ := bd2_some h
  refine V_callV (R1 := (rmd 2)) (As := [.int (xs (v3 + (1 : Int32)).toNatClampNeg)]) (r := (some (.int r8))) (zdk tbL_7_ok 40 rfl) sCL_65 (tX7_give q6) (c_v2) rfl rfl rfl ⟨Nat.le_of_ble_eq_true rfl, Nat.le_of_ble_eq_true rfl⟩ (Nat.le_of_ble_eq_true rfl) ⟨rfl, rfl⟩ id ?_
  refine V_icmp_eq (tgt := 1422) (zdk tbL_7_ok 41 rfl) (by decide) (fun c9 => ?_) (fun c9 => ?_)
  · replace h := ite_t h c9
    exact tL_b1422 hg18 v1 v2 v3 μ7 c_v1 c_v2 h
  · replace h := ite_f h c9
    refine V_iconst (v := 0) (zdk tbL_7_ok 42 rfl) rfl ?_
    cases h
def fL_b592 (g18 : Nat → Nat → Int32 → ZMem → Option (ZMem)) (L : Nat) (xs : Nat → Int32) (n : Nat) (v1 : Nat) (v2 : Nat) (v3 : Int32) (μ : ZMem) : Option (ZMem) := chk (inN (v3 + (1 : Int32)) L) (chk (inN (v3 + (2 : Int32)) L) (bd2 (fX6_tire n v1 (xs (v3 + (1 : Int32)).toNatClampNeg) (xs (v3 + (2 : Int32)).toNatClampNeg) μ) (fun μ4 r5 => chk (inN (v3 + (1 : Int32)) L) (chk (inN (v3 + (2 : Int32)) L) (bd2 (fX7_tire n v2 (xs (v3 + (1 : Int32)).toNatClampNeg) (xs (v3 + (2 : Int32)).toNatClampNeg) μ4) (fun μ9 r10 => (if r5 = r10 then (fL_b1422 g18 L xs n v1 v2 v3 μ9) else none)))))))
theorem tL_b592 {l : Launch} {L : Nat} {xs : Nat → Int32} {n : Nat} {z : ZMem} {g18 : Nat → Nat → Int32 → ZMem → Option (ZMem)} (hg18 : ∀ (v1 : Nat) (v2 : Nat) (v3 : Int32) (μ : ZMem), isC n 6 v1 = true → isC n 7 v2 = true → g18 v1 v2 v3 μ = some z → V (zkL l L xs n z) false 18 [(0, .ref 1000), (1, .ref v1), (2, .ref v2), (3, .int v3)] [] n μ) (v1 : Nat) (v2 : Nat) (v3 : Int32) (μ : ZMem) (c_v1 : isC n 6 v1 = true) (c_v2 : isC n 7 v2 = true) (h : fL_b592 g18 L xs n v1 v2 v3 μ = some z) : V (zkL l L xs n z) false 592 [(0, .ref 1000), (1, .ref v1), (2, .ref v2), (3, .int v3)] [] n μ := by
  unfold fL_b592 at h
  refine V_aload_n 1 (zdk tbL_7_ok 0 rfl) rfl ?_
  refine V_aload_n 0 (zdk tbL_7_ok 1 rfl) rfl ?_
  refine V_iload_n 3 (zdk tbL_7_ok 2 rfl) rfl ?_
  refine V_iconst (v := 1) (zdk tbL_7_ok 3 rfl) rfl ?_
  refine V_iadd (zdk tbL_7_ok 4 rfl) ?_
  obtain ⟨b1, h⟩ := chk_some h
  refine V_sld (zdk tbL_7_ok 5 rfl) (fun ξ hξ => by rw [hξ.2]; exact inN_in b1) (fun ξ hξ => by rw [hξ.1]) ?_
  refine V_aload_n 0 (zdk tbL_7_ok 6 rfl) rfl ?_
  refine V_iload_n 3 (zdk tbL_7_ok 7 rfl) rfl ?_
  refine V_iconst (v := 2) (zdk tbL_7_ok 8 rfl) rfl ?_
  refine V_iadd (zdk tbL_7_ok 9 rfl) ?_
  obtain ⟨b2, h⟩ := chk_some h
  refine V_sld (zdk tbL_7_ok 10 rfl) (fun ξ hξ => by rw [hξ.2]; exact inN_in b2) (fun ξ hξ => by rw [hξ.1]) ?_
  obtain ⟨μ4, r5, q3, h⟩ := bd2_some h
  refine V_callV (R1 := (rmd 3)) (As := [.int (xs (v3 + (1 : Int32)).toNatClampNeg), .int (xs (v3 + (2 : Int32)).toNatClampNeg)]) (r := (some (.int r5))) (zdk tbL_7_ok 11 rfl) sCL_58 (tX6_tire q3) (c_v1) rfl rfl rfl ⟨Nat.le_of_ble_eq_true rfl, Nat.le_of_ble_eq_true rfl⟩ (Nat.le_of_ble_eq_true rfl) ⟨rfl, rfl⟩ id ?_
  refine V_aload_n 2 (zdk tbL_7_ok 12 rfl) rfl ?_
  refine V_aload_n 0 (zdk tbL_7_ok 13 rfl) rfl ?_
  refine V_iload_n 3 (zdk tbL_7_ok 14 rfl) rfl ?_
  refine V_iconst (v := 1) (zdk tbL_7_ok 15 rfl) rfl ?_
  refine V_iadd (zdk tbL_7_ok 16 rfl) ?_
  obtain ⟨b6, h⟩ := chk_some h
  refine V_sld (zdk tbL_7_ok 17 rfl) (fun ξ hξ => by rw [hξ.2]; exact inN_in b6) (fun ξ hξ => by rw [hξ.1]) ?_
  refine V_aload_n 0 (zdk tbL_7_ok 18 rfl) rfl ?_
  refine V_iload_n 3 (zdk tbL_7_ok 19 rfl) rfl ?_
  refine V_iconst (v := 2) (zdk tbL_7_ok 20 rfl) rfl ?_
  refine V_iadd (zdk tbL_7_ok 21 rfl) ?_
  obtain ⟨b7, h⟩ := chk_some h
  refine V_sld (zdk tbL_7_ok 22 rfl) (fun ξ hξ => by rw [hξ.2]; exact inN_in b7) (fun ξ hξ => by rw [hξ.1]) ?_
  obtain ⟨μ9, r10, q8, h⟩ := bd2_some h
  refine V_callV (R1 := (rmd 2)) (As := [.int (xs (v3 + (1 : Int32)).toNatClampNeg), .int (xs (v3 + (2 : Int32)).toNatClampNeg)]) (r := (some (.int r10))) (zdk tbL_7_ok 23 rfl) sCL_61 (tX7_tire q8) (c_v2) rfl rfl rfl ⟨Nat.le_of_ble_eq_true rfl, Nat.le_of_ble_eq_true rfl⟩ (Nat.le_of_ble_eq_true rfl) ⟨rfl, rfl⟩ id ?_
  refine V_icmp_eq (tgt := 1422) (zdk tbL_7_ok 24 rfl) (by decide) (fun c11 => ?_) (fun c11 => ?_)
  · replace h := ite_t h c11
    exact tL_b1422 hg18 v1 v2 v3 μ9 c_v1 c_v2 h
  · replace h := ite_f h c11
    refine V_iconst (v := 0) (zdk tbL_7_ok 25 rfl) rfl ?_
    cases h
def fL_b559 (g18 : Nat → Nat → Int32 → ZMem → Option (ZMem)) (L : Nat) (xs : Nat → Int32) (n : Nat) (v1 : Nat) (v2 : Nat) (v3 : Int32) (μ : ZMem) : Option (ZMem) := chk (inN (v3 + (1 : Int32)) L) (chk (inN (v3 + (2 : Int32)) L) (bd2 (fX6_ask n v1 (xs (v3 + (1 : Int32)).toNatClampNeg) (xs (v3 + (2 : Int32)).toNatClampNeg) μ) (fun μ4 r5 => chk (inN (v3 + (1 : Int32)) L) (chk (inN (v3 + (2 : Int32)) L) (bd2 (fX7_ask n v2 (xs (v3 + (1 : Int32)).toNatClampNeg) (xs (v3 + (2 : Int32)).toNatClampNeg) μ4) (fun μ9 r10 => (if r5 = r10 then (fL_b1422 g18 L xs n v1 v2 v3 μ9) else none)))))))
theorem tL_b559 {l : Launch} {L : Nat} {xs : Nat → Int32} {n : Nat} {z : ZMem} {g18 : Nat → Nat → Int32 → ZMem → Option (ZMem)} (hg18 : ∀ (v1 : Nat) (v2 : Nat) (v3 : Int32) (μ : ZMem), isC n 6 v1 = true → isC n 7 v2 = true → g18 v1 v2 v3 μ = some z → V (zkL l L xs n z) false 18 [(0, .ref 1000), (1, .ref v1), (2, .ref v2), (3, .int v3)] [] n μ) (v1 : Nat) (v2 : Nat) (v3 : Int32) (μ : ZMem) (c_v1 : isC n 6 v1 = true) (c_v2 : isC n 7 v2 = true) (h : fL_b559 g18 L xs n v1 v2 v3 μ = some z) : V (zkL l L xs n z) false 559 [(0, .ref 1000), (1, .ref v1), (2, .ref v2), (3, .int v3)] [] n μ := by
  unfold fL_b559 at h
  refine V_aload_n 1 (zdk tbL_6_ok 23 rfl) rfl ?_
  refine V_aload_n 0 (zdk tbL_6_ok 24 rfl) rfl ?_
  refine V_iload_n 3 (zdk tbL_6_ok 25 rfl) rfl ?_
  refine V_iconst (v := 1) (zdk tbL_6_ok 26 rfl) rfl ?_
  refine V_iadd (zdk tbL_6_ok 27 rfl) ?_
  obtain ⟨b1, h⟩ := chk_some h
  refine V_sld (zdk tbL_6_ok 28 rfl) (fun ξ hξ => by rw [hξ.2]; exact inN_in b1) (fun ξ hξ => by rw [hξ.1]) ?_
  refine V_aload_n 0 (zdk tbL_6_ok 29 rfl) rfl ?_
  refine V_iload_n 3 (zdk tbL_6_ok 30 rfl) rfl ?_
  refine V_iconst (v := 2) (zdk tbL_6_ok 31 rfl) rfl ?_
  refine V_iadd (zdk tbL_6_ok 32 rfl) ?_
  obtain ⟨b2, h⟩ := chk_some h
  refine V_sld (zdk tbL_6_ok 33 rfl) (fun ξ hξ => by rw [hξ.2]; exact inN_in b2) (fun ξ hξ => by rw [hξ.1]) ?_
  obtain ⟨μ4, r5, q3, h⟩ := bd2_some h
  refine V_callV (R1 := (rmd 3)) (As := [.int (xs (v3 + (1 : Int32)).toNatClampNeg), .int (xs (v3 + (2 : Int32)).toNatClampNeg)]) (r := (some (.int r5))) (zdk tbL_6_ok 34 rfl) sCL_54 (tX6_ask q3) (c_v1) rfl rfl rfl ⟨Nat.le_of_ble_eq_true rfl, Nat.le_of_ble_eq_true rfl⟩ (Nat.le_of_ble_eq_true rfl) ⟨rfl, rfl⟩ id ?_
  refine V_aload_n 2 (zdk tbL_6_ok 35 rfl) rfl ?_
  refine V_aload_n 0 (zdk tbL_6_ok 36 rfl) rfl ?_
  refine V_iload_n 3 (zdk tbL_6_ok 37 rfl) rfl ?_
  refine V_iconst (v := 1) (zdk tbL_6_ok 38 rfl) rfl ?_
  refine V_iadd (zdk tbL_6_ok 39 rfl) ?_
  obtain ⟨b6, h⟩ := chk_some h
  refine V_sld (zdk tbL_6_ok 40 rfl) (fun ξ hξ => by rw [hξ.2]; exact inN_in b6) (fun ξ hξ => by rw [hξ.1]) ?_
  refine V_aload_n 0 (zdk tbL_6_ok 41 rfl) rfl ?_
  refine V_iload_n 3 (zdk tbL_6_ok 42 rfl) rfl ?_
  refine V_iconst (v := 2) (zdk tbL_6_ok 43 rfl) rfl ?_
  refine V_iadd (zdk tbL_6_ok 44 rfl) ?_
  obtain ⟨b7, h⟩ := chk_some h
  refine V_sld (zdk tbL_6_ok 45 rfl) (fun ξ hξ => by rw [hξ.2]; exact inN_in b7) (fun ξ hξ => by rw [hξ.1]) ?_
  obtain ⟨μ9, r10, q8, h⟩ := bd2_some h
  refine V_callV (R1 := (rmd 2)) (As := [.int (xs (v3 + (1 : Int32)).toNatClampNeg), .int (xs (v3 + (2 : Int32)).toNatClampNeg)]) (r := (some (.int r10))) (zdk tbL_6_ok 46 rfl) sCL_57 (tX7_ask q8) (c_v2) rfl rfl rfl ⟨Nat.le_of_ble_eq_true rfl, Nat.le_of_ble_eq_true rfl⟩ (Nat.le_of_ble_eq_true rfl) ⟨rfl, rfl⟩ id ?_
  refine V_icmp_eq (tgt := 1422) (zdk tbL_6_ok 47 rfl) (by decide) (fun c11 => ?_) (fun c11 => ?_)
  · replace h := ite_t h c11
    exact tL_b1422 hg18 v1 v2 v3 μ9 c_v1 c_v2 h
  · replace h := ite_f h c11
    refine V_iconst (v := 0) (zdk tbL_6_ok 48 rfl) rfl ?_
    cases h
def fL_b506 (g18 : Nat → Nat → Int32 → ZMem → Option (ZMem)) (L : Nat) (xs : Nat → Int32) (n : Nat) (v1 : Nat) (v2 : Nat) (v3 : Int32) (μ : ZMem) : Option (ZMem) := chk (inN (v3 + (1 : Int32)) L) (chk (inN (v3 + (2 : Int32)) L) (chk (inN (v3 + (3 : Int32)) L) (chk (inN (v3 + (4 : Int32)) L) (bd2 (fX6_person n v1 (xs (v3 + (1 : Int32)).toNatClampNeg) (xs (v3 + (2 : Int32)).toNatClampNeg) (xs (v3 + (3 : Int32)).toNatClampNeg) (xs (v3 + (4 : Int32)).toNatClampNeg) μ) (fun μ6 r7 => chk (inN (v3 + (1 : Int32)) L) (chk (inN (v3 + (2 : Int32)) L) (chk (inN (v3 + (3 : Int32)) L) (chk (inN (v3 + (4 : Int32)) L) (bd2 (fX7_person n v2 (xs (v3 + (1 : Int32)).toNatClampNeg) (xs (v3 + (2 : Int32)).toNatClampNeg) (xs (v3 + (3 : Int32)).toNatClampNeg) (xs (v3 + (4 : Int32)).toNatClampNeg) μ6) (fun μ13 r14 => (if r7 = r14 then (fL_b1422 g18 L xs n v1 v2 v3 μ13) else none)))))))))))
theorem tL_b506 {l : Launch} {L : Nat} {xs : Nat → Int32} {n : Nat} {z : ZMem} {g18 : Nat → Nat → Int32 → ZMem → Option (ZMem)} (hg18 : ∀ (v1 : Nat) (v2 : Nat) (v3 : Int32) (μ : ZMem), isC n 6 v1 = true → isC n 7 v2 = true → g18 v1 v2 v3 μ = some z → V (zkL l L xs n z) false 18 [(0, .ref 1000), (1, .ref v1), (2, .ref v2), (3, .int v3)] [] n μ) (v1 : Nat) (v2 : Nat) (v3 : Int32) (μ : ZMem) (c_v1 : isC n 6 v1 = true) (c_v2 : isC n 7 v2 = true) (h : fL_b506 g18 L xs n v1 v2 v3 μ = some z) : V (zkL l L xs n z) false 506 [(0, .ref 1000), (1, .ref v1), (2, .ref v2), (3, .int v3)] [] n μ := by
  unfold fL_b506 at h
  refine V_aload_n 1 (zdk tbL_5_ok 26 rfl) rfl ?_
  refine V_aload_n 0 (zdk tbL_5_ok 27 rfl) rfl ?_
  refine V_iload_n 3 (zdk tbL_5_ok 28 rfl) rfl ?_
  refine V_iconst (v := 1) (zdk tbL_5_ok 29 rfl) rfl ?_
  refine V_iadd (zdk tbL_5_ok 30 rfl) ?_
  obtain ⟨b1, h⟩ := chk_some h
  refine V_sld (zdk tbL_5_ok 31 rfl) (fun ξ hξ => by rw [hξ.2]; exact inN_in b1) (fun ξ hξ => by rw [hξ.1]) ?_
  refine V_aload_n 0 (zdk tbL_5_ok 32 rfl) rfl ?_
  refine V_iload_n 3 (zdk tbL_5_ok 33 rfl) rfl ?_
  refine V_iconst (v := 2) (zdk tbL_5_ok 34 rfl) rfl ?_
  refine V_iadd (zdk tbL_5_ok 35 rfl) ?_
  obtain ⟨b2, h⟩ := chk_some h
  refine V_sld (zdk tbL_5_ok 36 rfl) (fun ξ hξ => by rw [hξ.2]; exact inN_in b2) (fun ξ hξ => by rw [hξ.1]) ?_
  refine V_aload_n 0 (zdk tbL_5_ok 37 rfl) rfl ?_
  refine V_iload_n 3 (zdk tbL_5_ok 38 rfl) rfl ?_
  refine V_iconst (v := 3) (zdk tbL_5_ok 39 rfl) rfl ?_
  refine V_iadd (zdk tbL_5_ok 40 rfl) ?_
  obtain ⟨b3, h⟩ := chk_some h
  refine V_sld (zdk tbL_5_ok 41 rfl) (fun ξ hξ => by rw [hξ.2]; exact inN_in b3) (fun ξ hξ => by rw [hξ.1]) ?_
  refine V_aload_n 0 (zdk tbL_5_ok 42 rfl) rfl ?_
  refine V_iload_n 3 (zdk tbL_5_ok 43 rfl) rfl ?_
  refine V_iconst (v := 4) (zdk tbL_5_ok 44 rfl) rfl ?_
  refine V_iadd (zdk tbL_5_ok 45 rfl) ?_
  obtain ⟨b4, h⟩ := chk_some h
  refine V_sld (zdk tbL_5_ok 46 rfl) (fun ξ hξ => by rw [hξ.2]; exact inN_in b4) (fun ξ hξ => by rw [hξ.1]) ?_
  obtain ⟨μ6, r7, q5, h⟩ := bd2_some h
  refine V_callV (R1 := (rmd 3)) (As := [.int (xs (v3 + (1 : Int32)).toNatClampNeg), .int (xs (v3 + (2 : Int32)).toNatClampNeg), .int (xs (v3 + (3 : Int32)).toNatClampNeg), .int (xs (v3 + (4 : Int32)).toNatClampNeg)]) (r := (some (.int r7))) (zdk tbL_5_ok 47 rfl) sCL_49 (tX6_person q5) (c_v1) rfl rfl rfl ⟨Nat.le_of_ble_eq_true rfl, Nat.le_of_ble_eq_true rfl⟩ (Nat.le_of_ble_eq_true rfl) ⟨rfl, rfl⟩ id ?_
  refine V_aload_n 2 (zdk tbL_5_ok 48 rfl) rfl ?_
  refine V_aload_n 0 (zdk tbL_5_ok 49 rfl) rfl ?_
  refine V_iload_n 3 (zdk tbL_6_ok 0 rfl) rfl ?_
  refine V_iconst (v := 1) (zdk tbL_6_ok 1 rfl) rfl ?_
  refine V_iadd (zdk tbL_6_ok 2 rfl) ?_
  obtain ⟨b8, h⟩ := chk_some h
  refine V_sld (zdk tbL_6_ok 3 rfl) (fun ξ hξ => by rw [hξ.2]; exact inN_in b8) (fun ξ hξ => by rw [hξ.1]) ?_
  refine V_aload_n 0 (zdk tbL_6_ok 4 rfl) rfl ?_
  refine V_iload_n 3 (zdk tbL_6_ok 5 rfl) rfl ?_
  refine V_iconst (v := 2) (zdk tbL_6_ok 6 rfl) rfl ?_
  refine V_iadd (zdk tbL_6_ok 7 rfl) ?_
  obtain ⟨b9, h⟩ := chk_some h
  refine V_sld (zdk tbL_6_ok 8 rfl) (fun ξ hξ => by rw [hξ.2]; exact inN_in b9) (fun ξ hξ => by rw [hξ.1]) ?_
  refine V_aload_n 0 (zdk tbL_6_ok 9 rfl) rfl ?_
  refine V_iload_n 3 (zdk tbL_6_ok 10 rfl) rfl ?_
  refine V_iconst (v := 3) (zdk tbL_6_ok 11 rfl) rfl ?_
  refine V_iadd (zdk tbL_6_ok 12 rfl) ?_
  obtain ⟨b10, h⟩ := chk_some h
  refine V_sld (zdk tbL_6_ok 13 rfl) (fun ξ hξ => by rw [hξ.2]; exact inN_in b10) (fun ξ hξ => by rw [hξ.1]) ?_
  refine V_aload_n 0 (zdk tbL_6_ok 14 rfl) rfl ?_
  refine V_iload_n 3 (zdk tbL_6_ok 15 rfl) rfl ?_
  refine V_iconst (v := 4) (zdk tbL_6_ok 16 rfl) rfl ?_
  refine V_iadd (zdk tbL_6_ok 17 rfl) ?_
  obtain ⟨b11, h⟩ := chk_some h
  refine V_sld (zdk tbL_6_ok 18 rfl) (fun ξ hξ => by rw [hξ.2]; exact inN_in b11) (fun ξ hξ => by rw [hξ.1]) ?_
  obtain ⟨μ13, r14, q12, h⟩ := bd2_some h
  refine V_callV (R1 := (rmd 2)) (As := [.int (xs (v3 + (1 : Int32)).toNatClampNeg), .int (xs (v3 + (2 : Int32)).toNatClampNeg), .int (xs (v3 + (3 : Int32)).toNatClampNeg), .int (xs (v3 + (4 : Int32)).toNatClampNeg)]) (r := (some (.int r14))) (zdk tbL_6_ok 19 rfl) sCL_53 (tX7_person q12) (c_v2) rfl rfl rfl ⟨Nat.le_of_ble_eq_true rfl, Nat.le_of_ble_eq_true rfl⟩ (Nat.le_of_ble_eq_true rfl) ⟨rfl, rfl⟩ id ?_
  refine V_icmp_eq (tgt := 1422) (zdk tbL_6_ok 20 rfl) (by decide) (fun c15 => ?_) (fun c15 => ?_)
  · replace h := ite_t h c15
    exact tL_b1422 hg18 v1 v2 v3 μ13 c_v1 c_v2 h
  · replace h := ite_f h c15
    refine V_iconst (v := 0) (zdk tbL_6_ok 21 rfl) rfl ?_
    cases h
def fL_b473 (g18 : Nat → Nat → Int32 → ZMem → Option (ZMem)) (L : Nat) (xs : Nat → Int32) (n : Nat) (v1 : Nat) (v2 : Nat) (v3 : Int32) (μ : ZMem) : Option (ZMem) := chk (inN (v3 + (1 : Int32)) L) (chk (inN (v3 + (2 : Int32)) L) (bd2 (fX6_says n v1 (xs (v3 + (1 : Int32)).toNatClampNeg) (xs (v3 + (2 : Int32)).toNatClampNeg) μ) (fun μ4 r5 => chk (inN (v3 + (1 : Int32)) L) (chk (inN (v3 + (2 : Int32)) L) (bd2 (fX7_says n v2 (xs (v3 + (1 : Int32)).toNatClampNeg) (xs (v3 + (2 : Int32)).toNatClampNeg) μ4) (fun μ9 r10 => (if r5 = r10 then (fL_b1422 g18 L xs n v1 v2 v3 μ9) else none)))))))
theorem tL_b473 {l : Launch} {L : Nat} {xs : Nat → Int32} {n : Nat} {z : ZMem} {g18 : Nat → Nat → Int32 → ZMem → Option (ZMem)} (hg18 : ∀ (v1 : Nat) (v2 : Nat) (v3 : Int32) (μ : ZMem), isC n 6 v1 = true → isC n 7 v2 = true → g18 v1 v2 v3 μ = some z → V (zkL l L xs n z) false 18 [(0, .ref 1000), (1, .ref v1), (2, .ref v2), (3, .int v3)] [] n μ) (v1 : Nat) (v2 : Nat) (v3 : Int32) (μ : ZMem) (c_v1 : isC n 6 v1 = true) (c_v2 : isC n 7 v2 = true) (h : fL_b473 g18 L xs n v1 v2 v3 μ = some z) : V (zkL l L xs n z) false 473 [(0, .ref 1000), (1, .ref v1), (2, .ref v2), (3, .int v3)] [] n μ := by
  unfold fL_b473 at h
  refine V_aload_n 1 (zdk tbL_4_ok 49 rfl) rfl ?_
  refine V_aload_n 0 (zdk tbL_5_ok 0 rfl) rfl ?_
  refine V_iload_n 3 (zdk tbL_5_ok 1 rfl) rfl ?_
  refine V_iconst (v := 1) (zdk tbL_5_ok 2 rfl) rfl ?_
  refine V_iadd (zdk tbL_5_ok 3 rfl) ?_
  obtain ⟨b1, h⟩ := chk_some h
  refine V_sld (zdk tbL_5_ok 4 rfl) (fun ξ hξ => by rw [hξ.2]; exact inN_in b1) (fun ξ hξ => by rw [hξ.1]) ?_
  refine V_aload_n 0 (zdk tbL_5_ok 5 rfl) rfl ?_
  refine V_iload_n 3 (zdk tbL_5_ok 6 rfl) rfl ?_
  refine V_iconst (v := 2) (zdk tbL_5_ok 7 rfl) rfl ?_
  refine V_iadd (zdk tbL_5_ok 8 rfl) ?_
  obtain ⟨b2, h⟩ := chk_some h
  refine V_sld (zdk tbL_5_ok 9 rfl) (fun ξ hξ => by rw [hξ.2]; exact inN_in b2) (fun ξ hξ => by rw [hξ.1]) ?_
  obtain ⟨μ4, r5, q3, h⟩ := bd2_some h
  refine V_callV (R1 := (rmd 5)) (As := [.int (xs (v3 + (1 : Int32)).toNatClampNeg), .int (xs (v3 + (2 : Int32)).toNatClampNeg)]) (r := (some (.int r5))) (zdk tbL_5_ok 10 rfl) sCL_45 (tX6_says q3) (c_v1) rfl rfl rfl ⟨Nat.le_of_ble_eq_true rfl, Nat.le_of_ble_eq_true rfl⟩ (Nat.le_of_ble_eq_true rfl) ⟨rfl, rfl⟩ id ?_
  refine V_aload_n 2 (zdk tbL_5_ok 11 rfl) rfl ?_
  refine V_aload_n 0 (zdk tbL_5_ok 12 rfl) rfl ?_
  refine V_iload_n 3 (zdk tbL_5_ok 13 rfl) rfl ?_
  refine V_iconst (v := 1) (zdk tbL_5_ok 14 rfl) rfl ?_
  refine V_iadd (zdk tbL_5_ok 15 rfl) ?_
  obtain ⟨b6, h⟩ := chk_some h
  refine V_sld (zdk tbL_5_ok 16 rfl) (fun ξ hξ => by rw [hξ.2]; exact inN_in b6) (fun ξ hξ => by rw [hξ.1]) ?_
  refine V_aload_n 0 (zdk tbL_5_ok 17 rfl) rfl ?_
  refine V_iload_n 3 (zdk tbL_5_ok 18 rfl) rfl ?_
  refine V_iconst (v := 2) (zdk tbL_5_ok 19 rfl) rfl ?_
  refine V_iadd (zdk tbL_5_ok 20 rfl) ?_
  obtain ⟨b7, h⟩ := chk_some h
  refine V_sld (zdk tbL_5_ok 21 rfl) (fun ξ hξ => by rw [hξ.2]; exact inN_in b7) (fun ξ hξ => by rw [hξ.1]) ?_
  obtain ⟨μ9, r10, q8, h⟩ := bd2_some h
  refine V_callV (R1 := (rmd 2)) (As := [.int (xs (v3 + (1 : Int32)).toNatClampNeg), .int (xs (v3 + (2 : Int32)).toNatClampNeg)]) (r := (some (.int r10))) (zdk tbL_5_ok 22 rfl) sCL_48 (tX7_says q8) (c_v2) rfl rfl rfl ⟨Nat.le_of_ble_eq_true rfl, Nat.le_of_ble_eq_true rfl⟩ (Nat.le_of_ble_eq_true rfl) ⟨rfl, rfl⟩ id ?_
  refine V_icmp_eq (tgt := 1422) (zdk tbL_5_ok 23 rfl) (by decide) (fun c11 => ?_) (fun c11 => ?_)
  · replace h := ite_t h c11
    exact tL_b1422 hg18 v1 v2 v3 μ9 c_v1 c_v2 h
  · replace h := ite_f h c11
    refine V_iconst (v := 0) (zdk tbL_5_ok 24 rfl) rfl ?_
    cases h
def fL_b450 (g18 : Nat → Nat → Int32 → ZMem → Option (ZMem)) (L : Nat) (xs : Nat → Int32) (n : Nat) (v1 : Nat) (v2 : Nat) (v3 : Int32) (μ : ZMem) : Option (ZMem) := chk (inN (v3 + (1 : Int32)) L) (bd2 (fX6_holds n v1 (xs (v3 + (1 : Int32)).toNatClampNeg) μ) (fun μ3 r4 => chk (inN (v3 + (1 : Int32)) L) (bd2 (fX7_holds n v2 (xs (v3 + (1 : Int32)).toNatClampNeg) μ3) (fun μ7 r8 => (if r4 = r8 then (fL_b1422 g18 L xs n v1 v2 v3 μ7) else none)))))
theorem tL_b450 {l : Launch} {L : Nat} {xs : Nat → Int32} {n : Nat} {z : ZMem} {g18 : Nat → Nat → Int32 → ZMem → Option (ZMem)} (hg18 : ∀ (v1 : Nat) (v2 : Nat) (v3 : Int32) (μ : ZMem), isC n 6 v1 = true → isC n 7 v2 = true → g18 v1 v2 v3 μ = some z → V (zkL l L xs n z) false 18 [(0, .ref 1000), (1, .ref v1), (2, .ref v2), (3, .int v3)] [] n μ) (v1 : Nat) (v2 : Nat) (v3 : Int32) (μ : ZMem) (c_v1 : isC n 6 v1 = true) (c_v2 : isC n 7 v2 = true) (h : fL_b450 g18 L xs n v1 v2 v3 μ = some z) : V (zkL l L xs n z) false 450 [(0, .ref 1000), (1, .ref v1), (2, .ref v2), (3, .int v3)] [] n μ := by
  unfold fL_b450 at h
  refine V_aload_n 1 (zdk tbL_4_ok 32 rfl) rfl ?_
  refine V_aload_n 0 (zdk tbL_4_ok 33 rfl) rfl ?_
  refine V_iload_n 3 (zdk tbL_4_ok 34 rfl) rfl ?_
  refine V_iconst (v := 1) (zdk tbL_4_ok 35 rfl) rfl ?_
  refine V_iadd (zdk tbL_4_ok 36 rfl) ?_
  obtain ⟨b1, h⟩ := chk_some h
  refine V_sld (zdk tbL_4_ok 37 rfl) (fun ξ hξ => by rw [hξ.2]; exact inN_in b1) (fun ξ hξ => by rw [hξ.1]) ?_
  obtain ⟨μ3, r4, q2, h⟩ := bd2_some h
  refine V_callV (R1 := (rmd 3)) (As := [.int (xs (v3 + (1 : Int32)).toNatClampNeg)]) (r := (some (.int r4))) (zdk tbL_4_ok 38 rfl) sCL_40 (tX6_holds q2) (c_v1) rfl rfl rfl ⟨Nat.le_of_ble_eq_true rfl, Nat.le_of_ble_eq_true rfl⟩ (Nat.le_of_ble_eq_true rfl) ⟨rfl, rfl⟩ id ?_
  refine V_aload_n 2 (zdk tbL_4_ok 39 rfl) rfl ?_
  refine V_aload_n 0 (zdk tbL_4_ok 40 rfl) rfl ?_
  refine V_iload_n 3 (zdk tbL_4_ok 41 rfl) rfl ?_
  refine V_iconst (v := 1) (zdk tbL_4_ok 42 rfl) rfl ?_
  refine V_iadd (zdk tbL_4_ok 43 rfl) ?_
  obtain ⟨b5, h⟩ := chk_some h
  refine V_sld (zdk tbL_4_ok 44 rfl) (fun ξ hξ => by rw [hξ.2]; exact inN_in b5) (fun ξ hξ => by rw [hξ.1]) ?_
  obtain ⟨μ7, r8, q6, h⟩ := bd2_some h
  refine V_callV (R1 := (rmd 2)) (As := [.int (xs (v3 + (1 : Int32)).toNatClampNeg)]) (r := (some (.int r8))) (zdk tbL_4_ok 45 rfl) sCL_44 (tX7_holds q6) (c_v2) rfl rfl rfl ⟨Nat.le_of_ble_eq_true rfl, Nat.le_of_ble_eq_true rfl⟩ (Nat.le_of_ble_eq_true rfl) ⟨rfl, rfl⟩ id ?_
  refine V_icmp_eq (tgt := 1422) (zdk tbL_4_ok 46 rfl) (by decide) (fun c9 => ?_) (fun c9 => ?_)
  · replace h := ite_t h c9
    exact tL_b1422 hg18 v1 v2 v3 μ7 c_v1 c_v2 h
  · replace h := ite_f h c9
    refine V_iconst (v := 0) (zdk tbL_4_ok 47 rfl) rfl ?_
    cases h
def fL_b417 (g18 : Nat → Nat → Int32 → ZMem → Option (ZMem)) (L : Nat) (xs : Nat → Int32) (n : Nat) (v1 : Nat) (v2 : Nat) (v3 : Int32) (μ : ZMem) : Option (ZMem) := chk (inN (v3 + (1 : Int32)) L) (chk (inN (v3 + (2 : Int32)) L) (bd2 (fX6_show n v1 (xs (v3 + (1 : Int32)).toNatClampNeg) (xs (v3 + (2 : Int32)).toNatClampNeg) μ) (fun μ4 r5 => chk (inN (v3 + (1 : Int32)) L) (chk (inN (v3 + (2 : Int32)) L) (bd2 (fX7_show n v2 (xs (v3 + (1 : Int32)).toNatClampNeg) (xs (v3 + (2 : Int32)).toNatClampNeg) μ4) (fun μ9 r10 => (if r5 = r10 then (fL_b1422 g18 L xs n v1 v2 v3 μ9) else none)))))))
theorem tL_b417 {l : Launch} {L : Nat} {xs : Nat → Int32} {n : Nat} {z : ZMem} {g18 : Nat → Nat → Int32 → ZMem → Option (ZMem)} (hg18 : ∀ (v1 : Nat) (v2 : Nat) (v3 : Int32) (μ : ZMem), isC n 6 v1 = true → isC n 7 v2 = true → g18 v1 v2 v3 μ = some z → V (zkL l L xs n z) false 18 [(0, .ref 1000), (1, .ref v1), (2, .ref v2), (3, .int v3)] [] n μ) (v1 : Nat) (v2 : Nat) (v3 : Int32) (μ : ZMem) (c_v1 : isC n 6 v1 = true) (c_v2 : isC n 7 v2 = true) (h : fL_b417 g18 L xs n v1 v2 v3 μ = some z) : V (zkL l L xs n z) false 417 [(0, .ref 1000), (1, .ref v1), (2, .ref v2), (3, .int v3)] [] n μ := by
  unfold fL_b417 at h
  refine V_aload_n 1 (zdk tbL_4_ok 5 rfl) rfl ?_
  refine V_aload_n 0 (zdk tbL_4_ok 6 rfl) rfl ?_
  refine V_iload_n 3 (zdk tbL_4_ok 7 rfl) rfl ?_
  refine V_iconst (v := 1) (zdk tbL_4_ok 8 rfl) rfl ?_
  refine V_iadd (zdk tbL_4_ok 9 rfl) ?_
  obtain ⟨b1, h⟩ := chk_some h
  refine V_sld (zdk tbL_4_ok 10 rfl) (fun ξ hξ => by rw [hξ.2]; exact inN_in b1) (fun ξ hξ => by rw [hξ.1]) ?_
  refine V_aload_n 0 (zdk tbL_4_ok 11 rfl) rfl ?_
  refine V_iload_n 3 (zdk tbL_4_ok 12 rfl) rfl ?_
  refine V_iconst (v := 2) (zdk tbL_4_ok 13 rfl) rfl ?_
  refine V_iadd (zdk tbL_4_ok 14 rfl) ?_
  obtain ⟨b2, h⟩ := chk_some h
  refine V_sld (zdk tbL_4_ok 15 rfl) (fun ξ hξ => by rw [hξ.2]; exact inN_in b2) (fun ξ hξ => by rw [hξ.1]) ?_
  obtain ⟨μ4, r5, q3, h⟩ := bd2_some h
  refine V_callV (R1 := (rmd 4)) (As := [.int (xs (v3 + (1 : Int32)).toNatClampNeg), .int (xs (v3 + (2 : Int32)).toNatClampNeg)]) (r := (some (.int r5))) (zdk tbL_4_ok 16 rfl) sCL_35 (tX6_show q3) (c_v1) rfl rfl rfl ⟨Nat.le_of_ble_eq_true rfl, Nat.le_of_ble_eq_true rfl⟩ (Nat.le_of_ble_eq_true rfl) ⟨rfl, rfl⟩ id ?_
  refine V_aload_n 2 (zdk tbL_4_ok 17 rfl) rfl ?_
  refine V_aload_n 0 (zdk tbL_4_ok 18 rfl) rfl ?_
  refine V_iload_n 3 (zdk tbL_4_ok 19 rfl) rfl ?_
  refine V_iconst (v := 1) (zdk tbL_4_ok 20 rfl) rfl ?_
  refine V_iadd (zdk tbL_4_ok 21 rfl) ?_
  obtain ⟨b6, h⟩ := chk_some h
  refine V_sld (zdk tbL_4_ok 22 rfl) (fun ξ hξ => by rw [hξ.2]; exact inN_in b6) (fun ξ hξ => by rw [hξ.1]) ?_
  refine V_aload_n 0 (zdk tbL_4_ok 23 rfl) rfl ?_
  refine V_iload_n 3 (zdk tbL_4_ok 24 rfl) rfl ?_
  refine V_iconst (v := 2) (zdk tbL_4_ok 25 rfl) rfl ?_
  refine V_iadd (zdk tbL_4_ok 26 rfl) ?_
  obtain ⟨b7, h⟩ := chk_some h
  refine V_sld (zdk tbL_4_ok 27 rfl) (fun ξ hξ => by rw [hξ.2]; exact inN_in b7) (fun ξ hξ => by rw [hξ.1]) ?_
  obtain ⟨μ9, r10, q8, h⟩ := bd2_some h
  refine V_callV (R1 := (rmd 2)) (As := [.int (xs (v3 + (1 : Int32)).toNatClampNeg), .int (xs (v3 + (2 : Int32)).toNatClampNeg)]) (r := (some (.int r10))) (zdk tbL_4_ok 28 rfl) sCL_39 (tX7_show q8) (c_v2) rfl rfl rfl ⟨Nat.le_of_ble_eq_true rfl, Nat.le_of_ble_eq_true rfl⟩ (Nat.le_of_ble_eq_true rfl) ⟨rfl, rfl⟩ id ?_
  refine V_icmp_eq (tgt := 1422) (zdk tbL_4_ok 29 rfl) (by decide) (fun c11 => ?_) (fun c11 => ?_)
  · replace h := ite_t h c11
    exact tL_b1422 hg18 v1 v2 v3 μ9 c_v1 c_v2 h
  · replace h := ite_f h c11
    refine V_iconst (v := 0) (zdk tbL_4_ok 30 rfl) rfl ?_
    cases h
def fL_b383 (g18 : Nat → Nat → Int32 → ZMem → Option (ZMem)) (L : Nat) (xs : Nat → Int32) (n : Nat) (v1 : Nat) (v2 : Nat) (v3 : Int32) (μ : ZMem) : Option (ZMem) := chk (inN (v3 + (1 : Int32)) L) (chk (inN (v3 + (2 : Int32)) L) (bd2 (fX6_element n v1 (xs (v3 + (1 : Int32)).toNatClampNeg) (xs (v3 + (2 : Int32)).toNatClampNeg) μ) (fun μ4 r5 => chk (inN (v3 + (1 : Int32)) L) (chk (inN (v3 + (2 : Int32)) L) (bd2 (fX7_element n v2 (xs (v3 + (1 : Int32)).toNatClampNeg) (xs (v3 + (2 : Int32)).toNatClampNeg) μ4) (fun μ9 r10 => (if (lg_cmp r5 r10) = 0 then (fL_b1422 g18 L xs n v1 v2 v3 μ9) else none)))))))
theorem tL_b383 {l : Launch} {L : Nat} {xs : Nat → Int32} {n : Nat} {z : ZMem} {g18 : Nat → Nat → Int32 → ZMem → Option (ZMem)} (hg18 : ∀ (v1 : Nat) (v2 : Nat) (v3 : Int32) (μ : ZMem), isC n 6 v1 = true → isC n 7 v2 = true → g18 v1 v2 v3 μ = some z → V (zkL l L xs n z) false 18 [(0, .ref 1000), (1, .ref v1), (2, .ref v2), (3, .int v3)] [] n μ) (v1 : Nat) (v2 : Nat) (v3 : Int32) (μ : ZMem) (c_v1 : isC n 6 v1 = true) (c_v2 : isC n 7 v2 = true) (h : fL_b383 g18 L xs n v1 v2 v3 μ = some z) : V (zkL l L xs n z) false 383 [(0, .ref 1000), (1, .ref v1), (2, .ref v2), (3, .int v3)] [] n μ := by
  unfold fL_b383 at h
  refine V_aload_n 1 (zdk tbL_3_ok 27 rfl) rfl ?_
  refine V_aload_n 0 (zdk tbL_3_ok 28 rfl) rfl ?_
  refine V_iload_n 3 (zdk tbL_3_ok 29 rfl) rfl ?_
  refine V_iconst (v := 1) (zdk tbL_3_ok 30 rfl) rfl ?_
  refine V_iadd (zdk tbL_3_ok 31 rfl) ?_
  obtain ⟨b1, h⟩ := chk_some h
  refine V_sld (zdk tbL_3_ok 32 rfl) (fun ξ hξ => by rw [hξ.2]; exact inN_in b1) (fun ξ hξ => by rw [hξ.1]) ?_
  refine V_aload_n 0 (zdk tbL_3_ok 33 rfl) rfl ?_
  refine V_iload_n 3 (zdk tbL_3_ok 34 rfl) rfl ?_
  refine V_iconst (v := 2) (zdk tbL_3_ok 35 rfl) rfl ?_
  refine V_iadd (zdk tbL_3_ok 36 rfl) ?_
  obtain ⟨b2, h⟩ := chk_some h
  refine V_sld (zdk tbL_3_ok 37 rfl) (fun ξ hξ => by rw [hξ.2]; exact inN_in b2) (fun ξ hξ => by rw [hξ.1]) ?_
  obtain ⟨μ4, r5, q3, h⟩ := bd2_some h
  refine V_callV (R1 := (rmd 4)) (As := [.int (xs (v3 + (1 : Int32)).toNatClampNeg), .int (xs (v3 + (2 : Int32)).toNatClampNeg)]) (r := (some (.long r5))) (zdk tbL_3_ok 38 rfl) sCL_30 (tX6_element q3) (c_v1) rfl rfl rfl ⟨Nat.le_of_ble_eq_true rfl, Nat.le_of_ble_eq_true rfl⟩ (Nat.le_of_ble_eq_true rfl) ⟨rfl, rfl⟩ id ?_
  refine V_aload_n 2 (zdk tbL_3_ok 39 rfl) rfl ?_
  refine V_aload_n 0 (zdk tbL_3_ok 40 rfl) rfl ?_
  refine V_iload_n 3 (zdk tbL_3_ok 41 rfl) rfl ?_
  refine V_iconst (v := 1) (zdk tbL_3_ok 42 rfl) rfl ?_
  refine V_iadd (zdk tbL_3_ok 43 rfl) ?_
  obtain ⟨b6, h⟩ := chk_some h
  refine V_sld (zdk tbL_3_ok 44 rfl) (fun ξ hξ => by rw [hξ.2]; exact inN_in b6) (fun ξ hξ => by rw [hξ.1]) ?_
  refine V_aload_n 0 (zdk tbL_3_ok 45 rfl) rfl ?_
  refine V_iload_n 3 (zdk tbL_3_ok 46 rfl) rfl ?_
  refine V_iconst (v := 2) (zdk tbL_3_ok 47 rfl) rfl ?_
  refine V_iadd (zdk tbL_3_ok 48 rfl) ?_
  obtain ⟨b7, h⟩ := chk_some h
  refine V_sld (zdk tbL_3_ok 49 rfl) (fun ξ hξ => by rw [hξ.2]; exact inN_in b7) (fun ξ hξ => by rw [hξ.1]) ?_
  obtain ⟨μ9, r10, q8, h⟩ := bd2_some h
  refine V_callV (R1 := (rmd 2)) (As := [.int (xs (v3 + (1 : Int32)).toNatClampNeg), .int (xs (v3 + (2 : Int32)).toNatClampNeg)]) (r := (some (.long r10))) (zdk tbL_4_ok 0 rfl) sCL_34 (tX7_element q8) (c_v2) rfl rfl rfl ⟨Nat.le_of_ble_eq_true rfl, Nat.le_of_ble_eq_true rfl⟩ (Nat.le_of_ble_eq_true rfl) ⟨rfl, rfl⟩ id ?_
  refine V_lcmp (zdk tbL_4_ok 1 rfl) ?_
  refine V_if_eq (tgt := 1422) (zdk tbL_4_ok 2 rfl) (by decide) (fun c11 => ?_) (fun c11 => ?_)
  · replace h := ite_t h c11
    exact tL_b1422 hg18 v1 v2 v3 μ9 c_v1 c_v2 h
  · replace h := ite_f h c11
    refine V_iconst (v := 0) (zdk tbL_4_ok 3 rfl) rfl ?_
    cases h
def fL_b320 (g18 : Nat → Nat → Int32 → ZMem → Option (ZMem)) (L : Nat) (xs : Nat → Int32) (n : Nat) (v1 : Nat) (v2 : Nat) (v3 : Int32) (μ : ZMem) : Option (ZMem) := chk (inN (v3 + (1 : Int32)) L) (chk (inN (v3 + (2 : Int32)) L) (chk (inN (v3 + (3 : Int32)) L) (chk (inN (v3 + (4 : Int32)) L) (chk (inN (v3 + (5 : Int32)) L) (bd2 (fX6_copy n v1 (xs (v3 + (1 : Int32)).toNatClampNeg) (xs (v3 + (2 : Int32)).toNatClampNeg) (xs (v3 + (3 : Int32)).toNatClampNeg) (xs (v3 + (4 : Int32)).toNatClampNeg) (xs (v3 + (5 : Int32)).toNatClampNeg) μ) (fun μ7 r8 => chk (inN (v3 + (1 : Int32)) L) (chk (inN (v3 + (2 : Int32)) L) (chk (inN (v3 + (3 : Int32)) L) (chk (inN (v3 + (4 : Int32)) L) (chk (inN (v3 + (5 : Int32)) L) (bd2 (fX7_copy n v2 (xs (v3 + (1 : Int32)).toNatClampNeg) (xs (v3 + (2 : Int32)).toNatClampNeg) (xs (v3 + (3 : Int32)).toNatClampNeg) (xs (v3 + (4 : Int32)).toNatClampNeg) (xs (v3 + (5 : Int32)).toNatClampNeg) μ7) (fun μ15 r16 => (if r8 = r16 then (fL_b1422 g18 L xs n v1 v2 v3 μ15) else none)))))))))))))
theorem tL_b320 {l : Launch} {L : Nat} {xs : Nat → Int32} {n : Nat} {z : ZMem} {g18 : Nat → Nat → Int32 → ZMem → Option (ZMem)} (hg18 : ∀ (v1 : Nat) (v2 : Nat) (v3 : Int32) (μ : ZMem), isC n 6 v1 = true → isC n 7 v2 = true → g18 v1 v2 v3 μ = some z → V (zkL l L xs n z) false 18 [(0, .ref 1000), (1, .ref v1), (2, .ref v2), (3, .int v3)] [] n μ) (v1 : Nat) (v2 : Nat) (v3 : Int32) (μ : ZMem) (c_v1 : isC n 6 v1 = true) (c_v2 : isC n 7 v2 = true) (h : fL_b320 g18 L xs n v1 v2 v3 μ = some z) : V (zkL l L xs n z) false 320 [(0, .ref 1000), (1, .ref v1), (2, .ref v2), (3, .int v3)] [] n μ := by
  unfold fL_b320 at h
  refine V_aload_n 1 (zdk tbL_2_ok 20 rfl) rfl ?_
  refine V_aload_n 0 (zdk tbL_2_ok 21 rfl) rfl ?_
  refine V_iload_n 3 (zdk tbL_2_ok 22 rfl) rfl ?_
  refine V_iconst (v := 1) (zdk tbL_2_ok 23 rfl) rfl ?_
  refine V_iadd (zdk tbL_2_ok 24 rfl) ?_
  obtain ⟨b1, h⟩ := chk_some h
  refine V_sld (zdk tbL_2_ok 25 rfl) (fun ξ hξ => by rw [hξ.2]; exact inN_in b1) (fun ξ hξ => by rw [hξ.1]) ?_
  refine V_aload_n 0 (zdk tbL_2_ok 26 rfl) rfl ?_
  refine V_iload_n 3 (zdk tbL_2_ok 27 rfl) rfl ?_
  refine V_iconst (v := 2) (zdk tbL_2_ok 28 rfl) rfl ?_
  refine V_iadd (zdk tbL_2_ok 29 rfl) ?_
  obtain ⟨b2, h⟩ := chk_some h
  refine V_sld (zdk tbL_2_ok 30 rfl) (fun ξ hξ => by rw [hξ.2]; exact inN_in b2) (fun ξ hξ => by rw [hξ.1]) ?_
  refine V_aload_n 0 (zdk tbL_2_ok 31 rfl) rfl ?_
  refine V_iload_n 3 (zdk tbL_2_ok 32 rfl) rfl ?_
  refine V_iconst (v := 3) (zdk tbL_2_ok 33 rfl) rfl ?_
  refine V_iadd (zdk tbL_2_ok 34 rfl) ?_
  obtain ⟨b3, h⟩ := chk_some h
  refine V_sld (zdk tbL_2_ok 35 rfl) (fun ξ hξ => by rw [hξ.2]; exact inN_in b3) (fun ξ hξ => by rw [hξ.1]) ?_
  refine V_aload_n 0 (zdk tbL_2_ok 36 rfl) rfl ?_
  refine V_iload_n 3 (zdk tbL_2_ok 37 rfl) rfl ?_
  refine V_iconst (v := 4) (zdk tbL_2_ok 38 rfl) rfl ?_
  refine V_iadd (zdk tbL_2_ok 39 rfl) ?_
  obtain ⟨b4, h⟩ := chk_some h
  refine V_sld (zdk tbL_2_ok 40 rfl) (fun ξ hξ => by rw [hξ.2]; exact inN_in b4) (fun ξ hξ => by rw [hξ.1]) ?_
  refine V_aload_n 0 (zdk tbL_2_ok 41 rfl) rfl ?_
  refine V_iload_n 3 (zdk tbL_2_ok 42 rfl) rfl ?_
  refine V_iconst (v := 5) (zdk tbL_2_ok 43 rfl) rfl ?_
  refine V_iadd (zdk tbL_2_ok 44 rfl) ?_
  obtain ⟨b5, h⟩ := chk_some h
  refine V_sld (zdk tbL_2_ok 45 rfl) (fun ξ hξ => by rw [hξ.2]; exact inN_in b5) (fun ξ hξ => by rw [hξ.1]) ?_
  obtain ⟨μ7, r8, q6, h⟩ := bd2_some h
  refine V_callV (R1 := (rmd 4)) (As := [.int (xs (v3 + (1 : Int32)).toNatClampNeg), .int (xs (v3 + (2 : Int32)).toNatClampNeg), .int (xs (v3 + (3 : Int32)).toNatClampNeg), .int (xs (v3 + (4 : Int32)).toNatClampNeg), .int (xs (v3 + (5 : Int32)).toNatClampNeg)]) (r := (some (.int r8))) (zdk tbL_2_ok 46 rfl) sCL_25 (tX6_copy q6) (c_v1) rfl rfl rfl ⟨Nat.le_of_ble_eq_true rfl, Nat.le_of_ble_eq_true rfl⟩ (Nat.le_of_ble_eq_true rfl) ⟨rfl, rfl⟩ id ?_
  refine V_aload_n 2 (zdk tbL_2_ok 47 rfl) rfl ?_
  refine V_aload_n 0 (zdk tbL_2_ok 48 rfl) rfl ?_
  refine V_iload_n 3 (zdk tbL_2_ok 49 rfl) rfl ?_
  refine V_iconst (v := 1) (zdk tbL_3_ok 0 rfl) rfl ?_
  refine V_iadd (zdk tbL_3_ok 1 rfl) ?_
  obtain ⟨b9, h⟩ := chk_some h
  refine V_sld (zdk tbL_3_ok 2 rfl) (fun ξ hξ => by rw [hξ.2]; exact inN_in b9) (fun ξ hξ => by rw [hξ.1]) ?_
  refine V_aload_n 0 (zdk tbL_3_ok 3 rfl) rfl ?_
  refine V_iload_n 3 (zdk tbL_3_ok 4 rfl) rfl ?_
  refine V_iconst (v := 2) (zdk tbL_3_ok 5 rfl) rfl ?_
  refine V_iadd (zdk tbL_3_ok 6 rfl) ?_
  obtain ⟨b10, h⟩ := chk_some h
  refine V_sld (zdk tbL_3_ok 7 rfl) (fun ξ hξ => by rw [hξ.2]; exact inN_in b10) (fun ξ hξ => by rw [hξ.1]) ?_
  refine V_aload_n 0 (zdk tbL_3_ok 8 rfl) rfl ?_
  refine V_iload_n 3 (zdk tbL_3_ok 9 rfl) rfl ?_
  refine V_iconst (v := 3) (zdk tbL_3_ok 10 rfl) rfl ?_
  refine V_iadd (zdk tbL_3_ok 11 rfl) ?_
  obtain ⟨b11, h⟩ := chk_some h
  refine V_sld (zdk tbL_3_ok 12 rfl) (fun ξ hξ => by rw [hξ.2]; exact inN_in b11) (fun ξ hξ => by rw [hξ.1]) ?_
  refine V_aload_n 0 (zdk tbL_3_ok 13 rfl) rfl ?_
  refine V_iload_n 3 (zdk tbL_3_ok 14 rfl) rfl ?_
  refine V_iconst (v := 4) (zdk tbL_3_ok 15 rfl) rfl ?_
  refine V_iadd (zdk tbL_3_ok 16 rfl) ?_
  obtain ⟨b12, h⟩ := chk_some h
  refine V_sld (zdk tbL_3_ok 17 rfl) (fun ξ hξ => by rw [hξ.2]; exact inN_in b12) (fun ξ hξ => by rw [hξ.1]) ?_
  refine V_aload_n 0 (zdk tbL_3_ok 18 rfl) rfl ?_
  refine V_iload_n 3 (zdk tbL_3_ok 19 rfl) rfl ?_
  refine V_iconst (v := 5) (zdk tbL_3_ok 20 rfl) rfl ?_
  refine V_iadd (zdk tbL_3_ok 21 rfl) ?_
  obtain ⟨b13, h⟩ := chk_some h
  refine V_sld (zdk tbL_3_ok 22 rfl) (fun ξ hξ => by rw [hξ.2]; exact inN_in b13) (fun ξ hξ => by rw [hξ.1]) ?_
  obtain ⟨μ15, r16, q14, h⟩ := bd2_some h
  refine V_callV (R1 := (rmd 2)) (As := [.int (xs (v3 + (1 : Int32)).toNatClampNeg), .int (xs (v3 + (2 : Int32)).toNatClampNeg), .int (xs (v3 + (3 : Int32)).toNatClampNeg), .int (xs (v3 + (4 : Int32)).toNatClampNeg), .int (xs (v3 + (5 : Int32)).toNatClampNeg)]) (r := (some (.int r16))) (zdk tbL_3_ok 23 rfl) sCL_29 (tX7_copy q14) (c_v2) rfl rfl rfl ⟨Nat.le_of_ble_eq_true rfl, Nat.le_of_ble_eq_true rfl⟩ (Nat.le_of_ble_eq_true rfl) ⟨rfl, rfl⟩ id ?_
  refine V_icmp_eq (tgt := 1422) (zdk tbL_3_ok 24 rfl) (by decide) (fun c17 => ?_) (fun c17 => ?_)
  · replace h := ite_t h c17
    exact tL_b1422 hg18 v1 v2 v3 μ15 c_v1 c_v2 h
  · replace h := ite_f h c17
    refine V_iconst (v := 0) (zdk tbL_3_ok 25 rfl) rfl ?_
    cases h
def fL_b247 (g18 : Nat → Nat → Int32 → ZMem → Option (ZMem)) (L : Nat) (xs : Nat → Int32) (n : Nat) (v1 : Nat) (v2 : Nat) (v3 : Int32) (μ : ZMem) : Option (ZMem) := chk (inN (v3 + (1 : Int32)) L) (chk (inN (v3 + (2 : Int32)) L) (chk (inN (v3 + (3 : Int32)) L) (chk (inN (v3 + (4 : Int32)) L) (bd2 (fX6_set n v1 (xs (v3 + (1 : Int32)).toNatClampNeg) (xs (v3 + (2 : Int32)).toNatClampNeg) ((((xs (v3 + (3 : Int32)).toNatClampNeg).toInt64) <<< ((32 : Int32).toInt64 &&& 63)) ||| (((xs (v3 + (4 : Int32)).toNatClampNeg).toInt64) &&& (4294967295 : Int64))) μ) (fun μ6 r7 => chk (inN (v3 + (1 : Int32)) L) (chk (inN (v3 + (2 : Int32)) L) (chk (inN (v3 + (3 : Int32)) L) (chk (inN (v3 + (4 : Int32)) L) (bd2 (fX7_set n v2 (xs (v3 + (1 : Int32)).toNatClampNeg) (xs (v3 + (2 : Int32)).toNatClampNeg) ((((xs (v3 + (3 : Int32)).toNatClampNeg).toInt64) <<< ((32 : Int32).toInt64 &&& 63)) ||| (((xs (v3 + (4 : Int32)).toNatClampNeg).toInt64) &&& (4294967295 : Int64))) μ6) (fun μ13 r14 => (if r7 = r14 then (fL_b1422 g18 L xs n v1 v2 v3 μ13) else none)))))))))))
theorem tL_b247 {l : Launch} {L : Nat} {xs : Nat → Int32} {n : Nat} {z : ZMem} {g18 : Nat → Nat → Int32 → ZMem → Option (ZMem)} (hg18 : ∀ (v1 : Nat) (v2 : Nat) (v3 : Int32) (μ : ZMem), isC n 6 v1 = true → isC n 7 v2 = true → g18 v1 v2 v3 μ = some z → V (zkL l L xs n z) false 18 [(0, .ref 1000), (1, .ref v1), (2, .ref v2), (3, .int v3)] [] n μ) (v1 : Nat) (v2 : Nat) (v3 : Int32) (μ : ZMem) (c_v1 : isC n 6 v1 = true) (c_v2 : isC n 7 v2 = true) (h : fL_b247 g18 L xs n v1 v2 v3 μ = some z) : V (zkL l L xs n z) false 247 [(0, .ref 1000), (1, .ref v1), (2, .ref v2), (3, .int v3)] [] n μ := by
  unfold fL_b247 at h
  refine V_aload_n 1 (zdk tbL_1_ok 9 rfl) rfl ?_
  refine V_aload_n 0 (zdk tbL_1_ok 10 rfl) rfl ?_
  refine V_iload_n 3 (zdk tbL_1_ok 11 rfl) rfl ?_
  refine V_iconst (v := 1) (zdk tbL_1_ok 12 rfl) rfl ?_
  refine V_iadd (zdk tbL_1_ok 13 rfl) ?_
  obtain ⟨b1, h⟩ := chk_some h
  refine V_sld (zdk tbL_1_ok 14 rfl) (fun ξ hξ => by rw [hξ.2]; exact inN_in b1) (fun ξ hξ => by rw [hξ.1]) ?_
  refine V_aload_n 0 (zdk tbL_1_ok 15 rfl) rfl ?_
  refine V_iload_n 3 (zdk tbL_1_ok 16 rfl) rfl ?_
  refine V_iconst (v := 2) (zdk tbL_1_ok 17 rfl) rfl ?_
  refine V_iadd (zdk tbL_1_ok 18 rfl) ?_
  obtain ⟨b2, h⟩ := chk_some h
  refine V_sld (zdk tbL_1_ok 19 rfl) (fun ξ hξ => by rw [hξ.2]; exact inN_in b2) (fun ξ hξ => by rw [hξ.1]) ?_
  refine V_aload_n 0 (zdk tbL_1_ok 20 rfl) rfl ?_
  refine V_iload_n 3 (zdk tbL_1_ok 21 rfl) rfl ?_
  refine V_iconst (v := 3) (zdk tbL_1_ok 22 rfl) rfl ?_
  refine V_iadd (zdk tbL_1_ok 23 rfl) ?_
  obtain ⟨b3, h⟩ := chk_some h
  refine V_sld (zdk tbL_1_ok 24 rfl) (fun ξ hξ => by rw [hξ.2]; exact inN_in b3) (fun ξ hξ => by rw [hξ.1]) ?_
  refine V_i2l (zdk tbL_1_ok 25 rfl) rfl ?_
  refine V_bipush (v := 32) (zdk tbL_1_ok 26 rfl) rfl ?_
  refine V_lshl (zdk tbL_1_ok 27 rfl) rfl ?_
  refine V_aload_n 0 (zdk tbL_1_ok 28 rfl) rfl ?_
  refine V_iload_n 3 (zdk tbL_1_ok 29 rfl) rfl ?_
  refine V_iconst (v := 4) (zdk tbL_1_ok 30 rfl) rfl ?_
  refine V_iadd (zdk tbL_1_ok 31 rfl) ?_
  obtain ⟨b4, h⟩ := chk_some h
  refine V_sld (zdk tbL_1_ok 32 rfl) (fun ξ hξ => by rw [hξ.2]; exact inN_in b4) (fun ξ hξ => by rw [hξ.1]) ?_
  refine V_i2l (zdk tbL_1_ok 33 rfl) rfl ?_
  refine V_ldc2 (v := 4294967295) (zdk tbL_1_ok 34 rfl) wKL_18 ?_
  refine V_land (zdk tbL_1_ok 35 rfl) ?_
  refine V_lor (zdk tbL_1_ok 36 rfl) ?_
  obtain ⟨μ6, r7, q5, h⟩ := bd2_some h
  refine V_callV (R1 := (rmd 4)) (As := [.int (xs (v3 + (1 : Int32)).toNatClampNeg), .int (xs (v3 + (2 : Int32)).toNatClampNeg), .long ((((xs (v3 + (3 : Int32)).toNatClampNeg).toInt64) <<< ((32 : Int32).toInt64 &&& 63)) ||| (((xs (v3 + (4 : Int32)).toNatClampNeg).toInt64) &&& (4294967295 : Int64)))]) (r := (some (.int r7))) (zdk tbL_1_ok 37 rfl) sCL_20 (tX6_set q5) (c_v1) rfl rfl rfl ⟨Nat.le_of_ble_eq_true rfl, Nat.le_of_ble_eq_true rfl⟩ (Nat.le_of_ble_eq_true rfl) ⟨rfl, rfl⟩ id ?_
  refine V_aload_n 2 (zdk tbL_1_ok 38 rfl) rfl ?_
  refine V_aload_n 0 (zdk tbL_1_ok 39 rfl) rfl ?_
  refine V_iload_n 3 (zdk tbL_1_ok 40 rfl) rfl ?_
  refine V_iconst (v := 1) (zdk tbL_1_ok 41 rfl) rfl ?_
  refine V_iadd (zdk tbL_1_ok 42 rfl) ?_
  obtain ⟨b8, h⟩ := chk_some h
  refine V_sld (zdk tbL_1_ok 43 rfl) (fun ξ hξ => by rw [hξ.2]; exact inN_in b8) (fun ξ hξ => by rw [hξ.1]) ?_
  refine V_aload_n 0 (zdk tbL_1_ok 44 rfl) rfl ?_
  refine V_iload_n 3 (zdk tbL_1_ok 45 rfl) rfl ?_
  refine V_iconst (v := 2) (zdk tbL_1_ok 46 rfl) rfl ?_
  refine V_iadd (zdk tbL_1_ok 47 rfl) ?_
  obtain ⟨b9, h⟩ := chk_some h
  refine V_sld (zdk tbL_1_ok 48 rfl) (fun ξ hξ => by rw [hξ.2]; exact inN_in b9) (fun ξ hξ => by rw [hξ.1]) ?_
  refine V_aload_n 0 (zdk tbL_1_ok 49 rfl) rfl ?_
  refine V_iload_n 3 (zdk tbL_2_ok 0 rfl) rfl ?_
  refine V_iconst (v := 3) (zdk tbL_2_ok 1 rfl) rfl ?_
  refine V_iadd (zdk tbL_2_ok 2 rfl) ?_
  obtain ⟨b10, h⟩ := chk_some h
  refine V_sld (zdk tbL_2_ok 3 rfl) (fun ξ hξ => by rw [hξ.2]; exact inN_in b10) (fun ξ hξ => by rw [hξ.1]) ?_
  refine V_i2l (zdk tbL_2_ok 4 rfl) rfl ?_
  refine V_bipush (v := 32) (zdk tbL_2_ok 5 rfl) rfl ?_
  refine V_lshl (zdk tbL_2_ok 6 rfl) rfl ?_
  refine V_aload_n 0 (zdk tbL_2_ok 7 rfl) rfl ?_
  refine V_iload_n 3 (zdk tbL_2_ok 8 rfl) rfl ?_
  refine V_iconst (v := 4) (zdk tbL_2_ok 9 rfl) rfl ?_
  refine V_iadd (zdk tbL_2_ok 10 rfl) ?_
  obtain ⟨b11, h⟩ := chk_some h
  refine V_sld (zdk tbL_2_ok 11 rfl) (fun ξ hξ => by rw [hξ.2]; exact inN_in b11) (fun ξ hξ => by rw [hξ.1]) ?_
  refine V_i2l (zdk tbL_2_ok 12 rfl) rfl ?_
  refine V_ldc2 (v := 4294967295) (zdk tbL_2_ok 13 rfl) wKL_18 ?_
  refine V_land (zdk tbL_2_ok 14 rfl) ?_
  refine V_lor (zdk tbL_2_ok 15 rfl) ?_
  obtain ⟨μ13, r14, q12, h⟩ := bd2_some h
  refine V_callV (R1 := (rmd 2)) (As := [.int (xs (v3 + (1 : Int32)).toNatClampNeg), .int (xs (v3 + (2 : Int32)).toNatClampNeg), .long ((((xs (v3 + (3 : Int32)).toNatClampNeg).toInt64) <<< ((32 : Int32).toInt64 &&& 63)) ||| (((xs (v3 + (4 : Int32)).toNatClampNeg).toInt64) &&& (4294967295 : Int64)))]) (r := (some (.int r14))) (zdk tbL_2_ok 16 rfl) sCL_24 (tX7_set q12) (c_v2) rfl rfl rfl ⟨Nat.le_of_ble_eq_true rfl, Nat.le_of_ble_eq_true rfl⟩ (Nat.le_of_ble_eq_true rfl) ⟨rfl, rfl⟩ id ?_
  refine V_icmp_eq (tgt := 1422) (zdk tbL_2_ok 17 rfl) (by decide) (fun c15 => ?_) (fun c15 => ?_)
  · replace h := ite_t h c15
    exact tL_b1422 hg18 v1 v2 v3 μ13 c_v1 c_v2 h
  · replace h := ite_f h c15
    refine V_iconst (v := 0) (zdk tbL_2_ok 18 rfl) rfl ?_
    cases h
def fL_b204 (g18 : Nat → Nat → Int32 → ZMem → Option (ZMem)) (L : Nat) (xs : Nat → Int32) (n : Nat) (v1 : Nat) (v2 : Nat) (v3 : Int32) (μ : ZMem) : Option (ZMem) := chk (inN (v3 + (1 : Int32)) L) (chk (inN (v3 + (2 : Int32)) L) (chk (inN (v3 + (3 : Int32)) L) (bd2 (fX6_row n v1 (xs (v3 + (1 : Int32)).toNatClampNeg) (xs (v3 + (2 : Int32)).toNatClampNeg) (xs (v3 + (3 : Int32)).toNatClampNeg) μ) (fun μ5 r6 => chk (inN (v3 + (1 : Int32)) L) (chk (inN (v3 + (2 : Int32)) L) (chk (inN (v3 + (3 : Int32)) L) (bd2 (fX7_row n v2 (xs (v3 + (1 : Int32)).toNatClampNeg) (xs (v3 + (2 : Int32)).toNatClampNeg) (xs (v3 + (3 : Int32)).toNatClampNeg) μ5) (fun μ11 r12 => (if r6 = r12 then (fL_b1422 g18 L xs n v1 v2 v3 μ11) else none)))))))))
theorem tL_b204 {l : Launch} {L : Nat} {xs : Nat → Int32} {n : Nat} {z : ZMem} {g18 : Nat → Nat → Int32 → ZMem → Option (ZMem)} (hg18 : ∀ (v1 : Nat) (v2 : Nat) (v3 : Int32) (μ : ZMem), isC n 6 v1 = true → isC n 7 v2 = true → g18 v1 v2 v3 μ = some z → V (zkL l L xs n z) false 18 [(0, .ref 1000), (1, .ref v1), (2, .ref v2), (3, .int v3)] [] n μ) (v1 : Nat) (v2 : Nat) (v3 : Int32) (μ : ZMem) (c_v1 : isC n 6 v1 = true) (c_v2 : isC n 7 v2 = true) (h : fL_b204 g18 L xs n v1 v2 v3 μ = some z) : V (zkL l L xs n z) false 204 [(0, .ref 1000), (1, .ref v1), (2, .ref v2), (3, .int v3)] [] n μ := by
  unfold fL_b204 at h
  refine V_aload_n 1 (zdk tbL_0_ok 22 rfl) rfl ?_
  refine V_aload_n 0 (zdk tbL_0_ok 23 rfl) rfl ?_
  refine V_iload_n 3 (zdk tbL_0_ok 24 rfl) rfl ?_
  refine V_iconst (v := 1) (zdk tbL_0_ok 25 rfl) rfl ?_
  refine V_iadd (zdk tbL_0_ok 26 rfl) ?_
  obtain ⟨b1, h⟩ := chk_some h
  refine V_sld (zdk tbL_0_ok 27 rfl) (fun ξ hξ => by rw [hξ.2]; exact inN_in b1) (fun ξ hξ => by rw [hξ.1]) ?_
  refine V_aload_n 0 (zdk tbL_0_ok 28 rfl) rfl ?_
  refine V_iload_n 3 (zdk tbL_0_ok 29 rfl) rfl ?_
  refine V_iconst (v := 2) (zdk tbL_0_ok 30 rfl) rfl ?_
  refine V_iadd (zdk tbL_0_ok 31 rfl) ?_
  obtain ⟨b2, h⟩ := chk_some h
  refine V_sld (zdk tbL_0_ok 32 rfl) (fun ξ hξ => by rw [hξ.2]; exact inN_in b2) (fun ξ hξ => by rw [hξ.1]) ?_
  refine V_aload_n 0 (zdk tbL_0_ok 33 rfl) rfl ?_
  refine V_iload_n 3 (zdk tbL_0_ok 34 rfl) rfl ?_
  refine V_iconst (v := 3) (zdk tbL_0_ok 35 rfl) rfl ?_
  refine V_iadd (zdk tbL_0_ok 36 rfl) ?_
  obtain ⟨b3, h⟩ := chk_some h
  refine V_sld (zdk tbL_0_ok 37 rfl) (fun ξ hξ => by rw [hξ.2]; exact inN_in b3) (fun ξ hξ => by rw [hξ.1]) ?_
  obtain ⟨μ5, r6, q4, h⟩ := bd2_some h
  refine V_callV (R1 := (rmd 3)) (As := [.int (xs (v3 + (1 : Int32)).toNatClampNeg), .int (xs (v3 + (2 : Int32)).toNatClampNeg), .int (xs (v3 + (3 : Int32)).toNatClampNeg)]) (r := (some (.int r6))) (zdk tbL_0_ok 38 rfl) sCL_13 (tX6_row q4) (c_v1) rfl rfl rfl ⟨Nat.le_of_ble_eq_true rfl, Nat.le_of_ble_eq_true rfl⟩ (Nat.le_of_ble_eq_true rfl) ⟨rfl, rfl⟩ id ?_
  refine V_aload_n 2 (zdk tbL_0_ok 39 rfl) rfl ?_
  refine V_aload_n 0 (zdk tbL_0_ok 40 rfl) rfl ?_
  refine V_iload_n 3 (zdk tbL_0_ok 41 rfl) rfl ?_
  refine V_iconst (v := 1) (zdk tbL_0_ok 42 rfl) rfl ?_
  refine V_iadd (zdk tbL_0_ok 43 rfl) ?_
  obtain ⟨b7, h⟩ := chk_some h
  refine V_sld (zdk tbL_0_ok 44 rfl) (fun ξ hξ => by rw [hξ.2]; exact inN_in b7) (fun ξ hξ => by rw [hξ.1]) ?_
  refine V_aload_n 0 (zdk tbL_0_ok 45 rfl) rfl ?_
  refine V_iload_n 3 (zdk tbL_0_ok 46 rfl) rfl ?_
  refine V_iconst (v := 2) (zdk tbL_0_ok 47 rfl) rfl ?_
  refine V_iadd (zdk tbL_0_ok 48 rfl) ?_
  obtain ⟨b8, h⟩ := chk_some h
  refine V_sld (zdk tbL_0_ok 49 rfl) (fun ξ hξ => by rw [hξ.2]; exact inN_in b8) (fun ξ hξ => by rw [hξ.1]) ?_
  refine V_aload_n 0 (zdk tbL_1_ok 0 rfl) rfl ?_
  refine V_iload_n 3 (zdk tbL_1_ok 1 rfl) rfl ?_
  refine V_iconst (v := 3) (zdk tbL_1_ok 2 rfl) rfl ?_
  refine V_iadd (zdk tbL_1_ok 3 rfl) ?_
  obtain ⟨b9, h⟩ := chk_some h
  refine V_sld (zdk tbL_1_ok 4 rfl) (fun ξ hξ => by rw [hξ.2]; exact inN_in b9) (fun ξ hξ => by rw [hξ.1]) ?_
  obtain ⟨μ11, r12, q10, h⟩ := bd2_some h
  refine V_callV (R1 := (rmd 2)) (As := [.int (xs (v3 + (1 : Int32)).toNatClampNeg), .int (xs (v3 + (2 : Int32)).toNatClampNeg), .int (xs (v3 + (3 : Int32)).toNatClampNeg)]) (r := (some (.int r12))) (zdk tbL_1_ok 5 rfl) sCL_17 (tX7_row q10) (c_v2) rfl rfl rfl ⟨Nat.le_of_ble_eq_true rfl, Nat.le_of_ble_eq_true rfl⟩ (Nat.le_of_ble_eq_true rfl) ⟨rfl, rfl⟩ id ?_
  refine V_icmp_eq (tgt := 1422) (zdk tbL_1_ok 6 rfl) (by decide) (fun c13 => ?_) (fun c13 => ?_)
  · replace h := ite_t h c13
    exact tL_b1422 hg18 v1 v2 v3 μ11 c_v1 c_v2 h
  · replace h := ite_f h c13
    refine V_iconst (v := 0) (zdk tbL_1_ok 7 rfl) rfl ?_
    cases h
def fL_b18 (L : Nat) (xs : Nat → Int32) (n : Nat) : Nat → Nat → Nat → Int32 → ZMem → Option (ZMem)
  | 0, _, _, _, _ => none
  | k + 1, v1, v2, v3, μ => (if ((Int32.ofNat L) - (6 : Int32)) < v3 then some μ else chk (inN v3 L) ((if ((xs v3.toNatClampNeg) &&& (63 : Int32)) = (0 : Int32) then (fL_b204 (fL_b18 L xs n k) L xs n v1 v2 v3 μ) else (if ((xs v3.toNatClampNeg) &&& (63 : Int32)) = (1 : Int32) then (fL_b247 (fL_b18 L xs n k) L xs n v1 v2 v3 μ) else (if ((xs v3.toNatClampNeg) &&& (63 : Int32)) = (2 : Int32) then (fL_b320 (fL_b18 L xs n k) L xs n v1 v2 v3 μ) else (if ((xs v3.toNatClampNeg) &&& (63 : Int32)) = (3 : Int32) then (fL_b383 (fL_b18 L xs n k) L xs n v1 v2 v3 μ) else (if ((xs v3.toNatClampNeg) &&& (63 : Int32)) = (4 : Int32) then (fL_b417 (fL_b18 L xs n k) L xs n v1 v2 v3 μ) else (if ((xs v3.toNatClampNeg) &&& (63 : Int32)) = (5 : Int32) then (fL_b450 (fL_b18 L xs n k) L xs n v1 v2 v3 μ) else (if ((xs v3.toNatClampNeg) &&& (63 : Int32)) = (6 : Int32) then (fL_b473 (fL_b18 L xs n k) L xs n v1 v2 v3 μ) else (if ((xs v3.toNatClampNeg) &&& (63 : Int32)) = (7 : Int32) then (fL_b506 (fL_b18 L xs n k) L xs n v1 v2 v3 μ) else (if ((xs v3.toNatClampNeg) &&& (63 : Int32)) = (8 : Int32) then (fL_b559 (fL_b18 L xs n k) L xs n v1 v2 v3 μ) else (if ((xs v3.toNatClampNeg) &&& (63 : Int32)) = (9 : Int32) then (fL_b592 (fL_b18 L xs n k) L xs n v1 v2 v3 μ) else (if ((xs v3.toNatClampNeg) &&& (63 : Int32)) = (10 : Int32) then (fL_b625 (fL_b18 L xs n k) L xs n v1 v2 v3 μ) else (if ((xs v3.toNatClampNeg) &&& (63 : Int32)) = (11 : Int32) then (fL_b648 (fL_b18 L xs n k) L xs n v1 v2 v3 μ) else (if ((xs v3.toNatClampNeg) &&& (63 : Int32)) = (12 : Int32) then (fL_b681 (fL_b18 L xs n k) L xs n v1 v2 v3 μ) else (if ((xs v3.toNatClampNeg) &&& (63 : Int32)) = (13 : Int32) then (fL_b704 (fL_b18 L xs n k) L xs n v1 v2 v3 μ) else (if ((xs v3.toNatClampNeg) &&& (63 : Int32)) = (14 : Int32) then (fL_b717 (fL_b18 L xs n k) L xs n v1 v2 v3 μ) else (if ((xs v3.toNatClampNeg) &&& (63 : Int32)) = (15 : Int32) then (fL_b740 (fL_b18 L xs n k) L xs n v1 v2 v3 μ) else (if ((xs v3.toNatClampNeg) &&& (63 : Int32)) = (16 : Int32) then (fL_b763 (fL_b18 L xs n k) L xs n v1 v2 v3 μ) else (if ((xs v3.toNatClampNeg) &&& (63 : Int32)) = (17 : Int32) then (fL_b796 (fL_b18 L xs n k) L xs n v1 v2 v3 μ) else (if ((xs v3.toNatClampNeg) &&& (63 : Int32)) = (18 : Int32) then (fL_b829 (fL_b18 L xs n k) L xs n v1 v2 v3 μ) else (if ((xs v3.toNatClampNeg) &&& (63 : Int32)) = (19 : Int32) then (fL_b842 (fL_b18 L xs n k) L xs n v1 v2 v3 μ) else (if ((xs v3.toNatClampNeg) &&& (63 : Int32)) = (20 : Int32) then (fL_b875 (fL_b18 L xs n k) L xs n v1 v2 v3 μ) else (if ((xs v3.toNatClampNeg) &&& (63 : Int32)) = (21 : Int32) then (fL_b918 (fL_b18 L xs n k) L xs n v1 v2 v3 μ) else (if ((xs v3.toNatClampNeg) &&& (63 : Int32)) = (22 : Int32) then (fL_b961 (fL_b18 L xs n k) L xs n v1 v2 v3 μ) else (if ((xs v3.toNatClampNeg) &&& (63 : Int32)) = (23 : Int32) then (fL_b994 (fL_b18 L xs n k) L xs n v1 v2 v3 μ) else (if ((xs v3.toNatClampNeg) &&& (63 : Int32)) = (24 : Int32) then (fL_b1027 (fL_b18 L xs n k) L xs n v1 v2 v3 μ) else (if ((xs v3.toNatClampNeg) &&& (63 : Int32)) = (25 : Int32) then (fL_b1040 (fL_b18 L xs n k) L xs n v1 v2 v3 μ) else (if ((xs v3.toNatClampNeg) &&& (63 : Int32)) = (26 : Int32) then (fL_b1073 (fL_b18 L xs n k) L xs n v1 v2 v3 μ) else (if ((xs v3.toNatClampNeg) &&& (63 : Int32)) = (27 : Int32) then (fL_b1096 (fL_b18 L xs n k) L xs n v1 v2 v3 μ) else (if ((xs v3.toNatClampNeg) &&& (63 : Int32)) = (28 : Int32) then (fL_b1129 (fL_b18 L xs n k) L xs n v1 v2 v3 μ) else (if ((xs v3.toNatClampNeg) &&& (63 : Int32)) = (29 : Int32) then (fL_b1172 (fL_b18 L xs n k) L xs n v1 v2 v3 μ) else (if ((xs v3.toNatClampNeg) &&& (63 : Int32)) = (30 : Int32) then (fL_b1205 (fL_b18 L xs n k) L xs n v1 v2 v3 μ) else (if ((xs v3.toNatClampNeg) &&& (63 : Int32)) = (31 : Int32) then (fL_b1238 (fL_b18 L xs n k) L xs n v1 v2 v3 μ) else (if ((xs v3.toNatClampNeg) &&& (63 : Int32)) = (32 : Int32) then (fL_b1261 (fL_b18 L xs n k) L xs n v1 v2 v3 μ) else (if ((xs v3.toNatClampNeg) &&& (63 : Int32)) = (33 : Int32) then (fL_b1284 (fL_b18 L xs n k) L xs n v1 v2 v3 μ) else (if ((xs v3.toNatClampNeg) &&& (63 : Int32)) = (34 : Int32) then (fL_b1307 (fL_b18 L xs n k) L xs n v1 v2 v3 μ) else (if ((xs v3.toNatClampNeg) &&& (63 : Int32)) = (35 : Int32) then (fL_b1350 (fL_b18 L xs n k) L xs n v1 v2 v3 μ) else (if ((xs v3.toNatClampNeg) &&& (63 : Int32)) = (36 : Int32) then (fL_b1373 (fL_b18 L xs n k) L xs n v1 v2 v3 μ) else (if ((xs v3.toNatClampNeg) &&& (63 : Int32)) = (37 : Int32) then (fL_b1386 (fL_b18 L xs n k) L xs n v1 v2 v3 μ) else (if ((xs v3.toNatClampNeg) &&& (63 : Int32)) = (38 : Int32) then (fL_b1399 (fL_b18 L xs n k) L xs n v1 v2 v3 μ) else (fL_b1422 (fL_b18 L xs n k) L xs n v1 v2 v3 μ))))))))))))))))))))))))))))))))))))))))))
theorem tL_b18 {l : Launch} {L : Nat} {xs : Nat → Int32} {n : Nat} {z : ZMem} : ∀ (k : Nat) (v1 : Nat) (v2 : Nat) (v3 : Int32) (μ : ZMem) (c_v1 : isC n 6 v1 = true) (c_v2 : isC n 7 v2 = true), fL_b18 L xs n k v1 v2 v3 μ = some z → V (zkL l L xs n z) false 18 [(0, .ref 1000), (1, .ref v1), (2, .ref v2), (3, .int v3)] [] n μ := by
  intro k
  induction k with
  | zero =>
    intro v1 v2 v3 μ c_v1 c_v2 h
    unfold fL_b18 at h
    cases h
  | succ k ih =>
    intro v1 v2 v3 μ c_v1 c_v2 h
    unfold fL_b18 at h
    refine V_iload_n 3 (zdk tbL_0_ok 10 rfl) rfl ?_
    refine V_aload_n 0 (zdk tbL_0_ok 11 rfl) rfl ?_
    refine V_slen (zdk tbL_0_ok 12 rfl) (fun ξ hξ => by rw [hξ.2]) ?_
    refine V_bipush (v := 6) (zdk tbL_0_ok 13 rfl) rfl ?_
    refine V_isub (zdk tbL_0_ok 14 rfl) ?_
    refine V_icmp_gt (tgt := 1428) (zdk tbL_0_ok 15 rfl) (by decide) (fun c1 => ?_) (fun c1 => ?_)
    · replace h := ite_t h c1
      refine V_iconst (v := 1) (zdk tbL_20_ok 2 rfl) rfl ?_
      cases h
      exact V_zret (zdk tbL_20_ok 3 rfl) rfl (by decide) rfl
    · replace h := ite_f h c1
      refine V_aload_n 0 (zdk tbL_0_ok 16 rfl) rfl ?_
      refine V_iload_n 3 (zdk tbL_0_ok 17 rfl) rfl ?_
      obtain ⟨b2, h⟩ := chk_some h
      refine V_sld (zdk tbL_0_ok 18 rfl) (fun ξ hξ => by rw [hξ.2]; exact inN_in b2) (fun ξ hξ => by rw [hξ.1]) ?_
      refine V_bipush (v := 63) (zdk tbL_0_ok 19 rfl) rfl ?_
      refine V_iand (zdk tbL_0_ok 20 rfl) ?_
      by_cases c3 : ((xs v3.toNatClampNeg) &&& (63 : Int32)) = (0 : Int32)
      · replace h := ite_t h c3
        refine V_tsw (off := 171) (tgt := 204) 0 c3 (zdk tbL_0_ok 21 rfl) (by decide) rfl (by decide) ?_
        exact tL_b204 (fun v1 v2 v3 μ y0 y1 h => ih v1 v2 v3 μ y0 y1 h) v1 v2 v3 μ c_v1 c_v2 h
      · replace h := ite_f h c3
        by_cases c4 : ((xs v3.toNatClampNeg) &&& (63 : Int32)) = (1 : Int32)
        · replace h := ite_t h c4
          refine V_tsw (off := 214) (tgt := 247) 1 c4 (zdk tbL_0_ok 21 rfl) (by decide) rfl (by decide) ?_
          exact tL_b247 (fun v1 v2 v3 μ y0 y1 h => ih v1 v2 v3 μ y0 y1 h) v1 v2 v3 μ c_v1 c_v2 h
        · replace h := ite_f h c4
          by_cases c5 : ((xs v3.toNatClampNeg) &&& (63 : Int32)) = (2 : Int32)
          · replace h := ite_t h c5
            refine V_tsw (off := 287) (tgt := 320) 2 c5 (zdk tbL_0_ok 21 rfl) (by decide) rfl (by decide) ?_
            exact tL_b320 (fun v1 v2 v3 μ y0 y1 h => ih v1 v2 v3 μ y0 y1 h) v1 v2 v3 μ c_v1 c_v2 h
          · replace h := ite_f h c5
            by_cases c6 : ((xs v3.toNatClampNeg) &&& (63 : Int32)) = (3 : Int32)
            · replace h := ite_t h c6
              refine V_tsw (off := 350) (tgt := 383) 3 c6 (zdk tbL_0_ok 21 rfl) (by decide) rfl (by decide) ?_
              exact tL_b383 (fun v1 v2 v3 μ y0 y1 h => ih v1 v2 v3 μ y0 y1 h) v1 v2 v3 μ c_v1 c_v2 h
            · replace h := ite_f h c6
              by_cases c7 : ((xs v3.toNatClampNeg) &&& (63 : Int32)) = (4 : Int32)
              · replace h := ite_t h c7
                refine V_tsw (off := 384) (tgt := 417) 4 c7 (zdk tbL_0_ok 21 rfl) (by decide) rfl (by decide) ?_
                exact tL_b417 (fun v1 v2 v3 μ y0 y1 h => ih v1 v2 v3 μ y0 y1 h) v1 v2 v3 μ c_v1 c_v2 h
              · replace h := ite_f h c7
                by_cases c8 : ((xs v3.toNatClampNeg) &&& (63 : Int32)) = (5 : Int32)
                · replace h := ite_t h c8
                  refine V_tsw (off := 417) (tgt := 450) 5 c8 (zdk tbL_0_ok 21 rfl) (by decide) rfl (by decide) ?_
                  exact tL_b450 (fun v1 v2 v3 μ y0 y1 h => ih v1 v2 v3 μ y0 y1 h) v1 v2 v3 μ c_v1 c_v2 h
                · replace h := ite_f h c8
                  by_cases c9 : ((xs v3.toNatClampNeg) &&& (63 : Int32)) = (6 : Int32)
                  · replace h := ite_t h c9
                    refine V_tsw (off := 440) (tgt := 473) 6 c9 (zdk tbL_0_ok 21 rfl) (by decide) rfl (by decide) ?_
                    exact tL_b473 (fun v1 v2 v3 μ y0 y1 h => ih v1 v2 v3 μ y0 y1 h) v1 v2 v3 μ c_v1 c_v2 h
                  · replace h := ite_f h c9
                    by_cases c10 : ((xs v3.toNatClampNeg) &&& (63 : Int32)) = (7 : Int32)
                    · replace h := ite_t h c10
                      refine V_tsw (off := 473) (tgt := 506) 7 c10 (zdk tbL_0_ok 21 rfl) (by decide) rfl (by decide) ?_
                      exact tL_b506 (fun v1 v2 v3 μ y0 y1 h => ih v1 v2 v3 μ y0 y1 h) v1 v2 v3 μ c_v1 c_v2 h
                    · replace h := ite_f h c10
                      by_cases c11 : ((xs v3.toNatClampNeg) &&& (63 : Int32)) = (8 : Int32)
                      · replace h := ite_t h c11
                        refine V_tsw (off := 526) (tgt := 559) 8 c11 (zdk tbL_0_ok 21 rfl) (by decide) rfl (by decide) ?_
                        exact tL_b559 (fun v1 v2 v3 μ y0 y1 h => ih v1 v2 v3 μ y0 y1 h) v1 v2 v3 μ c_v1 c_v2 h
                      · replace h := ite_f h c11
                        by_cases c12 : ((xs v3.toNatClampNeg) &&& (63 : Int32)) = (9 : Int32)
                        · replace h := ite_t h c12
                          refine V_tsw (off := 559) (tgt := 592) 9 c12 (zdk tbL_0_ok 21 rfl) (by decide) rfl (by decide) ?_
                          exact tL_b592 (fun v1 v2 v3 μ y0 y1 h => ih v1 v2 v3 μ y0 y1 h) v1 v2 v3 μ c_v1 c_v2 h
                        · replace h := ite_f h c12
                          by_cases c13 : ((xs v3.toNatClampNeg) &&& (63 : Int32)) = (10 : Int32)
                          · replace h := ite_t h c13
                            refine V_tsw (off := 592) (tgt := 625) 10 c13 (zdk tbL_0_ok 21 rfl) (by decide) rfl (by decide) ?_
                            exact tL_b625 (fun v1 v2 v3 μ y0 y1 h => ih v1 v2 v3 μ y0 y1 h) v1 v2 v3 μ c_v1 c_v2 h
                          · replace h := ite_f h c13
                            by_cases c14 : ((xs v3.toNatClampNeg) &&& (63 : Int32)) = (11 : Int32)
                            · replace h := ite_t h c14
                              refine V_tsw (off := 615) (tgt := 648) 11 c14 (zdk tbL_0_ok 21 rfl) (by decide) rfl (by decide) ?_
                              exact tL_b648 (fun v1 v2 v3 μ y0 y1 h => ih v1 v2 v3 μ y0 y1 h) v1 v2 v3 μ c_v1 c_v2 h
                            · replace h := ite_f h c14
                              by_cases c15 : ((xs v3.toNatClampNeg) &&& (63 : Int32)) = (12 : Int32)
                              · replace h := ite_t h c15
                                refine V_tsw (off := 648) (tgt := 681) 12 c15 (zdk tbL_0_ok 21 rfl) (by decide) rfl (by decide) ?_
                                exact tL_b681 (fun v1 v2 v3 μ y0 y1 h => ih v1 v2 v3 μ y0 y1 h) v1 v2 v3 μ c_v1 c_v2 h
                              · replace h := ite_f h c15
                                by_cases c16 : ((xs v3.toNatClampNeg) &&& (63 : Int32)) = (13 : Int32)
                                · replace h := ite_t h c16
                                  refine V_tsw (off := 671) (tgt := 704) 13 c16 (zdk tbL_0_ok 21 rfl) (by decide) rfl (by decide) ?_
                                  exact tL_b704 (fun v1 v2 v3 μ y0 y1 h => ih v1 v2 v3 μ y0 y1 h) v1 v2 v3 μ c_v1 c_v2 h
                                · replace h := ite_f h c16
                                  by_cases c17 : ((xs v3.toNatClampNeg) &&& (63 : Int32)) = (14 : Int32)
                                  · replace h := ite_t h c17
                                    refine V_tsw (off := 684) (tgt := 717) 14 c17 (zdk tbL_0_ok 21 rfl) (by decide) rfl (by decide) ?_
                                    exact tL_b717 (fun v1 v2 v3 μ y0 y1 h => ih v1 v2 v3 μ y0 y1 h) v1 v2 v3 μ c_v1 c_v2 h
                                  · replace h := ite_f h c17
                                    by_cases c18 : ((xs v3.toNatClampNeg) &&& (63 : Int32)) = (15 : Int32)
                                    · replace h := ite_t h c18
                                      refine V_tsw (off := 707) (tgt := 740) 15 c18 (zdk tbL_0_ok 21 rfl) (by decide) rfl (by decide) ?_
                                      exact tL_b740 (fun v1 v2 v3 μ y0 y1 h => ih v1 v2 v3 μ y0 y1 h) v1 v2 v3 μ c_v1 c_v2 h
                                    · replace h := ite_f h c18
                                      by_cases c19 : ((xs v3.toNatClampNeg) &&& (63 : Int32)) = (16 : Int32)
                                      · replace h := ite_t h c19
                                        refine V_tsw (off := 730) (tgt := 763) 16 c19 (zdk tbL_0_ok 21 rfl) (by decide) rfl (by decide) ?_
                                        exact tL_b763 (fun v1 v2 v3 μ y0 y1 h => ih v1 v2 v3 μ y0 y1 h) v1 v2 v3 μ c_v1 c_v2 h
                                      · replace h := ite_f h c19
                                        by_cases c20 : ((xs v3.toNatClampNeg) &&& (63 : Int32)) = (17 : Int32)
                                        · replace h := ite_t h c20
                                          refine V_tsw (off := 763) (tgt := 796) 17 c20 (zdk tbL_0_ok 21 rfl) (by decide) rfl (by decide) ?_
                                          exact tL_b796 (fun v1 v2 v3 μ y0 y1 h => ih v1 v2 v3 μ y0 y1 h) v1 v2 v3 μ c_v1 c_v2 h
                                        · replace h := ite_f h c20
                                          by_cases c21 : ((xs v3.toNatClampNeg) &&& (63 : Int32)) = (18 : Int32)
                                          · replace h := ite_t h c21
                                            refine V_tsw (off := 796) (tgt := 829) 18 c21 (zdk tbL_0_ok 21 rfl) (by decide) rfl (by decide) ?_
                                            exact tL_b829 (fun v1 v2 v3 μ y0 y1 h => ih v1 v2 v3 μ y0 y1 h) v1 v2 v3 μ c_v1 c_v2 h
                                          · replace h := ite_f h c21
                                            by_cases c22 : ((xs v3.toNatClampNeg) &&& (63 : Int32)) = (19 : Int32)
                                            · replace h := ite_t h c22
                                              refine V_tsw (off := 809) (tgt := 842) 19 c22 (zdk tbL_0_ok 21 rfl) (by decide) rfl (by decide) ?_
                                              exact tL_b842 (fun v1 v2 v3 μ y0 y1 h => ih v1 v2 v3 μ y0 y1 h) v1 v2 v3 μ c_v1 c_v2 h
                                            · replace h := ite_f h c22
                                              by_cases c23 : ((xs v3.toNatClampNeg) &&& (63 : Int32)) = (20 : Int32)
                                              · replace h := ite_t h c23
                                                refine V_tsw (off := 842) (tgt := 875) 20 c23 (zdk tbL_0_ok 21 rfl) (by decide) rfl (by decide) ?_
                                                exact tL_b875 (fun v1 v2 v3 μ y0 y1 h => ih v1 v2 v3 μ y0 y1 h) v1 v2 v3 μ c_v1 c_v2 h
                                              · replace h := ite_f h c23
                                                by_cases c24 : ((xs v3.toNatClampNeg) &&& (63 : Int32)) = (21 : Int32)
                                                · replace h := ite_t h c24
                                                  refine V_tsw (off := 885) (tgt := 918) 21 c24 (zdk tbL_0_ok 21 rfl) (by decide) rfl (by decide) ?_
                                                  exact tL_b918 (fun v1 v2 v3 μ y0 y1 h => ih v1 v2 v3 μ y0 y1 h) v1 v2 v3 μ c_v1 c_v2 h
                                                · replace h := ite_f h c24
                                                  by_cases c25 : ((xs v3.toNatClampNeg) &&& (63 : Int32)) = (22 : Int32)
                                                  · replace h := ite_t h c25
                                                    refine V_tsw (off := 928) (tgt := 961) 22 c25 (zdk tbL_0_ok 21 rfl) (by decide) rfl (by decide) ?_
                                                    exact tL_b961 (fun v1 v2 v3 μ y0 y1 h => ih v1 v2 v3 μ y0 y1 h) v1 v2 v3 μ c_v1 c_v2 h
                                                  · replace h := ite_f h c25
                                                    by_cases c26 : ((xs v3.toNatClampNeg) &&& (63 : Int32)) = (23 : Int32)
                                                    · replace h := ite_t h c26
                                                      refine V_tsw (off := 961) (tgt := 994) 23 c26 (zdk tbL_0_ok 21 rfl) (by decide) rfl (by decide) ?_
                                                      exact tL_b994 (fun v1 v2 v3 μ y0 y1 h => ih v1 v2 v3 μ y0 y1 h) v1 v2 v3 μ c_v1 c_v2 h
                                                    · replace h := ite_f h c26
                                                      by_cases c27 : ((xs v3.toNatClampNeg) &&& (63 : Int32)) = (24 : Int32)
                                                      · replace h := ite_t h c27
                                                        refine V_tsw (off := 994) (tgt := 1027) 24 c27 (zdk tbL_0_ok 21 rfl) (by decide) rfl (by decide) ?_
                                                        exact tL_b1027 (fun v1 v2 v3 μ y0 y1 h => ih v1 v2 v3 μ y0 y1 h) v1 v2 v3 μ c_v1 c_v2 h
                                                      · replace h := ite_f h c27
                                                        by_cases c28 : ((xs v3.toNatClampNeg) &&& (63 : Int32)) = (25 : Int32)
                                                        · replace h := ite_t h c28
                                                          refine V_tsw (off := 1007) (tgt := 1040) 25 c28 (zdk tbL_0_ok 21 rfl) (by decide) rfl (by decide) ?_
                                                          exact tL_b1040 (fun v1 v2 v3 μ y0 y1 h => ih v1 v2 v3 μ y0 y1 h) v1 v2 v3 μ c_v1 c_v2 h
                                                        · replace h := ite_f h c28
                                                          by_cases c29 : ((xs v3.toNatClampNeg) &&& (63 : Int32)) = (26 : Int32)
                                                          · replace h := ite_t h c29
                                                            refine V_tsw (off := 1040) (tgt := 1073) 26 c29 (zdk tbL_0_ok 21 rfl) (by decide) rfl (by decide) ?_
                                                            exact tL_b1073 (fun v1 v2 v3 μ y0 y1 h => ih v1 v2 v3 μ y0 y1 h) v1 v2 v3 μ c_v1 c_v2 h
                                                          · replace h := ite_f h c29
                                                            by_cases c30 : ((xs v3.toNatClampNeg) &&& (63 : Int32)) = (27 : Int32)
                                                            · replace h := ite_t h c30
                                                              refine V_tsw (off := 1063) (tgt := 1096) 27 c30 (zdk tbL_0_ok 21 rfl) (by decide) rfl (by decide) ?_
                                                              exact tL_b1096 (fun v1 v2 v3 μ y0 y1 h => ih v1 v2 v3 μ y0 y1 h) v1 v2 v3 μ c_v1 c_v2 h
                                                            · replace h := ite_f h c30
                                                              by_cases c31 : ((xs v3.toNatClampNeg) &&& (63 : Int32)) = (28 : Int32)
                                                              · replace h := ite_t h c31
                                                                refine V_tsw (off := 1096) (tgt := 1129) 28 c31 (zdk tbL_0_ok 21 rfl) (by decide) rfl (by decide) ?_
                                                                exact tL_b1129 (fun v1 v2 v3 μ y0 y1 h => ih v1 v2 v3 μ y0 y1 h) v1 v2 v3 μ c_v1 c_v2 h
                                                              · replace h := ite_f h c31
                                                                by_cases c32 : ((xs v3.toNatClampNeg) &&& (63 : Int32)) = (29 : Int32)
                                                                · replace h := ite_t h c32
                                                                  refine V_tsw (off := 1139) (tgt := 1172) 29 c32 (zdk tbL_0_ok 21 rfl) (by decide) rfl (by decide) ?_
                                                                  exact tL_b1172 (fun v1 v2 v3 μ y0 y1 h => ih v1 v2 v3 μ y0 y1 h) v1 v2 v3 μ c_v1 c_v2 h
                                                                · replace h := ite_f h c32
                                                                  by_cases c33 : ((xs v3.toNatClampNeg) &&& (63 : Int32)) = (30 : Int32)
                                                                  · replace h := ite_t h c33
                                                                    refine V_tsw (off := 1172) (tgt := 1205) 30 c33 (zdk tbL_0_ok 21 rfl) (by decide) rfl (by decide) ?_
                                                                    exact tL_b1205 (fun v1 v2 v3 μ y0 y1 h => ih v1 v2 v3 μ y0 y1 h) v1 v2 v3 μ c_v1 c_v2 h
                                                                  · replace h := ite_f h c33
                                                                    by_cases c34 : ((xs v3.toNatClampNeg) &&& (63 : Int32)) = (31 : Int32)
                                                                    · replace h := ite_t h c34
                                                                      refine V_tsw (off := 1205) (tgt := 1238) 31 c34 (zdk tbL_0_ok 21 rfl) (by decide) rfl (by decide) ?_
                                                                      exact tL_b1238 (fun v1 v2 v3 μ y0 y1 h => ih v1 v2 v3 μ y0 y1 h) v1 v2 v3 μ c_v1 c_v2 h
                                                                    · replace h := ite_f h c34
                                                                      by_cases c35 : ((xs v3.toNatClampNeg) &&& (63 : Int32)) = (32 : Int32)
                                                                      · replace h := ite_t h c35
                                                                        refine V_tsw (off := 1228) (tgt := 1261) 32 c35 (zdk tbL_0_ok 21 rfl) (by decide) rfl (by decide) ?_
                                                                        exact tL_b1261 (fun v1 v2 v3 μ y0 y1 h => ih v1 v2 v3 μ y0 y1 h) v1 v2 v3 μ c_v1 c_v2 h
                                                                      · replace h := ite_f h c35
                                                                        by_cases c36 : ((xs v3.toNatClampNeg) &&& (63 : Int32)) = (33 : Int32)
                                                                        · replace h := ite_t h c36
                                                                          refine V_tsw (off := 1251) (tgt := 1284) 33 c36 (zdk tbL_0_ok 21 rfl) (by decide) rfl (by decide) ?_
                                                                          exact tL_b1284 (fun v1 v2 v3 μ y0 y1 h => ih v1 v2 v3 μ y0 y1 h) v1 v2 v3 μ c_v1 c_v2 h
                                                                        · replace h := ite_f h c36
                                                                          by_cases c37 : ((xs v3.toNatClampNeg) &&& (63 : Int32)) = (34 : Int32)
                                                                          · replace h := ite_t h c37
                                                                            refine V_tsw (off := 1274) (tgt := 1307) 34 c37 (zdk tbL_0_ok 21 rfl) (by decide) rfl (by decide) ?_
                                                                            exact tL_b1307 (fun v1 v2 v3 μ y0 y1 h => ih v1 v2 v3 μ y0 y1 h) v1 v2 v3 μ c_v1 c_v2 h
                                                                          · replace h := ite_f h c37
                                                                            by_cases c38 : ((xs v3.toNatClampNeg) &&& (63 : Int32)) = (35 : Int32)
                                                                            · replace h := ite_t h c38
                                                                              refine V_tsw (off := 1317) (tgt := 1350) 35 c38 (zdk tbL_0_ok 21 rfl) (by decide) rfl (by decide) ?_
                                                                              exact tL_b1350 (fun v1 v2 v3 μ y0 y1 h => ih v1 v2 v3 μ y0 y1 h) v1 v2 v3 μ c_v1 c_v2 h
                                                                            · replace h := ite_f h c38
                                                                              by_cases c39 : ((xs v3.toNatClampNeg) &&& (63 : Int32)) = (36 : Int32)
                                                                              · replace h := ite_t h c39
                                                                                refine V_tsw (off := 1340) (tgt := 1373) 36 c39 (zdk tbL_0_ok 21 rfl) (by decide) rfl (by decide) ?_
                                                                                exact tL_b1373 (fun v1 v2 v3 μ y0 y1 h => ih v1 v2 v3 μ y0 y1 h) v1 v2 v3 μ c_v1 c_v2 h
                                                                              · replace h := ite_f h c39
                                                                                by_cases c40 : ((xs v3.toNatClampNeg) &&& (63 : Int32)) = (37 : Int32)
                                                                                · replace h := ite_t h c40
                                                                                  refine V_tsw (off := 1353) (tgt := 1386) 37 c40 (zdk tbL_0_ok 21 rfl) (by decide) rfl (by decide) ?_
                                                                                  exact tL_b1386 (fun v1 v2 v3 μ y0 y1 h => ih v1 v2 v3 μ y0 y1 h) v1 v2 v3 μ c_v1 c_v2 h
                                                                                · replace h := ite_f h c40
                                                                                  by_cases c41 : ((xs v3.toNatClampNeg) &&& (63 : Int32)) = (38 : Int32)
                                                                                  · replace h := ite_t h c41
                                                                                    refine V_tsw (off := 1366) (tgt := 1399) 38 c41 (zdk tbL_0_ok 21 rfl) (by decide) rfl (by decide) ?_
                                                                                    exact tL_b1399 (fun v1 v2 v3 μ y0 y1 h => ih v1 v2 v3 μ y0 y1 h) v1 v2 v3 μ c_v1 c_v2 h
                                                                                  · replace h := ite_f h c41
                                                                                    refine V_tsw0 (tgt := 1422) [0, 1, 2, 3, 4, 5, 6, 7, 8, 9, 10, 11, 12, 13, 14, 15, 16, 17, 18, 19, 20, 21, 22, 23, 24, 25, 26, 27, 28, 29, 30, 31, 32, 33, 34, 35, 36, 37, 38] (List.forall_mem_cons.mpr ⟨c3, List.forall_mem_cons.mpr ⟨c4, List.forall_mem_cons.mpr ⟨c5, List.forall_mem_cons.mpr ⟨c6, List.forall_mem_cons.mpr ⟨c7, List.forall_mem_cons.mpr ⟨c8, List.forall_mem_cons.mpr ⟨c9, List.forall_mem_cons.mpr ⟨c10, List.forall_mem_cons.mpr ⟨c11, List.forall_mem_cons.mpr ⟨c12, List.forall_mem_cons.mpr ⟨c13, List.forall_mem_cons.mpr ⟨c14, List.forall_mem_cons.mpr ⟨c15, List.forall_mem_cons.mpr ⟨c16, List.forall_mem_cons.mpr ⟨c17, List.forall_mem_cons.mpr ⟨c18, List.forall_mem_cons.mpr ⟨c19, List.forall_mem_cons.mpr ⟨c20, List.forall_mem_cons.mpr ⟨c21, List.forall_mem_cons.mpr ⟨c22, List.forall_mem_cons.mpr ⟨c23, List.forall_mem_cons.mpr ⟨c24, List.forall_mem_cons.mpr ⟨c25, List.forall_mem_cons.mpr ⟨c26, List.forall_mem_cons.mpr ⟨c27, List.forall_mem_cons.mpr ⟨c28, List.forall_mem_cons.mpr ⟨c29, List.forall_mem_cons.mpr ⟨c30, List.forall_mem_cons.mpr ⟨c31, List.forall_mem_cons.mpr ⟨c32, List.forall_mem_cons.mpr ⟨c33, List.forall_mem_cons.mpr ⟨c34, List.forall_mem_cons.mpr ⟨c35, List.forall_mem_cons.mpr ⟨c36, List.forall_mem_cons.mpr ⟨c37, List.forall_mem_cons.mpr ⟨c38, List.forall_mem_cons.mpr ⟨c39, List.forall_mem_cons.mpr ⟨c40, List.forall_mem_cons.mpr ⟨c41, fun _ h => absurd h List.not_mem_nil⟩⟩⟩⟩⟩⟩⟩⟩⟩⟩⟩⟩⟩⟩⟩⟩⟩⟩⟩⟩⟩⟩⟩⟩⟩⟩⟩⟩⟩⟩⟩⟩⟩⟩⟩⟩⟩⟩⟩) (zdk tbL_0_ok 21 rfl) (by decide) (by decide) (by decide) ?_
                                                                                    exact tL_b1422 (fun v1 v2 v3 μ y0 y1 h => ih v1 v2 v3 μ y0 y1 h) v1 v2 v3 μ c_v1 c_v2 h
