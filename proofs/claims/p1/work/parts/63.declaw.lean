def tL_law_0 : List (Nat × Instr × Nat) := [(0, .new 7, 3), (3, .dup, 1), (4, .invokespecial 9, 3), (7, .astore_n 1, 1), (8, .new 10, 3), (11, .dup, 1), (12, .invokespecial 12, 3), (15, .astore_n 2, 1), (16, .iconst 0, 1), (17, .istore_n 3, 1), (18, .iload_n 3, 1), (19, .aload_n 0, 1), (20, .arraylength, 1), (21, .bipush (6), 2), (23, .isub, 1), (24, .if_icmp .gt (1457), 3)]
theorem kL_law_0 {nm : String} : DEC (mLn nm) tL_law_0 := (show ∀ e ∈ tL_law_0, decode code e.1 = .ok e.2 from by decide +kernel)
def tL_law_1 : List (Nat × Instr × Nat) := [(27, .aload_n 0, 1), (28, .iload_n 3, 1), (29, .iaload, 1), (30, .bipush (63), 2), (32, .iand, 1), (33, .tableswitch (1442) (0) (38) #[171, 204, 247, 290, 323, 346, 359, 382, 406, 459, 502, 535, 568, 601, 635, 678, 711, 744, 777, 810, 844, 887, 930, 953, 976, 999, 1012, 1025, 1038, 1051, 1074, 1117, 1140, 1173, 1216, 1289, 1323, 1386, 1419], 171), (204, .aload_n 1, 1), (205, .aload_n 0, 1), (206, .iload_n 3, 1), (207, .iconst 1, 1), (208, .iadd, 1), (209, .iaload, 1), (210, .aload_n 0, 1), (211, .iload_n 3, 1), (212, .iconst 2, 1), (213, .iadd, 1)]
theorem kL_law_1 {nm : String} : DEC (mLn nm) tL_law_1 := (show ∀ e ∈ tL_law_1, decode code e.1 = .ok e.2 from by decide +kernel)
def tL_law_2 : List (Nat × Instr × Nat) := [(214, .iaload, 1), (215, .invokevirtual 13, 3), (218, .aload_n 2, 1), (219, .aload_n 0, 1), (220, .iload_n 3, 1), (221, .iconst 1, 1), (222, .iadd, 1), (223, .iaload, 1), (224, .aload_n 0, 1), (225, .iload_n 3, 1), (226, .iconst 2, 1), (227, .iadd, 1), (228, .iaload, 1), (229, .invokevirtual 17, 3), (232, .if_icmp .eq (1243), 3), (235, .iconst 0, 1)]
theorem kL_law_2 {nm : String} : DEC (mLn nm) tL_law_2 := (show ∀ e ∈ tL_law_2, decode code e.1 = .ok e.2 from by decide +kernel)
def tL_law_3 : List (Nat × Instr × Nat) := [(236, .ireturn, 1), (237, .aload_n 1, 1), (238, .aload_n 0, 1), (239, .iload_n 3, 1), (240, .iconst 1, 1), (241, .iadd, 1), (242, .iaload, 1), (243, .aload_n 0, 1), (244, .iload_n 3, 1), (245, .iconst 2, 1), (246, .iadd, 1), (247, .iaload, 1), (248, .aload_n 0, 1), (249, .iload_n 3, 1), (250, .iconst 3, 1), (251, .iadd, 1)]
theorem kL_law_3 {nm : String} : DEC (mLn nm) tL_law_3 := (show ∀ e ∈ tL_law_3, decode code e.1 = .ok e.2 from by decide +kernel)
def tL_law_4 : List (Nat × Instr × Nat) := [(252, .iaload, 1), (253, .invokevirtual 18, 3), (256, .aload_n 2, 1), (257, .aload_n 0, 1), (258, .iload_n 3, 1), (259, .iconst 1, 1), (260, .iadd, 1), (261, .iaload, 1), (262, .aload_n 0, 1), (263, .iload_n 3, 1), (264, .iconst 2, 1), (265, .iadd, 1), (266, .iaload, 1), (267, .aload_n 0, 1), (268, .iload_n 3, 1), (269, .iconst 3, 1)]
theorem kL_law_4 {nm : String} : DEC (mLn nm) tL_law_4 := (show ∀ e ∈ tL_law_4, decode code e.1 = .ok e.2 from by decide +kernel)
def tL_law_5 : List (Nat × Instr × Nat) := [(270, .iadd, 1), (271, .iaload, 1), (272, .invokevirtual 22, 3), (275, .if_icmp .eq (1200), 3), (278, .iconst 0, 1), (279, .ireturn, 1), (280, .aload_n 1, 1), (281, .aload_n 0, 1), (282, .iload_n 3, 1), (283, .iconst 1, 1), (284, .iadd, 1), (285, .iaload, 1), (286, .aload_n 0, 1), (287, .iload_n 3, 1), (288, .iconst 2, 1), (289, .iadd, 1)]
theorem kL_law_5 {nm : String} : DEC (mLn nm) tL_law_5 := (show ∀ e ∈ tL_law_5, decode code e.1 = .ok e.2 from by decide +kernel)
def tL_law_6 : List (Nat × Instr × Nat) := [(290, .iaload, 1), (291, .aload_n 0, 1), (292, .iload_n 3, 1), (293, .iconst 3, 1), (294, .iadd, 1), (295, .iaload, 1), (296, .invokevirtual 23, 3), (299, .aload_n 2, 1), (300, .aload_n 0, 1), (301, .iload_n 3, 1), (302, .iconst 1, 1), (303, .iadd, 1), (304, .iaload, 1), (305, .aload_n 0, 1), (306, .iload_n 3, 1), (307, .iconst 2, 1)]
theorem kL_law_6 {nm : String} : DEC (mLn nm) tL_law_6 := (show ∀ e ∈ tL_law_6, decode code e.1 = .ok e.2 from by decide +kernel)
def tL_law_7 : List (Nat × Instr × Nat) := [(308, .iadd, 1), (309, .iaload, 1), (310, .aload_n 0, 1), (311, .iload_n 3, 1), (312, .iconst 3, 1), (313, .iadd, 1), (314, .iaload, 1), (315, .invokevirtual 26, 3), (318, .if_icmp .eq (1157), 3), (321, .iconst 0, 1), (322, .ireturn, 1), (323, .aload_n 1, 1), (324, .aload_n 0, 1), (325, .iload_n 3, 1), (326, .iconst 1, 1), (327, .iadd, 1)]
theorem kL_law_7 {nm : String} : DEC (mLn nm) tL_law_7 := (show ∀ e ∈ tL_law_7, decode code e.1 = .ok e.2 from by decide +kernel)
def tL_law_8 : List (Nat × Instr × Nat) := [(328, .iaload, 1), (329, .aload_n 0, 1), (330, .iload_n 3, 1), (331, .iconst 2, 1), (332, .iadd, 1), (333, .iaload, 1), (334, .invokevirtual 27, 3), (337, .aload_n 2, 1), (338, .aload_n 0, 1), (339, .iload_n 3, 1), (340, .iconst 1, 1), (341, .iadd, 1), (342, .iaload, 1), (343, .aload_n 0, 1), (344, .iload_n 3, 1), (345, .iconst 2, 1)]
theorem kL_law_8 {nm : String} : DEC (mLn nm) tL_law_8 := (show ∀ e ∈ tL_law_8, decode code e.1 = .ok e.2 from by decide +kernel)
def tL_law_9 : List (Nat × Instr × Nat) := [(346, .iadd, 1), (347, .iaload, 1), (348, .invokevirtual 30, 3), (351, .if_icmp .eq (1124), 3), (354, .iconst 0, 1), (355, .ireturn, 1), (356, .aload_n 1, 1), (357, .aload_n 0, 1), (358, .iload_n 3, 1), (359, .iconst 1, 1), (360, .iadd, 1), (361, .iaload, 1), (362, .invokevirtual 31, 3), (365, .aload_n 2, 1), (366, .aload_n 0, 1), (367, .iload_n 3, 1)]
theorem kL_law_9 {nm : String} : DEC (mLn nm) tL_law_9 := (show ∀ e ∈ tL_law_9, decode code e.1 = .ok e.2 from by decide +kernel)
def tL_law_10 : List (Nat × Instr × Nat) := [(368, .iconst 1, 1), (369, .iadd, 1), (370, .iaload, 1), (371, .invokevirtual 35, 3), (374, .if_icmp .eq (1101), 3), (377, .iconst 0, 1), (378, .ireturn, 1), (379, .aload_n 1, 1), (380, .invokevirtual 36, 3), (383, .aload_n 2, 1), (384, .invokevirtual 40, 3), (387, .if_icmp .eq (1088), 3), (390, .iconst 0, 1), (391, .ireturn, 1), (392, .aload_n 1, 1), (393, .aload_n 0, 1)]
theorem kL_law_10 {nm : String} : DEC (mLn nm) tL_law_10 := (show ∀ e ∈ tL_law_10, decode code e.1 = .ok e.2 from by decide +kernel)
def tL_law_11 : List (Nat × Instr × Nat) := [(394, .iload_n 3, 1), (395, .iconst 1, 1), (396, .iadd, 1), (397, .iaload, 1), (398, .invokevirtual 41, 3), (401, .aload_n 2, 1), (402, .aload_n 0, 1), (403, .iload_n 3, 1), (404, .iconst 1, 1), (405, .iadd, 1), (406, .iaload, 1), (407, .invokevirtual 44, 3), (410, .if_icmp .eq (1065), 3), (413, .iconst 0, 1), (414, .ireturn, 1), (415, .aload_n 1, 1)]
theorem kL_law_11 {nm : String} : DEC (mLn nm) tL_law_11 := (show ∀ e ∈ tL_law_11, decode code e.1 = .ok e.2 from by decide +kernel)
def tL_law_12 : List (Nat × Instr × Nat) := [(416, .aload_n 0, 1), (417, .iload_n 3, 1), (418, .iconst 1, 1), (419, .iadd, 1), (420, .iaload, 1), (421, .invokevirtual 45, 3), (424, .aload_n 2, 1), (425, .aload_n 0, 1), (426, .iload_n 3, 1), (427, .iconst 1, 1), (428, .iadd, 1), (429, .iaload, 1), (430, .invokevirtual 49, 3), (433, .lcmp, 1), (434, .ifCond .eq (1041), 3), (437, .iconst 0, 1)]
theorem kL_law_12 {nm : String} : DEC (mLn nm) tL_law_12 := (show ∀ e ∈ tL_law_12, decode code e.1 = .ok e.2 from by decide +kernel)
def tL_law_13 : List (Nat × Instr × Nat) := [(438, .ireturn, 1), (439, .aload_n 1, 1), (440, .aload_n 0, 1), (441, .iload_n 3, 1), (442, .iconst 1, 1), (443, .iadd, 1), (444, .iaload, 1), (445, .aload_n 0, 1), (446, .iload_n 3, 1), (447, .iconst 2, 1), (448, .iadd, 1), (449, .iaload, 1), (450, .aload_n 0, 1), (451, .iload_n 3, 1), (452, .iconst 3, 1), (453, .iadd, 1)]
theorem kL_law_13 {nm : String} : DEC (mLn nm) tL_law_13 := (show ∀ e ∈ tL_law_13, decode code e.1 = .ok e.2 from by decide +kernel)
def tL_law_14 : List (Nat × Instr × Nat) := [(454, .iaload, 1), (455, .aload_n 0, 1), (456, .iload_n 3, 1), (457, .iconst 4, 1), (458, .iadd, 1), (459, .iaload, 1), (460, .invokevirtual 50, 3), (463, .aload_n 2, 1), (464, .aload_n 0, 1), (465, .iload_n 3, 1), (466, .iconst 1, 1), (467, .iadd, 1), (468, .iaload, 1), (469, .aload_n 0, 1), (470, .iload_n 3, 1), (471, .iconst 2, 1)]
theorem kL_law_14 {nm : String} : DEC (mLn nm) tL_law_14 := (show ∀ e ∈ tL_law_14, decode code e.1 = .ok e.2 from by decide +kernel)
def tL_law_15 : List (Nat × Instr × Nat) := [(472, .iadd, 1), (473, .iaload, 1), (474, .aload_n 0, 1), (475, .iload_n 3, 1), (476, .iconst 3, 1), (477, .iadd, 1), (478, .iaload, 1), (479, .aload_n 0, 1), (480, .iload_n 3, 1), (481, .iconst 4, 1), (482, .iadd, 1), (483, .iaload, 1), (484, .invokevirtual 54, 3), (487, .if_icmp .eq (988), 3), (490, .iconst 0, 1), (491, .ireturn, 1)]
theorem kL_law_15 {nm : String} : DEC (mLn nm) tL_law_15 := (show ∀ e ∈ tL_law_15, decode code e.1 = .ok e.2 from by decide +kernel)
def tL_law_16 : List (Nat × Instr × Nat) := [(492, .aload_n 1, 1), (493, .aload_n 0, 1), (494, .iload_n 3, 1), (495, .iconst 1, 1), (496, .iadd, 1), (497, .iaload, 1), (498, .aload_n 0, 1), (499, .iload_n 3, 1), (500, .iconst 2, 1), (501, .iadd, 1), (502, .iaload, 1), (503, .aload_n 0, 1), (504, .iload_n 3, 1), (505, .iconst 3, 1), (506, .iadd, 1), (507, .iaload, 1)]
theorem kL_law_16 {nm : String} : DEC (mLn nm) tL_law_16 := (show ∀ e ∈ tL_law_16, decode code e.1 = .ok e.2 from by decide +kernel)
def tL_law_17 : List (Nat × Instr × Nat) := [(508, .invokevirtual 55, 3), (511, .aload_n 2, 1), (512, .aload_n 0, 1), (513, .iload_n 3, 1), (514, .iconst 1, 1), (515, .iadd, 1), (516, .iaload, 1), (517, .aload_n 0, 1), (518, .iload_n 3, 1), (519, .iconst 2, 1), (520, .iadd, 1), (521, .iaload, 1), (522, .aload_n 0, 1), (523, .iload_n 3, 1), (524, .iconst 3, 1), (525, .iadd, 1)]
theorem kL_law_17 {nm : String} : DEC (mLn nm) tL_law_17 := (show ∀ e ∈ tL_law_17, decode code e.1 = .ok e.2 from by decide +kernel)
def tL_law_18 : List (Nat × Instr × Nat) := [(526, .iaload, 1), (527, .invokevirtual 58, 3), (530, .if_icmp .eq (945), 3), (533, .iconst 0, 1), (534, .ireturn, 1), (535, .aload_n 1, 1), (536, .aload_n 0, 1), (537, .iload_n 3, 1), (538, .iconst 1, 1), (539, .iadd, 1), (540, .iaload, 1), (541, .aload_n 0, 1), (542, .iload_n 3, 1), (543, .iconst 2, 1), (544, .iadd, 1), (545, .iaload, 1)]
theorem kL_law_18 {nm : String} : DEC (mLn nm) tL_law_18 := (show ∀ e ∈ tL_law_18, decode code e.1 = .ok e.2 from by decide +kernel)
def tL_law_19 : List (Nat × Instr × Nat) := [(546, .invokevirtual 59, 3), (549, .aload_n 2, 1), (550, .aload_n 0, 1), (551, .iload_n 3, 1), (552, .iconst 1, 1), (553, .iadd, 1), (554, .iaload, 1), (555, .aload_n 0, 1), (556, .iload_n 3, 1), (557, .iconst 2, 1), (558, .iadd, 1), (559, .iaload, 1), (560, .invokevirtual 62, 3), (563, .if_icmp .eq (912), 3), (566, .iconst 0, 1), (567, .ireturn, 1)]
theorem kL_law_19 {nm : String} : DEC (mLn nm) tL_law_19 := (show ∀ e ∈ tL_law_19, decode code e.1 = .ok e.2 from by decide +kernel)
def tL_law_20 : List (Nat × Instr × Nat) := [(568, .aload_n 1, 1), (569, .aload_n 0, 1), (570, .iload_n 3, 1), (571, .iconst 1, 1), (572, .iadd, 1), (573, .iaload, 1), (574, .aload_n 0, 1), (575, .iload_n 3, 1), (576, .iconst 2, 1), (577, .iadd, 1), (578, .iaload, 1), (579, .invokevirtual 63, 3), (582, .aload_n 2, 1), (583, .aload_n 0, 1), (584, .iload_n 3, 1), (585, .iconst 1, 1)]
theorem kL_law_20 {nm : String} : DEC (mLn nm) tL_law_20 := (show ∀ e ∈ tL_law_20, decode code e.1 = .ok e.2 from by decide +kernel)
def tL_law_21 : List (Nat × Instr × Nat) := [(586, .iadd, 1), (587, .iaload, 1), (588, .aload_n 0, 1), (589, .iload_n 3, 1), (590, .iconst 2, 1), (591, .iadd, 1), (592, .iaload, 1), (593, .invokevirtual 66, 3), (596, .if_icmp .eq (879), 3), (599, .iconst 0, 1), (600, .ireturn, 1), (601, .aload_n 1, 1), (602, .aload_n 0, 1), (603, .iload_n 3, 1), (604, .iconst 1, 1), (605, .iadd, 1)]
theorem kL_law_21 {nm : String} : DEC (mLn nm) tL_law_21 := (show ∀ e ∈ tL_law_21, decode code e.1 = .ok e.2 from by decide +kernel)
def tL_law_22 : List (Nat × Instr × Nat) := [(606, .iaload, 1), (607, .aload_n 0, 1), (608, .iload_n 3, 1), (609, .iconst 2, 1), (610, .iadd, 1), (611, .iaload, 1), (612, .invokevirtual 67, 3), (615, .aload_n 2, 1), (616, .aload_n 0, 1), (617, .iload_n 3, 1), (618, .iconst 1, 1), (619, .iadd, 1), (620, .iaload, 1), (621, .aload_n 0, 1), (622, .iload_n 3, 1), (623, .iconst 2, 1)]
theorem kL_law_22 {nm : String} : DEC (mLn nm) tL_law_22 := (show ∀ e ∈ tL_law_22, decode code e.1 = .ok e.2 from by decide +kernel)
def tL_law_23 : List (Nat × Instr × Nat) := [(624, .iadd, 1), (625, .iaload, 1), (626, .invokevirtual 70, 3), (629, .if_icmp .eq (846), 3), (632, .iconst 0, 1), (633, .ireturn, 1), (634, .aload_n 1, 1), (635, .aload_n 0, 1), (636, .iload_n 3, 1), (637, .iconst 1, 1), (638, .iadd, 1), (639, .iaload, 1), (640, .aload_n 0, 1), (641, .iload_n 3, 1), (642, .iconst 2, 1), (643, .iadd, 1)]
theorem kL_law_23 {nm : String} : DEC (mLn nm) tL_law_23 := (show ∀ e ∈ tL_law_23, decode code e.1 = .ok e.2 from by decide +kernel)
def tL_law_24 : List (Nat × Instr × Nat) := [(644, .iaload, 1), (645, .invokevirtual 71, 3), (648, .aload_n 2, 1), (649, .aload_n 0, 1), (650, .iload_n 3, 1), (651, .iconst 1, 1), (652, .iadd, 1), (653, .iaload, 1), (654, .aload_n 0, 1), (655, .iload_n 3, 1), (656, .iconst 2, 1), (657, .iadd, 1), (658, .iaload, 1), (659, .invokevirtual 75, 3), (662, .lcmp, 1), (663, .ifCond .eq (812), 3)]
theorem kL_law_24 {nm : String} : DEC (mLn nm) tL_law_24 := (show ∀ e ∈ tL_law_24, decode code e.1 = .ok e.2 from by decide +kernel)
def tL_law_25 : List (Nat × Instr × Nat) := [(666, .iconst 0, 1), (667, .ireturn, 1), (668, .aload_n 1, 1), (669, .aload_n 0, 1), (670, .iload_n 3, 1), (671, .iconst 1, 1), (672, .iadd, 1), (673, .iaload, 1), (674, .aload_n 0, 1), (675, .iload_n 3, 1), (676, .iconst 2, 1), (677, .iadd, 1), (678, .iaload, 1), (679, .aload_n 0, 1), (680, .iload_n 3, 1), (681, .iconst 3, 1)]
theorem kL_law_25 {nm : String} : DEC (mLn nm) tL_law_25 := (show ∀ e ∈ tL_law_25, decode code e.1 = .ok e.2 from by decide +kernel)
def tL_law_26 : List (Nat × Instr × Nat) := [(682, .iadd, 1), (683, .iaload, 1), (684, .invokevirtual 76, 3), (687, .aload_n 2, 1), (688, .aload_n 0, 1), (689, .iload_n 3, 1), (690, .iconst 1, 1), (691, .iadd, 1), (692, .iaload, 1), (693, .aload_n 0, 1), (694, .iload_n 3, 1), (695, .iconst 2, 1), (696, .iadd, 1), (697, .iaload, 1), (698, .aload_n 0, 1), (699, .iload_n 3, 1)]
theorem kL_law_26 {nm : String} : DEC (mLn nm) tL_law_26 := (show ∀ e ∈ tL_law_26, decode code e.1 = .ok e.2 from by decide +kernel)
def tL_law_27 : List (Nat × Instr × Nat) := [(700, .iconst 3, 1), (701, .iadd, 1), (702, .iaload, 1), (703, .invokevirtual 79, 3), (706, .if_icmp .eq (769), 3), (709, .iconst 0, 1), (710, .ireturn, 1), (711, .aload_n 1, 1), (712, .aload_n 0, 1), (713, .iload_n 3, 1), (714, .iconst 1, 1), (715, .iadd, 1), (716, .iaload, 1), (717, .aload_n 0, 1), (718, .iload_n 3, 1), (719, .iconst 2, 1)]
theorem kL_law_27 {nm : String} : DEC (mLn nm) tL_law_27 := (show ∀ e ∈ tL_law_27, decode code e.1 = .ok e.2 from by decide +kernel)
def tL_law_28 : List (Nat × Instr × Nat) := [(720, .iadd, 1), (721, .iaload, 1), (722, .invokevirtual 80, 3), (725, .aload_n 2, 1), (726, .aload_n 0, 1), (727, .iload_n 3, 1), (728, .iconst 1, 1), (729, .iadd, 1), (730, .iaload, 1), (731, .aload_n 0, 1), (732, .iload_n 3, 1), (733, .iconst 2, 1), (734, .iadd, 1), (735, .iaload, 1), (736, .invokevirtual 83, 3), (739, .if_icmp .eq (736), 3)]
theorem kL_law_28 {nm : String} : DEC (mLn nm) tL_law_28 := (show ∀ e ∈ tL_law_28, decode code e.1 = .ok e.2 from by decide +kernel)
def tL_law_29 : List (Nat × Instr × Nat) := [(742, .iconst 0, 1), (743, .ireturn, 1), (744, .aload_n 1, 1), (745, .aload_n 0, 1), (746, .iload_n 3, 1), (747, .iconst 1, 1), (748, .iadd, 1), (749, .iaload, 1), (750, .aload_n 0, 1), (751, .iload_n 3, 1), (752, .iconst 2, 1), (753, .iadd, 1), (754, .iaload, 1), (755, .invokevirtual 84, 3), (758, .aload_n 2, 1), (759, .aload_n 0, 1)]
theorem kL_law_29 {nm : String} : DEC (mLn nm) tL_law_29 := (show ∀ e ∈ tL_law_29, decode code e.1 = .ok e.2 from by decide +kernel)
def tL_law_30 : List (Nat × Instr × Nat) := [(760, .iload_n 3, 1), (761, .iconst 1, 1), (762, .iadd, 1), (763, .iaload, 1), (764, .aload_n 0, 1), (765, .iload_n 3, 1), (766, .iconst 2, 1), (767, .iadd, 1), (768, .iaload, 1), (769, .invokevirtual 87, 3), (772, .if_icmp .eq (703), 3), (775, .iconst 0, 1), (776, .ireturn, 1), (777, .aload_n 1, 1), (778, .aload_n 0, 1), (779, .iload_n 3, 1)]
theorem kL_law_30 {nm : String} : DEC (mLn nm) tL_law_30 := (show ∀ e ∈ tL_law_30, decode code e.1 = .ok e.2 from by decide +kernel)
def tL_law_31 : List (Nat × Instr × Nat) := [(780, .iconst 1, 1), (781, .iadd, 1), (782, .iaload, 1), (783, .aload_n 0, 1), (784, .iload_n 3, 1), (785, .iconst 2, 1), (786, .iadd, 1), (787, .iaload, 1), (788, .invokevirtual 88, 3), (791, .aload_n 2, 1), (792, .aload_n 0, 1), (793, .iload_n 3, 1), (794, .iconst 1, 1), (795, .iadd, 1), (796, .iaload, 1), (797, .aload_n 0, 1)]
theorem kL_law_31 {nm : String} : DEC (mLn nm) tL_law_31 := (show ∀ e ∈ tL_law_31, decode code e.1 = .ok e.2 from by decide +kernel)
def tL_law_32 : List (Nat × Instr × Nat) := [(798, .iload_n 3, 1), (799, .iconst 2, 1), (800, .iadd, 1), (801, .iaload, 1), (802, .invokevirtual 91, 3), (805, .if_icmp .eq (670), 3), (808, .iconst 0, 1), (809, .ireturn, 1), (810, .aload_n 1, 1), (811, .aload_n 0, 1), (812, .iload_n 3, 1), (813, .iconst 1, 1), (814, .iadd, 1), (815, .iaload, 1), (816, .aload_n 0, 1), (817, .iload_n 3, 1)]
theorem kL_law_32 {nm : String} : DEC (mLn nm) tL_law_32 := (show ∀ e ∈ tL_law_32, decode code e.1 = .ok e.2 from by decide +kernel)
def tL_law_33 : List (Nat × Instr × Nat) := [(818, .iconst 2, 1), (819, .iadd, 1), (820, .iaload, 1), (821, .invokevirtual 92, 3), (824, .aload_n 2, 1), (825, .aload_n 0, 1), (826, .iload_n 3, 1), (827, .iconst 1, 1), (828, .iadd, 1), (829, .iaload, 1), (830, .aload_n 0, 1), (831, .iload_n 3, 1), (832, .iconst 2, 1), (833, .iadd, 1), (834, .iaload, 1), (835, .invokevirtual 95, 3)]
theorem kL_law_33 {nm : String} : DEC (mLn nm) tL_law_33 := (show ∀ e ∈ tL_law_33, decode code e.1 = .ok e.2 from by decide +kernel)
def tL_law_34 : List (Nat × Instr × Nat) := [(838, .if_icmp .eq (637), 3), (841, .iconst 0, 1), (842, .ireturn, 1), (843, .aload_n 1, 1), (844, .aload_n 0, 1), (845, .iload_n 3, 1), (846, .iconst 1, 1), (847, .iadd, 1), (848, .iaload, 1), (849, .aload_n 0, 1), (850, .iload_n 3, 1), (851, .iconst 2, 1), (852, .iadd, 1), (853, .iaload, 1), (854, .invokevirtual 96, 3), (857, .aload_n 2, 1)]
theorem kL_law_34 {nm : String} : DEC (mLn nm) tL_law_34 := (show ∀ e ∈ tL_law_34, decode code e.1 = .ok e.2 from by decide +kernel)
def tL_law_35 : List (Nat × Instr × Nat) := [(858, .aload_n 0, 1), (859, .iload_n 3, 1), (860, .iconst 1, 1), (861, .iadd, 1), (862, .iaload, 1), (863, .aload_n 0, 1), (864, .iload_n 3, 1), (865, .iconst 2, 1), (866, .iadd, 1), (867, .iaload, 1), (868, .invokevirtual 99, 3), (871, .lcmp, 1), (872, .ifCond .eq (603), 3), (875, .iconst 0, 1), (876, .ireturn, 1), (877, .aload_n 1, 1)]
theorem kL_law_35 {nm : String} : DEC (mLn nm) tL_law_35 := (show ∀ e ∈ tL_law_35, decode code e.1 = .ok e.2 from by decide +kernel)
def tL_law_36 : List (Nat × Instr × Nat) := [(878, .aload_n 0, 1), (879, .iload_n 3, 1), (880, .iconst 1, 1), (881, .iadd, 1), (882, .iaload, 1), (883, .aload_n 0, 1), (884, .iload_n 3, 1), (885, .iconst 2, 1), (886, .iadd, 1), (887, .iaload, 1), (888, .aload_n 0, 1), (889, .iload_n 3, 1), (890, .iconst 3, 1), (891, .iadd, 1), (892, .iaload, 1), (893, .invokevirtual 100, 3)]
theorem kL_law_36 {nm : String} : DEC (mLn nm) tL_law_36 := (show ∀ e ∈ tL_law_36, decode code e.1 = .ok e.2 from by decide +kernel)
def tL_law_37 : List (Nat × Instr × Nat) := [(896, .aload_n 2, 1), (897, .aload_n 0, 1), (898, .iload_n 3, 1), (899, .iconst 1, 1), (900, .iadd, 1), (901, .iaload, 1), (902, .aload_n 0, 1), (903, .iload_n 3, 1), (904, .iconst 2, 1), (905, .iadd, 1), (906, .iaload, 1), (907, .aload_n 0, 1), (908, .iload_n 3, 1), (909, .iconst 3, 1), (910, .iadd, 1), (911, .iaload, 1)]
theorem kL_law_37 {nm : String} : DEC (mLn nm) tL_law_37 := (show ∀ e ∈ tL_law_37, decode code e.1 = .ok e.2 from by decide +kernel)
def tL_law_38 : List (Nat × Instr × Nat) := [(912, .invokevirtual 103, 3), (915, .if_icmp .eq (560), 3), (918, .iconst 0, 1), (919, .ireturn, 1), (920, .aload_n 1, 1), (921, .aload_n 0, 1), (922, .iload_n 3, 1), (923, .iconst 1, 1), (924, .iadd, 1), (925, .iaload, 1), (926, .aload_n 0, 1), (927, .iload_n 3, 1), (928, .iconst 2, 1), (929, .iadd, 1), (930, .iaload, 1), (931, .aload_n 0, 1)]
theorem kL_law_38 {nm : String} : DEC (mLn nm) tL_law_38 := (show ∀ e ∈ tL_law_38, decode code e.1 = .ok e.2 from by decide +kernel)
def tL_law_39 : List (Nat × Instr × Nat) := [(932, .iload_n 3, 1), (933, .iconst 3, 1), (934, .iadd, 1), (935, .iaload, 1), (936, .invokevirtual 104, 3), (939, .aload_n 2, 1), (940, .aload_n 0, 1), (941, .iload_n 3, 1), (942, .iconst 1, 1), (943, .iadd, 1), (944, .iaload, 1), (945, .aload_n 0, 1), (946, .iload_n 3, 1), (947, .iconst 2, 1), (948, .iadd, 1), (949, .iaload, 1)]
theorem kL_law_39 {nm : String} : DEC (mLn nm) tL_law_39 := (show ∀ e ∈ tL_law_39, decode code e.1 = .ok e.2 from by decide +kernel)
def tL_law_40 : List (Nat × Instr × Nat) := [(950, .aload_n 0, 1), (951, .iload_n 3, 1), (952, .iconst 3, 1), (953, .iadd, 1), (954, .iaload, 1), (955, .invokevirtual 107, 3), (958, .if_icmp .eq (517), 3), (961, .iconst 0, 1), (962, .ireturn, 1), (963, .aload_n 1, 1), (964, .aload_n 0, 1), (965, .iload_n 3, 1), (966, .iconst 1, 1), (967, .iadd, 1), (968, .iaload, 1), (969, .invokevirtual 108, 3)]
theorem kL_law_40 {nm : String} : DEC (mLn nm) tL_law_40 := (show ∀ e ∈ tL_law_40, decode code e.1 = .ok e.2 from by decide +kernel)
def tL_law_41 : List (Nat × Instr × Nat) := [(972, .aload_n 2, 1), (973, .aload_n 0, 1), (974, .iload_n 3, 1), (975, .iconst 1, 1), (976, .iadd, 1), (977, .iaload, 1), (978, .invokevirtual 111, 3), (981, .if_icmp .eq (494), 3), (984, .iconst 0, 1), (985, .ireturn, 1), (986, .aload_n 1, 1), (987, .aload_n 0, 1), (988, .iload_n 3, 1), (989, .iconst 1, 1), (990, .iadd, 1), (991, .iaload, 1)]
theorem kL_law_41 {nm : String} : DEC (mLn nm) tL_law_41 := (show ∀ e ∈ tL_law_41, decode code e.1 = .ok e.2 from by decide +kernel)
def tL_law_42 : List (Nat × Instr × Nat) := [(992, .invokevirtual 112, 3), (995, .aload_n 2, 1), (996, .aload_n 0, 1), (997, .iload_n 3, 1), (998, .iconst 1, 1), (999, .iadd, 1), (1000, .iaload, 1), (1001, .invokevirtual 115, 3), (1004, .if_icmp .eq (471), 3), (1007, .iconst 0, 1), (1008, .ireturn, 1), (1009, .aload_n 1, 1), (1010, .aload_n 0, 1), (1011, .iload_n 3, 1), (1012, .iconst 1, 1), (1013, .iadd, 1)]
theorem kL_law_42 {nm : String} : DEC (mLn nm) tL_law_42 := (show ∀ e ∈ tL_law_42, decode code e.1 = .ok e.2 from by decide +kernel)
def tL_law_43 : List (Nat × Instr × Nat) := [(1014, .iaload, 1), (1015, .invokevirtual 116, 3), (1018, .aload_n 2, 1), (1019, .aload_n 0, 1), (1020, .iload_n 3, 1), (1021, .iconst 1, 1), (1022, .iadd, 1), (1023, .iaload, 1), (1024, .invokevirtual 119, 3), (1027, .if_icmp .eq (448), 3), (1030, .iconst 0, 1), (1031, .ireturn, 1), (1032, .aload_n 1, 1), (1033, .invokevirtual 120, 3), (1036, .aload_n 2, 1), (1037, .invokevirtual 123, 3)]
theorem kL_law_43 {nm : String} : DEC (mLn nm) tL_law_43 := (show ∀ e ∈ tL_law_43, decode code e.1 = .ok e.2 from by decide +kernel)
def tL_law_44 : List (Nat × Instr × Nat) := [(1040, .if_icmp .eq (435), 3), (1043, .iconst 0, 1), (1044, .ireturn, 1), (1045, .aload_n 1, 1), (1046, .invokevirtual 124, 3), (1049, .aload_n 2, 1), (1050, .invokevirtual 127, 3), (1053, .if_icmp .eq (422), 3), (1056, .iconst 0, 1), (1057, .ireturn, 1), (1058, .aload_n 1, 1), (1059, .invokevirtual 128, 3), (1062, .aload_n 2, 1), (1063, .invokevirtual 131, 3), (1066, .if_icmp .eq (409), 3), (1069, .iconst 0, 1)]
theorem kL_law_44 {nm : String} : DEC (mLn nm) tL_law_44 := (show ∀ e ∈ tL_law_44, decode code e.1 = .ok e.2 from by decide +kernel)
def tL_law_45 : List (Nat × Instr × Nat) := [(1070, .ireturn, 1), (1071, .aload_n 1, 1), (1072, .invokevirtual 132, 3), (1075, .aload_n 2, 1), (1076, .invokevirtual 135, 3), (1079, .if_icmp .eq (396), 3), (1082, .iconst 0, 1), (1083, .ireturn, 1), (1084, .aload_n 1, 1), (1085, .aload_n 0, 1), (1086, .iload_n 3, 1), (1087, .iconst 1, 1), (1088, .iadd, 1), (1089, .iaload, 1), (1090, .invokevirtual 136, 3), (1093, .aload_n 2, 1)]
theorem kL_law_45 {nm : String} : DEC (mLn nm) tL_law_45 := (show ∀ e ∈ tL_law_45, decode code e.1 = .ok e.2 from by decide +kernel)
def tL_law_46 : List (Nat × Instr × Nat) := [(1094, .aload_n 0, 1), (1095, .iload_n 3, 1), (1096, .iconst 1, 1), (1097, .iadd, 1), (1098, .iaload, 1), (1099, .invokevirtual 139, 3), (1102, .if_icmp .eq (373), 3), (1105, .iconst 0, 1), (1106, .ireturn, 1), (1107, .aload_n 1, 1), (1108, .aload_n 0, 1), (1109, .iload_n 3, 1), (1110, .iconst 1, 1), (1111, .iadd, 1), (1112, .iaload, 1), (1113, .aload_n 0, 1)]
theorem kL_law_46 {nm : String} : DEC (mLn nm) tL_law_46 := (show ∀ e ∈ tL_law_46, decode code e.1 = .ok e.2 from by decide +kernel)
def tL_law_47 : List (Nat × Instr × Nat) := [(1114, .iload_n 3, 1), (1115, .iconst 2, 1), (1116, .iadd, 1), (1117, .iaload, 1), (1118, .aload_n 0, 1), (1119, .iload_n 3, 1), (1120, .iconst 3, 1), (1121, .iadd, 1), (1122, .iaload, 1), (1123, .invokevirtual 140, 3), (1126, .aload_n 2, 1), (1127, .aload_n 0, 1), (1128, .iload_n 3, 1), (1129, .iconst 1, 1), (1130, .iadd, 1), (1131, .iaload, 1)]
theorem kL_law_47 {nm : String} : DEC (mLn nm) tL_law_47 := (show ∀ e ∈ tL_law_47, decode code e.1 = .ok e.2 from by decide +kernel)
def tL_law_48 : List (Nat × Instr × Nat) := [(1132, .aload_n 0, 1), (1133, .iload_n 3, 1), (1134, .iconst 2, 1), (1135, .iadd, 1), (1136, .iaload, 1), (1137, .aload_n 0, 1), (1138, .iload_n 3, 1), (1139, .iconst 3, 1), (1140, .iadd, 1), (1141, .iaload, 1), (1142, .invokevirtual 143, 3), (1145, .if_icmp .eq (330), 3), (1148, .iconst 0, 1), (1149, .ireturn, 1), (1150, .aload_n 1, 1), (1151, .aload_n 0, 1)]
theorem kL_law_48 {nm : String} : DEC (mLn nm) tL_law_48 := (show ∀ e ∈ tL_law_48, decode code e.1 = .ok e.2 from by decide +kernel)
def tL_law_49 : List (Nat × Instr × Nat) := [(1152, .iload_n 3, 1), (1153, .iconst 1, 1), (1154, .iadd, 1), (1155, .iaload, 1), (1156, .invokevirtual 144, 3), (1159, .aload_n 2, 1), (1160, .aload_n 0, 1), (1161, .iload_n 3, 1), (1162, .iconst 1, 1), (1163, .iadd, 1), (1164, .iaload, 1), (1165, .invokevirtual 147, 3), (1168, .if_icmp .eq (307), 3), (1171, .iconst 0, 1), (1172, .ireturn, 1), (1173, .aload_n 1, 1)]
theorem kL_law_49 {nm : String} : DEC (mLn nm) tL_law_49 := (show ∀ e ∈ tL_law_49, decode code e.1 = .ok e.2 from by decide +kernel)
def tL_law_50 : List (Nat × Instr × Nat) := [(1174, .aload_n 0, 1), (1175, .iload_n 3, 1), (1176, .iconst 1, 1), (1177, .iadd, 1), (1178, .iaload, 1), (1179, .aload_n 0, 1), (1180, .iload_n 3, 1), (1181, .iconst 2, 1), (1182, .iadd, 1), (1183, .iaload, 1), (1184, .invokevirtual 148, 3), (1187, .aload_n 2, 1), (1188, .aload_n 0, 1), (1189, .iload_n 3, 1), (1190, .iconst 1, 1), (1191, .iadd, 1)]
theorem kL_law_50 {nm : String} : DEC (mLn nm) tL_law_50 := (show ∀ e ∈ tL_law_50, decode code e.1 = .ok e.2 from by decide +kernel)
def tL_law_51 : List (Nat × Instr × Nat) := [(1192, .iaload, 1), (1193, .aload_n 0, 1), (1194, .iload_n 3, 1), (1195, .iconst 2, 1), (1196, .iadd, 1), (1197, .iaload, 1), (1198, .invokevirtual 151, 3), (1201, .if_icmp .eq (274), 3), (1204, .iconst 0, 1), (1205, .ireturn, 1), (1206, .aload_n 1, 1), (1207, .aload_n 0, 1), (1208, .iload_n 3, 1), (1209, .iconst 1, 1), (1210, .iadd, 1), (1211, .iaload, 1)]
theorem kL_law_51 {nm : String} : DEC (mLn nm) tL_law_51 := (show ∀ e ∈ tL_law_51, decode code e.1 = .ok e.2 from by decide +kernel)
def tL_law_52 : List (Nat × Instr × Nat) := [(1212, .aload_n 0, 1), (1213, .iload_n 3, 1), (1214, .iconst 2, 1), (1215, .iadd, 1), (1216, .iaload, 1), (1217, .aload_n 0, 1), (1218, .iload_n 3, 1), (1219, .iconst 3, 1), (1220, .iadd, 1), (1221, .iaload, 1), (1222, .invokevirtual 152, 3), (1225, .aload_n 2, 1), (1226, .aload_n 0, 1), (1227, .iload_n 3, 1), (1228, .iconst 1, 1), (1229, .iadd, 1)]
theorem kL_law_52 {nm : String} : DEC (mLn nm) tL_law_52 := (show ∀ e ∈ tL_law_52, decode code e.1 = .ok e.2 from by decide +kernel)
def tL_law_53 : List (Nat × Instr × Nat) := [(1230, .iaload, 1), (1231, .aload_n 0, 1), (1232, .iload_n 3, 1), (1233, .iconst 2, 1), (1234, .iadd, 1), (1235, .iaload, 1), (1236, .aload_n 0, 1), (1237, .iload_n 3, 1), (1238, .iconst 3, 1), (1239, .iadd, 1), (1240, .iaload, 1), (1241, .invokevirtual 155, 3), (1244, .if_icmp .eq (231), 3), (1247, .iconst 0, 1), (1248, .ireturn, 1), (1249, .aload_n 1, 1)]
theorem kL_law_53 {nm : String} : DEC (mLn nm) tL_law_53 := (show ∀ e ∈ tL_law_53, decode code e.1 = .ok e.2 from by decide +kernel)
def tL_law_54 : List (Nat × Instr × Nat) := [(1250, .aload_n 0, 1), (1251, .iload_n 3, 1), (1252, .iconst 1, 1), (1253, .iadd, 1), (1254, .iaload, 1), (1255, .aload_n 0, 1), (1256, .iload_n 3, 1), (1257, .iconst 2, 1), (1258, .iadd, 1), (1259, .iaload, 1), (1260, .aload_n 0, 1), (1261, .iload_n 3, 1), (1262, .iconst 3, 1), (1263, .iadd, 1), (1264, .iaload, 1), (1265, .i2l, 1)]
theorem kL_law_54 {nm : String} : DEC (mLn nm) tL_law_54 := (show ∀ e ∈ tL_law_54, decode code e.1 = .ok e.2 from by decide +kernel)
def tL_law_55 : List (Nat × Instr × Nat) := [(1266, .bipush (32), 2), (1268, .lshl, 1), (1269, .aload_n 0, 1), (1270, .iload_n 3, 1), (1271, .iconst 4, 1), (1272, .iadd, 1), (1273, .iaload, 1), (1274, .i2l, 1), (1275, .ldc2_w 156, 3), (1278, .land, 1), (1279, .lor, 1), (1280, .invokevirtual 158, 3), (1283, .aload_n 2, 1), (1284, .aload_n 0, 1), (1285, .iload_n 3, 1), (1286, .iconst 1, 1)]
theorem kL_law_55 {nm : String} : DEC (mLn nm) tL_law_55 := (show ∀ e ∈ tL_law_55, decode code e.1 = .ok e.2 from by decide +kernel)
def tL_law_56 : List (Nat × Instr × Nat) := [(1287, .iadd, 1), (1288, .iaload, 1), (1289, .aload_n 0, 1), (1290, .iload_n 3, 1), (1291, .iconst 2, 1), (1292, .iadd, 1), (1293, .iaload, 1), (1294, .aload_n 0, 1), (1295, .iload_n 3, 1), (1296, .iconst 3, 1), (1297, .iadd, 1), (1298, .iaload, 1), (1299, .i2l, 1), (1300, .bipush (32), 2), (1302, .lshl, 1), (1303, .aload_n 0, 1)]
theorem kL_law_56 {nm : String} : DEC (mLn nm) tL_law_56 := (show ∀ e ∈ tL_law_56, decode code e.1 = .ok e.2 from by decide +kernel)
def tL_law_57 : List (Nat × Instr × Nat) := [(1304, .iload_n 3, 1), (1305, .iconst 4, 1), (1306, .iadd, 1), (1307, .iaload, 1), (1308, .i2l, 1), (1309, .ldc2_w 156, 3), (1312, .land, 1), (1313, .lor, 1), (1314, .invokevirtual 162, 3), (1317, .if_icmp .eq (158), 3), (1320, .iconst 0, 1), (1321, .ireturn, 1), (1322, .aload_n 1, 1), (1323, .aload_n 0, 1), (1324, .iload_n 3, 1), (1325, .iconst 1, 1)]
theorem kL_law_57 {nm : String} : DEC (mLn nm) tL_law_57 := (show ∀ e ∈ tL_law_57, decode code e.1 = .ok e.2 from by decide +kernel)
def tL_law_58 : List (Nat × Instr × Nat) := [(1326, .iadd, 1), (1327, .iaload, 1), (1328, .aload_n 0, 1), (1329, .iload_n 3, 1), (1330, .iconst 2, 1), (1331, .iadd, 1), (1332, .iaload, 1), (1333, .invokevirtual 163, 3), (1336, .aload_n 2, 1), (1337, .aload_n 0, 1), (1338, .iload_n 3, 1), (1339, .iconst 1, 1), (1340, .iadd, 1), (1341, .iaload, 1), (1342, .aload_n 0, 1), (1343, .iload_n 3, 1)]
theorem kL_law_58 {nm : String} : DEC (mLn nm) tL_law_58 := (show ∀ e ∈ tL_law_58, decode code e.1 = .ok e.2 from by decide +kernel)
def tL_law_59 : List (Nat × Instr × Nat) := [(1344, .iconst 2, 1), (1345, .iadd, 1), (1346, .iaload, 1), (1347, .invokevirtual 166, 3), (1350, .lcmp, 1), (1351, .ifCond .eq (124), 3), (1354, .iconst 0, 1), (1355, .ireturn, 1), (1356, .aload_n 1, 1), (1357, .aload_n 0, 1), (1358, .iload_n 3, 1), (1359, .iconst 1, 1), (1360, .iadd, 1), (1361, .iaload, 1), (1362, .aload_n 0, 1), (1363, .iload_n 3, 1)]
theorem kL_law_59 {nm : String} : DEC (mLn nm) tL_law_59 := (show ∀ e ∈ tL_law_59, decode code e.1 = .ok e.2 from by decide +kernel)
def tL_law_60 : List (Nat × Instr × Nat) := [(1364, .iconst 2, 1), (1365, .iadd, 1), (1366, .iaload, 1), (1367, .aload_n 0, 1), (1368, .iload_n 3, 1), (1369, .iconst 3, 1), (1370, .iadd, 1), (1371, .iaload, 1), (1372, .aload_n 0, 1), (1373, .iload_n 3, 1), (1374, .iconst 4, 1), (1375, .iadd, 1), (1376, .iaload, 1), (1377, .aload_n 0, 1), (1378, .iload_n 3, 1), (1379, .iconst 5, 1)]
theorem kL_law_60 {nm : String} : DEC (mLn nm) tL_law_60 := (show ∀ e ∈ tL_law_60, decode code e.1 = .ok e.2 from by decide +kernel)
def tL_law_61 : List (Nat × Instr × Nat) := [(1380, .iadd, 1), (1381, .iaload, 1), (1382, .invokevirtual 167, 3), (1385, .aload_n 2, 1), (1386, .aload_n 0, 1), (1387, .iload_n 3, 1), (1388, .iconst 1, 1), (1389, .iadd, 1), (1390, .iaload, 1), (1391, .aload_n 0, 1), (1392, .iload_n 3, 1), (1393, .iconst 2, 1), (1394, .iadd, 1), (1395, .iaload, 1), (1396, .aload_n 0, 1), (1397, .iload_n 3, 1)]
theorem kL_law_61 {nm : String} : DEC (mLn nm) tL_law_61 := (show ∀ e ∈ tL_law_61, decode code e.1 = .ok e.2 from by decide +kernel)
def tL_law_62 : List (Nat × Instr × Nat) := [(1398, .iconst 3, 1), (1399, .iadd, 1), (1400, .iaload, 1), (1401, .aload_n 0, 1), (1402, .iload_n 3, 1), (1403, .iconst 4, 1), (1404, .iadd, 1), (1405, .iaload, 1), (1406, .aload_n 0, 1), (1407, .iload_n 3, 1), (1408, .iconst 5, 1), (1409, .iadd, 1), (1410, .iaload, 1), (1411, .invokevirtual 171, 3), (1414, .if_icmp .eq (61), 3), (1417, .iconst 0, 1)]
theorem kL_law_62 {nm : String} : DEC (mLn nm) tL_law_62 := (show ∀ e ∈ tL_law_62, decode code e.1 = .ok e.2 from by decide +kernel)
def tL_law_63 : List (Nat × Instr × Nat) := [(1418, .ireturn, 1), (1419, .aload_n 1, 1), (1420, .aload_n 0, 1), (1421, .iload_n 3, 1), (1422, .iconst 1, 1), (1423, .iadd, 1), (1424, .iaload, 1), (1425, .aload_n 0, 1), (1426, .iload_n 3, 1), (1427, .iconst 2, 1), (1428, .iadd, 1), (1429, .iaload, 1), (1430, .invokevirtual 172, 3), (1433, .aload_n 2, 1), (1434, .aload_n 0, 1), (1435, .iload_n 3, 1)]
theorem kL_law_63 {nm : String} : DEC (mLn nm) tL_law_63 := (show ∀ e ∈ tL_law_63, decode code e.1 = .ok e.2 from by decide +kernel)
def tL_law_64 : List (Nat × Instr × Nat) := [(1436, .iconst 1, 1), (1437, .iadd, 1), (1438, .iaload, 1), (1439, .aload_n 0, 1), (1440, .iload_n 3, 1), (1441, .iconst 2, 1), (1442, .iadd, 1), (1443, .iaload, 1), (1444, .invokevirtual 175, 3), (1447, .if_icmp .eq (28), 3), (1450, .iconst 0, 1), (1451, .ireturn, 1), (1452, .aload_n 1, 1), (1453, .aload_n 0, 1), (1454, .iload_n 3, 1), (1455, .iconst 1, 1)]
theorem kL_law_64 {nm : String} : DEC (mLn nm) tL_law_64 := (show ∀ e ∈ tL_law_64, decode code e.1 = .ok e.2 from by decide +kernel)
def tL_law_65 : List (Nat × Instr × Nat) := [(1456, .iadd, 1), (1457, .iaload, 1), (1458, .invokevirtual 176, 3), (1461, .aload_n 2, 1), (1462, .aload_n 0, 1), (1463, .iload_n 3, 1), (1464, .iconst 1, 1), (1465, .iadd, 1), (1466, .iaload, 1), (1467, .invokevirtual 179, 3), (1470, .if_icmp .eq (5), 3), (1473, .iconst 0, 1), (1474, .ireturn, 1), (1475, .iinc 3 (6), 3), (1478, .goto (-1460), 3), (1481, .iconst 1, 1)]
theorem kL_law_65 {nm : String} : DEC (mLn nm) tL_law_65 := (show ∀ e ∈ tL_law_65, decode code e.1 = .ok e.2 from by decide +kernel)
def tL_law_66 : List (Nat × Instr × Nat) := [(1482, .ireturn, 1)]
theorem kL_law_66 {nm : String} : DEC (mLn nm) tL_law_66 := (show ∀ e ∈ tL_law_66, decode code e.1 = .ok e.2 from by decide +kernel)
theorem dL_law_0 {nm : String} : DI (mLn nm) 0 (.new 7) 3 3 := ⟨(kL_law_0 (nm := nm)).at 0 rfl, rfl⟩
theorem dL_law_3 {nm : String} : DI (mLn nm) 3 (.dup) 1 4 := ⟨(kL_law_0 (nm := nm)).at 1 rfl, rfl⟩
theorem dL_law_4 {nm : String} : DI (mLn nm) 4 (.invokespecial 9) 3 7 := ⟨(kL_law_0 (nm := nm)).at 2 rfl, rfl⟩
theorem dL_law_7 {nm : String} : DSa (mLn nm) 7 1 8 := ⟨Nat.le_of_ble_eq_true rfl, Or.inl ⟨1, (kL_law_0 (nm := nm)).at 3 rfl, rfl, rfl⟩⟩
theorem dL_law_8 {nm : String} : DI (mLn nm) 8 (.new 10) 3 11 := ⟨(kL_law_0 (nm := nm)).at 4 rfl, rfl⟩
theorem dL_law_11 {nm : String} : DI (mLn nm) 11 (.dup) 1 12 := ⟨(kL_law_0 (nm := nm)).at 5 rfl, rfl⟩
theorem dL_law_12 {nm : String} : DI (mLn nm) 12 (.invokespecial 12) 3 15 := ⟨(kL_law_0 (nm := nm)).at 6 rfl, rfl⟩
theorem dL_law_15 {nm : String} : DSa (mLn nm) 15 2 16 := ⟨Nat.le_of_ble_eq_true rfl, Or.inl ⟨2, (kL_law_0 (nm := nm)).at 7 rfl, rfl, rfl⟩⟩
theorem dL_law_16 {nm : String} : DC (mLn nm) 16 0 17 := Or.inl ⟨0, (kL_law_0 (nm := nm)).at 8 rfl, by decide, rfl⟩
theorem dL_law_17 {nm : String} : DSi (mLn nm) 17 3 18 := ⟨Nat.le_of_ble_eq_true rfl, Or.inl ⟨3, (kL_law_0 (nm := nm)).at 9 rfl, rfl, rfl⟩⟩
theorem dL_law_18 {nm : String} : DLi (mLn nm) 18 3 19 := Or.inl ⟨3, (kL_law_0 (nm := nm)).at 10 rfl, rfl, rfl⟩
theorem dL_law_19 {nm : String} : DLa (mLn nm) 19 0 20 := Or.inl ⟨0, (kL_law_0 (nm := nm)).at 11 rfl, rfl, rfl⟩
theorem dL_law_20 {nm : String} : DI (mLn nm) 20 (.arraylength) 1 21 := ⟨(kL_law_0 (nm := nm)).at 12 rfl, rfl⟩
theorem dL_law_21 {nm : String} : DC (mLn nm) 21 6 23 := Or.inr (Or.inl ⟨6, (kL_law_0 (nm := nm)).at 13 rfl, by decide, rfl⟩)
theorem dL_law_23 {nm : String} : DI (mLn nm) 23 (.isub) 1 24 := ⟨(kL_law_0 (nm := nm)).at 14 rfl, rfl⟩
theorem dL_law_24 {nm : String} : DB (mLn nm) 24 (.if_icmp .gt (1457)) (1457) 27 1481 := ⟨(kL_law_0 (nm := nm)).at 15 rfl, rfl, rfl⟩
theorem dL_law_27 {nm : String} : DLa (mLn nm) 27 0 28 := Or.inl ⟨0, (kL_law_1 (nm := nm)).at 0 rfl, rfl, rfl⟩
theorem dL_law_28 {nm : String} : DLi (mLn nm) 28 3 29 := Or.inl ⟨3, (kL_law_1 (nm := nm)).at 1 rfl, rfl, rfl⟩
theorem dL_law_29 {nm : String} : DI (mLn nm) 29 (.iaload) 1 30 := ⟨(kL_law_1 (nm := nm)).at 2 rfl, rfl⟩
theorem dL_law_30 {nm : String} : DC (mLn nm) 30 63 32 := Or.inr (Or.inl ⟨63, (kL_law_1 (nm := nm)).at 3 rfl, by decide, rfl⟩)
theorem dL_law_32 {nm : String} : DI (mLn nm) 32 (.iand) 1 33 := ⟨(kL_law_1 (nm := nm)).at 4 rfl, rfl⟩
theorem dL_law_33 {nm : String} : decode (mLn nm).1 33 = .ok (.tableswitch (1442) (0) (38) #[171, 204, 247, 290, 323, 346, 359, 382, 406, 459, 502, 535, 568, 601, 635, 678, 711, 744, 777, 810, 844, 887, 930, 953, 976, 999, 1012, 1025, 1038, 1051, 1074, 1117, 1140, 1173, 1216, 1289, 1323, 1386, 1419], 171) := (kL_law_1 (nm := nm)).at 5 rfl
theorem dL_law_204 {nm : String} : DLa (mLn nm) 204 1 205 := Or.inl ⟨1, (kL_law_1 (nm := nm)).at 6 rfl, rfl, rfl⟩
theorem dL_law_205 {nm : String} : DLa (mLn nm) 205 0 206 := Or.inl ⟨0, (kL_law_1 (nm := nm)).at 7 rfl, rfl, rfl⟩
theorem dL_law_206 {nm : String} : DLi (mLn nm) 206 3 207 := Or.inl ⟨3, (kL_law_1 (nm := nm)).at 8 rfl, rfl, rfl⟩
theorem dL_law_207 {nm : String} : DC (mLn nm) 207 1 208 := Or.inl ⟨1, (kL_law_1 (nm := nm)).at 9 rfl, by decide, rfl⟩
theorem dL_law_208 {nm : String} : DI (mLn nm) 208 (.iadd) 1 209 := ⟨(kL_law_1 (nm := nm)).at 10 rfl, rfl⟩
theorem dL_law_209 {nm : String} : DI (mLn nm) 209 (.iaload) 1 210 := ⟨(kL_law_1 (nm := nm)).at 11 rfl, rfl⟩
theorem dL_law_210 {nm : String} : DLa (mLn nm) 210 0 211 := Or.inl ⟨0, (kL_law_1 (nm := nm)).at 12 rfl, rfl, rfl⟩
theorem dL_law_211 {nm : String} : DLi (mLn nm) 211 3 212 := Or.inl ⟨3, (kL_law_1 (nm := nm)).at 13 rfl, rfl, rfl⟩
theorem dL_law_212 {nm : String} : DC (mLn nm) 212 2 213 := Or.inl ⟨2, (kL_law_1 (nm := nm)).at 14 rfl, by decide, rfl⟩
theorem dL_law_213 {nm : String} : DI (mLn nm) 213 (.iadd) 1 214 := ⟨(kL_law_1 (nm := nm)).at 15 rfl, rfl⟩
theorem dL_law_214 {nm : String} : DI (mLn nm) 214 (.iaload) 1 215 := ⟨(kL_law_2 (nm := nm)).at 0 rfl, rfl⟩
theorem dL_law_215 {nm : String} : DI (mLn nm) 215 (.invokevirtual 13) 3 218 := ⟨(kL_law_2 (nm := nm)).at 1 rfl, rfl⟩
theorem dL_law_218 {nm : String} : DLa (mLn nm) 218 2 219 := Or.inl ⟨2, (kL_law_2 (nm := nm)).at 2 rfl, rfl, rfl⟩
theorem dL_law_219 {nm : String} : DLa (mLn nm) 219 0 220 := Or.inl ⟨0, (kL_law_2 (nm := nm)).at 3 rfl, rfl, rfl⟩
theorem dL_law_220 {nm : String} : DLi (mLn nm) 220 3 221 := Or.inl ⟨3, (kL_law_2 (nm := nm)).at 4 rfl, rfl, rfl⟩
theorem dL_law_221 {nm : String} : DC (mLn nm) 221 1 222 := Or.inl ⟨1, (kL_law_2 (nm := nm)).at 5 rfl, by decide, rfl⟩
theorem dL_law_222 {nm : String} : DI (mLn nm) 222 (.iadd) 1 223 := ⟨(kL_law_2 (nm := nm)).at 6 rfl, rfl⟩
theorem dL_law_223 {nm : String} : DI (mLn nm) 223 (.iaload) 1 224 := ⟨(kL_law_2 (nm := nm)).at 7 rfl, rfl⟩
theorem dL_law_224 {nm : String} : DLa (mLn nm) 224 0 225 := Or.inl ⟨0, (kL_law_2 (nm := nm)).at 8 rfl, rfl, rfl⟩
theorem dL_law_225 {nm : String} : DLi (mLn nm) 225 3 226 := Or.inl ⟨3, (kL_law_2 (nm := nm)).at 9 rfl, rfl, rfl⟩
theorem dL_law_226 {nm : String} : DC (mLn nm) 226 2 227 := Or.inl ⟨2, (kL_law_2 (nm := nm)).at 10 rfl, by decide, rfl⟩
theorem dL_law_227 {nm : String} : DI (mLn nm) 227 (.iadd) 1 228 := ⟨(kL_law_2 (nm := nm)).at 11 rfl, rfl⟩
theorem dL_law_228 {nm : String} : DI (mLn nm) 228 (.iaload) 1 229 := ⟨(kL_law_2 (nm := nm)).at 12 rfl, rfl⟩
theorem dL_law_229 {nm : String} : DI (mLn nm) 229 (.invokevirtual 17) 3 232 := ⟨(kL_law_2 (nm := nm)).at 13 rfl, rfl⟩
theorem dL_law_232 {nm : String} : DB (mLn nm) 232 (.if_icmp .eq (1243)) (1243) 235 1475 := ⟨(kL_law_2 (nm := nm)).at 14 rfl, rfl, rfl⟩
theorem dL_law_235 {nm : String} : DC (mLn nm) 235 0 236 := Or.inl ⟨0, (kL_law_2 (nm := nm)).at 15 rfl, by decide, rfl⟩
theorem dL_law_236 {nm : String} : DRz (mLn nm) 236 := ⟨(kL_law_3 (nm := nm)).at 0 rfl, rfl⟩
theorem dL_law_237 {nm : String} : DLa (mLn nm) 237 1 238 := Or.inl ⟨1, (kL_law_3 (nm := nm)).at 1 rfl, rfl, rfl⟩
theorem dL_law_238 {nm : String} : DLa (mLn nm) 238 0 239 := Or.inl ⟨0, (kL_law_3 (nm := nm)).at 2 rfl, rfl, rfl⟩
theorem dL_law_239 {nm : String} : DLi (mLn nm) 239 3 240 := Or.inl ⟨3, (kL_law_3 (nm := nm)).at 3 rfl, rfl, rfl⟩
theorem dL_law_240 {nm : String} : DC (mLn nm) 240 1 241 := Or.inl ⟨1, (kL_law_3 (nm := nm)).at 4 rfl, by decide, rfl⟩
theorem dL_law_241 {nm : String} : DI (mLn nm) 241 (.iadd) 1 242 := ⟨(kL_law_3 (nm := nm)).at 5 rfl, rfl⟩
theorem dL_law_242 {nm : String} : DI (mLn nm) 242 (.iaload) 1 243 := ⟨(kL_law_3 (nm := nm)).at 6 rfl, rfl⟩
theorem dL_law_243 {nm : String} : DLa (mLn nm) 243 0 244 := Or.inl ⟨0, (kL_law_3 (nm := nm)).at 7 rfl, rfl, rfl⟩
theorem dL_law_244 {nm : String} : DLi (mLn nm) 244 3 245 := Or.inl ⟨3, (kL_law_3 (nm := nm)).at 8 rfl, rfl, rfl⟩
theorem dL_law_245 {nm : String} : DC (mLn nm) 245 2 246 := Or.inl ⟨2, (kL_law_3 (nm := nm)).at 9 rfl, by decide, rfl⟩
theorem dL_law_246 {nm : String} : DI (mLn nm) 246 (.iadd) 1 247 := ⟨(kL_law_3 (nm := nm)).at 10 rfl, rfl⟩
theorem dL_law_247 {nm : String} : DI (mLn nm) 247 (.iaload) 1 248 := ⟨(kL_law_3 (nm := nm)).at 11 rfl, rfl⟩
theorem dL_law_248 {nm : String} : DLa (mLn nm) 248 0 249 := Or.inl ⟨0, (kL_law_3 (nm := nm)).at 12 rfl, rfl, rfl⟩
theorem dL_law_249 {nm : String} : DLi (mLn nm) 249 3 250 := Or.inl ⟨3, (kL_law_3 (nm := nm)).at 13 rfl, rfl, rfl⟩
theorem dL_law_250 {nm : String} : DC (mLn nm) 250 3 251 := Or.inl ⟨3, (kL_law_3 (nm := nm)).at 14 rfl, by decide, rfl⟩
theorem dL_law_251 {nm : String} : DI (mLn nm) 251 (.iadd) 1 252 := ⟨(kL_law_3 (nm := nm)).at 15 rfl, rfl⟩
theorem dL_law_252 {nm : String} : DI (mLn nm) 252 (.iaload) 1 253 := ⟨(kL_law_4 (nm := nm)).at 0 rfl, rfl⟩
theorem dL_law_253 {nm : String} : DI (mLn nm) 253 (.invokevirtual 18) 3 256 := ⟨(kL_law_4 (nm := nm)).at 1 rfl, rfl⟩
theorem dL_law_256 {nm : String} : DLa (mLn nm) 256 2 257 := Or.inl ⟨2, (kL_law_4 (nm := nm)).at 2 rfl, rfl, rfl⟩
theorem dL_law_257 {nm : String} : DLa (mLn nm) 257 0 258 := Or.inl ⟨0, (kL_law_4 (nm := nm)).at 3 rfl, rfl, rfl⟩
theorem dL_law_258 {nm : String} : DLi (mLn nm) 258 3 259 := Or.inl ⟨3, (kL_law_4 (nm := nm)).at 4 rfl, rfl, rfl⟩
theorem dL_law_259 {nm : String} : DC (mLn nm) 259 1 260 := Or.inl ⟨1, (kL_law_4 (nm := nm)).at 5 rfl, by decide, rfl⟩
theorem dL_law_260 {nm : String} : DI (mLn nm) 260 (.iadd) 1 261 := ⟨(kL_law_4 (nm := nm)).at 6 rfl, rfl⟩
theorem dL_law_261 {nm : String} : DI (mLn nm) 261 (.iaload) 1 262 := ⟨(kL_law_4 (nm := nm)).at 7 rfl, rfl⟩
theorem dL_law_262 {nm : String} : DLa (mLn nm) 262 0 263 := Or.inl ⟨0, (kL_law_4 (nm := nm)).at 8 rfl, rfl, rfl⟩
theorem dL_law_263 {nm : String} : DLi (mLn nm) 263 3 264 := Or.inl ⟨3, (kL_law_4 (nm := nm)).at 9 rfl, rfl, rfl⟩
theorem dL_law_264 {nm : String} : DC (mLn nm) 264 2 265 := Or.inl ⟨2, (kL_law_4 (nm := nm)).at 10 rfl, by decide, rfl⟩
theorem dL_law_265 {nm : String} : DI (mLn nm) 265 (.iadd) 1 266 := ⟨(kL_law_4 (nm := nm)).at 11 rfl, rfl⟩
theorem dL_law_266 {nm : String} : DI (mLn nm) 266 (.iaload) 1 267 := ⟨(kL_law_4 (nm := nm)).at 12 rfl, rfl⟩
theorem dL_law_267 {nm : String} : DLa (mLn nm) 267 0 268 := Or.inl ⟨0, (kL_law_4 (nm := nm)).at 13 rfl, rfl, rfl⟩
theorem dL_law_268 {nm : String} : DLi (mLn nm) 268 3 269 := Or.inl ⟨3, (kL_law_4 (nm := nm)).at 14 rfl, rfl, rfl⟩
theorem dL_law_269 {nm : String} : DC (mLn nm) 269 3 270 := Or.inl ⟨3, (kL_law_4 (nm := nm)).at 15 rfl, by decide, rfl⟩
theorem dL_law_270 {nm : String} : DI (mLn nm) 270 (.iadd) 1 271 := ⟨(kL_law_5 (nm := nm)).at 0 rfl, rfl⟩
theorem dL_law_271 {nm : String} : DI (mLn nm) 271 (.iaload) 1 272 := ⟨(kL_law_5 (nm := nm)).at 1 rfl, rfl⟩
theorem dL_law_272 {nm : String} : DI (mLn nm) 272 (.invokevirtual 22) 3 275 := ⟨(kL_law_5 (nm := nm)).at 2 rfl, rfl⟩
theorem dL_law_275 {nm : String} : DB (mLn nm) 275 (.if_icmp .eq (1200)) (1200) 278 1475 := ⟨(kL_law_5 (nm := nm)).at 3 rfl, rfl, rfl⟩
theorem dL_law_278 {nm : String} : DC (mLn nm) 278 0 279 := Or.inl ⟨0, (kL_law_5 (nm := nm)).at 4 rfl, by decide, rfl⟩
theorem dL_law_279 {nm : String} : DRz (mLn nm) 279 := ⟨(kL_law_5 (nm := nm)).at 5 rfl, rfl⟩
theorem dL_law_280 {nm : String} : DLa (mLn nm) 280 1 281 := Or.inl ⟨1, (kL_law_5 (nm := nm)).at 6 rfl, rfl, rfl⟩
theorem dL_law_281 {nm : String} : DLa (mLn nm) 281 0 282 := Or.inl ⟨0, (kL_law_5 (nm := nm)).at 7 rfl, rfl, rfl⟩
theorem dL_law_282 {nm : String} : DLi (mLn nm) 282 3 283 := Or.inl ⟨3, (kL_law_5 (nm := nm)).at 8 rfl, rfl, rfl⟩
theorem dL_law_283 {nm : String} : DC (mLn nm) 283 1 284 := Or.inl ⟨1, (kL_law_5 (nm := nm)).at 9 rfl, by decide, rfl⟩
theorem dL_law_284 {nm : String} : DI (mLn nm) 284 (.iadd) 1 285 := ⟨(kL_law_5 (nm := nm)).at 10 rfl, rfl⟩
theorem dL_law_285 {nm : String} : DI (mLn nm) 285 (.iaload) 1 286 := ⟨(kL_law_5 (nm := nm)).at 11 rfl, rfl⟩
theorem dL_law_286 {nm : String} : DLa (mLn nm) 286 0 287 := Or.inl ⟨0, (kL_law_5 (nm := nm)).at 12 rfl, rfl, rfl⟩
theorem dL_law_287 {nm : String} : DLi (mLn nm) 287 3 288 := Or.inl ⟨3, (kL_law_5 (nm := nm)).at 13 rfl, rfl, rfl⟩
theorem dL_law_288 {nm : String} : DC (mLn nm) 288 2 289 := Or.inl ⟨2, (kL_law_5 (nm := nm)).at 14 rfl, by decide, rfl⟩
theorem dL_law_289 {nm : String} : DI (mLn nm) 289 (.iadd) 1 290 := ⟨(kL_law_5 (nm := nm)).at 15 rfl, rfl⟩
theorem dL_law_290 {nm : String} : DI (mLn nm) 290 (.iaload) 1 291 := ⟨(kL_law_6 (nm := nm)).at 0 rfl, rfl⟩
theorem dL_law_291 {nm : String} : DLa (mLn nm) 291 0 292 := Or.inl ⟨0, (kL_law_6 (nm := nm)).at 1 rfl, rfl, rfl⟩
theorem dL_law_292 {nm : String} : DLi (mLn nm) 292 3 293 := Or.inl ⟨3, (kL_law_6 (nm := nm)).at 2 rfl, rfl, rfl⟩
theorem dL_law_293 {nm : String} : DC (mLn nm) 293 3 294 := Or.inl ⟨3, (kL_law_6 (nm := nm)).at 3 rfl, by decide, rfl⟩
theorem dL_law_294 {nm : String} : DI (mLn nm) 294 (.iadd) 1 295 := ⟨(kL_law_6 (nm := nm)).at 4 rfl, rfl⟩
theorem dL_law_295 {nm : String} : DI (mLn nm) 295 (.iaload) 1 296 := ⟨(kL_law_6 (nm := nm)).at 5 rfl, rfl⟩
theorem dL_law_296 {nm : String} : DI (mLn nm) 296 (.invokevirtual 23) 3 299 := ⟨(kL_law_6 (nm := nm)).at 6 rfl, rfl⟩
theorem dL_law_299 {nm : String} : DLa (mLn nm) 299 2 300 := Or.inl ⟨2, (kL_law_6 (nm := nm)).at 7 rfl, rfl, rfl⟩
theorem dL_law_300 {nm : String} : DLa (mLn nm) 300 0 301 := Or.inl ⟨0, (kL_law_6 (nm := nm)).at 8 rfl, rfl, rfl⟩
theorem dL_law_301 {nm : String} : DLi (mLn nm) 301 3 302 := Or.inl ⟨3, (kL_law_6 (nm := nm)).at 9 rfl, rfl, rfl⟩
theorem dL_law_302 {nm : String} : DC (mLn nm) 302 1 303 := Or.inl ⟨1, (kL_law_6 (nm := nm)).at 10 rfl, by decide, rfl⟩
theorem dL_law_303 {nm : String} : DI (mLn nm) 303 (.iadd) 1 304 := ⟨(kL_law_6 (nm := nm)).at 11 rfl, rfl⟩
theorem dL_law_304 {nm : String} : DI (mLn nm) 304 (.iaload) 1 305 := ⟨(kL_law_6 (nm := nm)).at 12 rfl, rfl⟩
theorem dL_law_305 {nm : String} : DLa (mLn nm) 305 0 306 := Or.inl ⟨0, (kL_law_6 (nm := nm)).at 13 rfl, rfl, rfl⟩
theorem dL_law_306 {nm : String} : DLi (mLn nm) 306 3 307 := Or.inl ⟨3, (kL_law_6 (nm := nm)).at 14 rfl, rfl, rfl⟩
theorem dL_law_307 {nm : String} : DC (mLn nm) 307 2 308 := Or.inl ⟨2, (kL_law_6 (nm := nm)).at 15 rfl, by decide, rfl⟩
theorem dL_law_308 {nm : String} : DI (mLn nm) 308 (.iadd) 1 309 := ⟨(kL_law_7 (nm := nm)).at 0 rfl, rfl⟩
theorem dL_law_309 {nm : String} : DI (mLn nm) 309 (.iaload) 1 310 := ⟨(kL_law_7 (nm := nm)).at 1 rfl, rfl⟩
theorem dL_law_310 {nm : String} : DLa (mLn nm) 310 0 311 := Or.inl ⟨0, (kL_law_7 (nm := nm)).at 2 rfl, rfl, rfl⟩
theorem dL_law_311 {nm : String} : DLi (mLn nm) 311 3 312 := Or.inl ⟨3, (kL_law_7 (nm := nm)).at 3 rfl, rfl, rfl⟩
theorem dL_law_312 {nm : String} : DC (mLn nm) 312 3 313 := Or.inl ⟨3, (kL_law_7 (nm := nm)).at 4 rfl, by decide, rfl⟩
theorem dL_law_313 {nm : String} : DI (mLn nm) 313 (.iadd) 1 314 := ⟨(kL_law_7 (nm := nm)).at 5 rfl, rfl⟩
theorem dL_law_314 {nm : String} : DI (mLn nm) 314 (.iaload) 1 315 := ⟨(kL_law_7 (nm := nm)).at 6 rfl, rfl⟩
theorem dL_law_315 {nm : String} : DI (mLn nm) 315 (.invokevirtual 26) 3 318 := ⟨(kL_law_7 (nm := nm)).at 7 rfl, rfl⟩
theorem dL_law_318 {nm : String} : DB (mLn nm) 318 (.if_icmp .eq (1157)) (1157) 321 1475 := ⟨(kL_law_7 (nm := nm)).at 8 rfl, rfl, rfl⟩
theorem dL_law_321 {nm : String} : DC (mLn nm) 321 0 322 := Or.inl ⟨0, (kL_law_7 (nm := nm)).at 9 rfl, by decide, rfl⟩
theorem dL_law_322 {nm : String} : DRz (mLn nm) 322 := ⟨(kL_law_7 (nm := nm)).at 10 rfl, rfl⟩
theorem dL_law_323 {nm : String} : DLa (mLn nm) 323 1 324 := Or.inl ⟨1, (kL_law_7 (nm := nm)).at 11 rfl, rfl, rfl⟩
theorem dL_law_324 {nm : String} : DLa (mLn nm) 324 0 325 := Or.inl ⟨0, (kL_law_7 (nm := nm)).at 12 rfl, rfl, rfl⟩
theorem dL_law_325 {nm : String} : DLi (mLn nm) 325 3 326 := Or.inl ⟨3, (kL_law_7 (nm := nm)).at 13 rfl, rfl, rfl⟩
theorem dL_law_326 {nm : String} : DC (mLn nm) 326 1 327 := Or.inl ⟨1, (kL_law_7 (nm := nm)).at 14 rfl, by decide, rfl⟩
theorem dL_law_327 {nm : String} : DI (mLn nm) 327 (.iadd) 1 328 := ⟨(kL_law_7 (nm := nm)).at 15 rfl, rfl⟩
theorem dL_law_328 {nm : String} : DI (mLn nm) 328 (.iaload) 1 329 := ⟨(kL_law_8 (nm := nm)).at 0 rfl, rfl⟩
theorem dL_law_329 {nm : String} : DLa (mLn nm) 329 0 330 := Or.inl ⟨0, (kL_law_8 (nm := nm)).at 1 rfl, rfl, rfl⟩
theorem dL_law_330 {nm : String} : DLi (mLn nm) 330 3 331 := Or.inl ⟨3, (kL_law_8 (nm := nm)).at 2 rfl, rfl, rfl⟩
theorem dL_law_331 {nm : String} : DC (mLn nm) 331 2 332 := Or.inl ⟨2, (kL_law_8 (nm := nm)).at 3 rfl, by decide, rfl⟩
theorem dL_law_332 {nm : String} : DI (mLn nm) 332 (.iadd) 1 333 := ⟨(kL_law_8 (nm := nm)).at 4 rfl, rfl⟩
theorem dL_law_333 {nm : String} : DI (mLn nm) 333 (.iaload) 1 334 := ⟨(kL_law_8 (nm := nm)).at 5 rfl, rfl⟩
theorem dL_law_334 {nm : String} : DI (mLn nm) 334 (.invokevirtual 27) 3 337 := ⟨(kL_law_8 (nm := nm)).at 6 rfl, rfl⟩
theorem dL_law_337 {nm : String} : DLa (mLn nm) 337 2 338 := Or.inl ⟨2, (kL_law_8 (nm := nm)).at 7 rfl, rfl, rfl⟩
theorem dL_law_338 {nm : String} : DLa (mLn nm) 338 0 339 := Or.inl ⟨0, (kL_law_8 (nm := nm)).at 8 rfl, rfl, rfl⟩
theorem dL_law_339 {nm : String} : DLi (mLn nm) 339 3 340 := Or.inl ⟨3, (kL_law_8 (nm := nm)).at 9 rfl, rfl, rfl⟩
theorem dL_law_340 {nm : String} : DC (mLn nm) 340 1 341 := Or.inl ⟨1, (kL_law_8 (nm := nm)).at 10 rfl, by decide, rfl⟩
theorem dL_law_341 {nm : String} : DI (mLn nm) 341 (.iadd) 1 342 := ⟨(kL_law_8 (nm := nm)).at 11 rfl, rfl⟩
theorem dL_law_342 {nm : String} : DI (mLn nm) 342 (.iaload) 1 343 := ⟨(kL_law_8 (nm := nm)).at 12 rfl, rfl⟩
theorem dL_law_343 {nm : String} : DLa (mLn nm) 343 0 344 := Or.inl ⟨0, (kL_law_8 (nm := nm)).at 13 rfl, rfl, rfl⟩
theorem dL_law_344 {nm : String} : DLi (mLn nm) 344 3 345 := Or.inl ⟨3, (kL_law_8 (nm := nm)).at 14 rfl, rfl, rfl⟩
theorem dL_law_345 {nm : String} : DC (mLn nm) 345 2 346 := Or.inl ⟨2, (kL_law_8 (nm := nm)).at 15 rfl, by decide, rfl⟩
theorem dL_law_346 {nm : String} : DI (mLn nm) 346 (.iadd) 1 347 := ⟨(kL_law_9 (nm := nm)).at 0 rfl, rfl⟩
theorem dL_law_347 {nm : String} : DI (mLn nm) 347 (.iaload) 1 348 := ⟨(kL_law_9 (nm := nm)).at 1 rfl, rfl⟩
theorem dL_law_348 {nm : String} : DI (mLn nm) 348 (.invokevirtual 30) 3 351 := ⟨(kL_law_9 (nm := nm)).at 2 rfl, rfl⟩
theorem dL_law_351 {nm : String} : DB (mLn nm) 351 (.if_icmp .eq (1124)) (1124) 354 1475 := ⟨(kL_law_9 (nm := nm)).at 3 rfl, rfl, rfl⟩
theorem dL_law_354 {nm : String} : DC (mLn nm) 354 0 355 := Or.inl ⟨0, (kL_law_9 (nm := nm)).at 4 rfl, by decide, rfl⟩
theorem dL_law_355 {nm : String} : DRz (mLn nm) 355 := ⟨(kL_law_9 (nm := nm)).at 5 rfl, rfl⟩
theorem dL_law_356 {nm : String} : DLa (mLn nm) 356 1 357 := Or.inl ⟨1, (kL_law_9 (nm := nm)).at 6 rfl, rfl, rfl⟩
theorem dL_law_357 {nm : String} : DLa (mLn nm) 357 0 358 := Or.inl ⟨0, (kL_law_9 (nm := nm)).at 7 rfl, rfl, rfl⟩
theorem dL_law_358 {nm : String} : DLi (mLn nm) 358 3 359 := Or.inl ⟨3, (kL_law_9 (nm := nm)).at 8 rfl, rfl, rfl⟩
theorem dL_law_359 {nm : String} : DC (mLn nm) 359 1 360 := Or.inl ⟨1, (kL_law_9 (nm := nm)).at 9 rfl, by decide, rfl⟩
theorem dL_law_360 {nm : String} : DI (mLn nm) 360 (.iadd) 1 361 := ⟨(kL_law_9 (nm := nm)).at 10 rfl, rfl⟩
theorem dL_law_361 {nm : String} : DI (mLn nm) 361 (.iaload) 1 362 := ⟨(kL_law_9 (nm := nm)).at 11 rfl, rfl⟩
theorem dL_law_362 {nm : String} : DI (mLn nm) 362 (.invokevirtual 31) 3 365 := ⟨(kL_law_9 (nm := nm)).at 12 rfl, rfl⟩
theorem dL_law_365 {nm : String} : DLa (mLn nm) 365 2 366 := Or.inl ⟨2, (kL_law_9 (nm := nm)).at 13 rfl, rfl, rfl⟩
theorem dL_law_366 {nm : String} : DLa (mLn nm) 366 0 367 := Or.inl ⟨0, (kL_law_9 (nm := nm)).at 14 rfl, rfl, rfl⟩
theorem dL_law_367 {nm : String} : DLi (mLn nm) 367 3 368 := Or.inl ⟨3, (kL_law_9 (nm := nm)).at 15 rfl, rfl, rfl⟩
theorem dL_law_368 {nm : String} : DC (mLn nm) 368 1 369 := Or.inl ⟨1, (kL_law_10 (nm := nm)).at 0 rfl, by decide, rfl⟩
theorem dL_law_369 {nm : String} : DI (mLn nm) 369 (.iadd) 1 370 := ⟨(kL_law_10 (nm := nm)).at 1 rfl, rfl⟩
theorem dL_law_370 {nm : String} : DI (mLn nm) 370 (.iaload) 1 371 := ⟨(kL_law_10 (nm := nm)).at 2 rfl, rfl⟩
theorem dL_law_371 {nm : String} : DI (mLn nm) 371 (.invokevirtual 35) 3 374 := ⟨(kL_law_10 (nm := nm)).at 3 rfl, rfl⟩
theorem dL_law_374 {nm : String} : DB (mLn nm) 374 (.if_icmp .eq (1101)) (1101) 377 1475 := ⟨(kL_law_10 (nm := nm)).at 4 rfl, rfl, rfl⟩
theorem dL_law_377 {nm : String} : DC (mLn nm) 377 0 378 := Or.inl ⟨0, (kL_law_10 (nm := nm)).at 5 rfl, by decide, rfl⟩
theorem dL_law_378 {nm : String} : DRz (mLn nm) 378 := ⟨(kL_law_10 (nm := nm)).at 6 rfl, rfl⟩
theorem dL_law_379 {nm : String} : DLa (mLn nm) 379 1 380 := Or.inl ⟨1, (kL_law_10 (nm := nm)).at 7 rfl, rfl, rfl⟩
theorem dL_law_380 {nm : String} : DI (mLn nm) 380 (.invokevirtual 36) 3 383 := ⟨(kL_law_10 (nm := nm)).at 8 rfl, rfl⟩
theorem dL_law_383 {nm : String} : DLa (mLn nm) 383 2 384 := Or.inl ⟨2, (kL_law_10 (nm := nm)).at 9 rfl, rfl, rfl⟩
theorem dL_law_384 {nm : String} : DI (mLn nm) 384 (.invokevirtual 40) 3 387 := ⟨(kL_law_10 (nm := nm)).at 10 rfl, rfl⟩
theorem dL_law_387 {nm : String} : DB (mLn nm) 387 (.if_icmp .eq (1088)) (1088) 390 1475 := ⟨(kL_law_10 (nm := nm)).at 11 rfl, rfl, rfl⟩
theorem dL_law_390 {nm : String} : DC (mLn nm) 390 0 391 := Or.inl ⟨0, (kL_law_10 (nm := nm)).at 12 rfl, by decide, rfl⟩
theorem dL_law_391 {nm : String} : DRz (mLn nm) 391 := ⟨(kL_law_10 (nm := nm)).at 13 rfl, rfl⟩
theorem dL_law_392 {nm : String} : DLa (mLn nm) 392 1 393 := Or.inl ⟨1, (kL_law_10 (nm := nm)).at 14 rfl, rfl, rfl⟩
theorem dL_law_393 {nm : String} : DLa (mLn nm) 393 0 394 := Or.inl ⟨0, (kL_law_10 (nm := nm)).at 15 rfl, rfl, rfl⟩
theorem dL_law_394 {nm : String} : DLi (mLn nm) 394 3 395 := Or.inl ⟨3, (kL_law_11 (nm := nm)).at 0 rfl, rfl, rfl⟩
theorem dL_law_395 {nm : String} : DC (mLn nm) 395 1 396 := Or.inl ⟨1, (kL_law_11 (nm := nm)).at 1 rfl, by decide, rfl⟩
theorem dL_law_396 {nm : String} : DI (mLn nm) 396 (.iadd) 1 397 := ⟨(kL_law_11 (nm := nm)).at 2 rfl, rfl⟩
theorem dL_law_397 {nm : String} : DI (mLn nm) 397 (.iaload) 1 398 := ⟨(kL_law_11 (nm := nm)).at 3 rfl, rfl⟩
theorem dL_law_398 {nm : String} : DI (mLn nm) 398 (.invokevirtual 41) 3 401 := ⟨(kL_law_11 (nm := nm)).at 4 rfl, rfl⟩
theorem dL_law_401 {nm : String} : DLa (mLn nm) 401 2 402 := Or.inl ⟨2, (kL_law_11 (nm := nm)).at 5 rfl, rfl, rfl⟩
theorem dL_law_402 {nm : String} : DLa (mLn nm) 402 0 403 := Or.inl ⟨0, (kL_law_11 (nm := nm)).at 6 rfl, rfl, rfl⟩
theorem dL_law_403 {nm : String} : DLi (mLn nm) 403 3 404 := Or.inl ⟨3, (kL_law_11 (nm := nm)).at 7 rfl, rfl, rfl⟩
theorem dL_law_404 {nm : String} : DC (mLn nm) 404 1 405 := Or.inl ⟨1, (kL_law_11 (nm := nm)).at 8 rfl, by decide, rfl⟩
theorem dL_law_405 {nm : String} : DI (mLn nm) 405 (.iadd) 1 406 := ⟨(kL_law_11 (nm := nm)).at 9 rfl, rfl⟩
theorem dL_law_406 {nm : String} : DI (mLn nm) 406 (.iaload) 1 407 := ⟨(kL_law_11 (nm := nm)).at 10 rfl, rfl⟩
theorem dL_law_407 {nm : String} : DI (mLn nm) 407 (.invokevirtual 44) 3 410 := ⟨(kL_law_11 (nm := nm)).at 11 rfl, rfl⟩
theorem dL_law_410 {nm : String} : DB (mLn nm) 410 (.if_icmp .eq (1065)) (1065) 413 1475 := ⟨(kL_law_11 (nm := nm)).at 12 rfl, rfl, rfl⟩
theorem dL_law_413 {nm : String} : DC (mLn nm) 413 0 414 := Or.inl ⟨0, (kL_law_11 (nm := nm)).at 13 rfl, by decide, rfl⟩
theorem dL_law_414 {nm : String} : DRz (mLn nm) 414 := ⟨(kL_law_11 (nm := nm)).at 14 rfl, rfl⟩
theorem dL_law_415 {nm : String} : DLa (mLn nm) 415 1 416 := Or.inl ⟨1, (kL_law_11 (nm := nm)).at 15 rfl, rfl, rfl⟩
theorem dL_law_416 {nm : String} : DLa (mLn nm) 416 0 417 := Or.inl ⟨0, (kL_law_12 (nm := nm)).at 0 rfl, rfl, rfl⟩
theorem dL_law_417 {nm : String} : DLi (mLn nm) 417 3 418 := Or.inl ⟨3, (kL_law_12 (nm := nm)).at 1 rfl, rfl, rfl⟩
theorem dL_law_418 {nm : String} : DC (mLn nm) 418 1 419 := Or.inl ⟨1, (kL_law_12 (nm := nm)).at 2 rfl, by decide, rfl⟩
theorem dL_law_419 {nm : String} : DI (mLn nm) 419 (.iadd) 1 420 := ⟨(kL_law_12 (nm := nm)).at 3 rfl, rfl⟩
theorem dL_law_420 {nm : String} : DI (mLn nm) 420 (.iaload) 1 421 := ⟨(kL_law_12 (nm := nm)).at 4 rfl, rfl⟩
theorem dL_law_421 {nm : String} : DI (mLn nm) 421 (.invokevirtual 45) 3 424 := ⟨(kL_law_12 (nm := nm)).at 5 rfl, rfl⟩
theorem dL_law_424 {nm : String} : DLa (mLn nm) 424 2 425 := Or.inl ⟨2, (kL_law_12 (nm := nm)).at 6 rfl, rfl, rfl⟩
theorem dL_law_425 {nm : String} : DLa (mLn nm) 425 0 426 := Or.inl ⟨0, (kL_law_12 (nm := nm)).at 7 rfl, rfl, rfl⟩
theorem dL_law_426 {nm : String} : DLi (mLn nm) 426 3 427 := Or.inl ⟨3, (kL_law_12 (nm := nm)).at 8 rfl, rfl, rfl⟩
theorem dL_law_427 {nm : String} : DC (mLn nm) 427 1 428 := Or.inl ⟨1, (kL_law_12 (nm := nm)).at 9 rfl, by decide, rfl⟩
theorem dL_law_428 {nm : String} : DI (mLn nm) 428 (.iadd) 1 429 := ⟨(kL_law_12 (nm := nm)).at 10 rfl, rfl⟩
theorem dL_law_429 {nm : String} : DI (mLn nm) 429 (.iaload) 1 430 := ⟨(kL_law_12 (nm := nm)).at 11 rfl, rfl⟩
theorem dL_law_430 {nm : String} : DI (mLn nm) 430 (.invokevirtual 49) 3 433 := ⟨(kL_law_12 (nm := nm)).at 12 rfl, rfl⟩
theorem dL_law_433 {nm : String} : DI (mLn nm) 433 (.lcmp) 1 434 := ⟨(kL_law_12 (nm := nm)).at 13 rfl, rfl⟩
theorem dL_law_434 {nm : String} : DB (mLn nm) 434 (.ifCond .eq (1041)) (1041) 437 1475 := ⟨(kL_law_12 (nm := nm)).at 14 rfl, rfl, rfl⟩
theorem dL_law_437 {nm : String} : DC (mLn nm) 437 0 438 := Or.inl ⟨0, (kL_law_12 (nm := nm)).at 15 rfl, by decide, rfl⟩
theorem dL_law_438 {nm : String} : DRz (mLn nm) 438 := ⟨(kL_law_13 (nm := nm)).at 0 rfl, rfl⟩
theorem dL_law_439 {nm : String} : DLa (mLn nm) 439 1 440 := Or.inl ⟨1, (kL_law_13 (nm := nm)).at 1 rfl, rfl, rfl⟩
theorem dL_law_440 {nm : String} : DLa (mLn nm) 440 0 441 := Or.inl ⟨0, (kL_law_13 (nm := nm)).at 2 rfl, rfl, rfl⟩
theorem dL_law_441 {nm : String} : DLi (mLn nm) 441 3 442 := Or.inl ⟨3, (kL_law_13 (nm := nm)).at 3 rfl, rfl, rfl⟩
theorem dL_law_442 {nm : String} : DC (mLn nm) 442 1 443 := Or.inl ⟨1, (kL_law_13 (nm := nm)).at 4 rfl, by decide, rfl⟩
theorem dL_law_443 {nm : String} : DI (mLn nm) 443 (.iadd) 1 444 := ⟨(kL_law_13 (nm := nm)).at 5 rfl, rfl⟩
theorem dL_law_444 {nm : String} : DI (mLn nm) 444 (.iaload) 1 445 := ⟨(kL_law_13 (nm := nm)).at 6 rfl, rfl⟩
theorem dL_law_445 {nm : String} : DLa (mLn nm) 445 0 446 := Or.inl ⟨0, (kL_law_13 (nm := nm)).at 7 rfl, rfl, rfl⟩
theorem dL_law_446 {nm : String} : DLi (mLn nm) 446 3 447 := Or.inl ⟨3, (kL_law_13 (nm := nm)).at 8 rfl, rfl, rfl⟩
theorem dL_law_447 {nm : String} : DC (mLn nm) 447 2 448 := Or.inl ⟨2, (kL_law_13 (nm := nm)).at 9 rfl, by decide, rfl⟩
theorem dL_law_448 {nm : String} : DI (mLn nm) 448 (.iadd) 1 449 := ⟨(kL_law_13 (nm := nm)).at 10 rfl, rfl⟩
theorem dL_law_449 {nm : String} : DI (mLn nm) 449 (.iaload) 1 450 := ⟨(kL_law_13 (nm := nm)).at 11 rfl, rfl⟩
theorem dL_law_450 {nm : String} : DLa (mLn nm) 450 0 451 := Or.inl ⟨0, (kL_law_13 (nm := nm)).at 12 rfl, rfl, rfl⟩
theorem dL_law_451 {nm : String} : DLi (mLn nm) 451 3 452 := Or.inl ⟨3, (kL_law_13 (nm := nm)).at 13 rfl, rfl, rfl⟩
theorem dL_law_452 {nm : String} : DC (mLn nm) 452 3 453 := Or.inl ⟨3, (kL_law_13 (nm := nm)).at 14 rfl, by decide, rfl⟩
theorem dL_law_453 {nm : String} : DI (mLn nm) 453 (.iadd) 1 454 := ⟨(kL_law_13 (nm := nm)).at 15 rfl, rfl⟩
theorem dL_law_454 {nm : String} : DI (mLn nm) 454 (.iaload) 1 455 := ⟨(kL_law_14 (nm := nm)).at 0 rfl, rfl⟩
theorem dL_law_455 {nm : String} : DLa (mLn nm) 455 0 456 := Or.inl ⟨0, (kL_law_14 (nm := nm)).at 1 rfl, rfl, rfl⟩
theorem dL_law_456 {nm : String} : DLi (mLn nm) 456 3 457 := Or.inl ⟨3, (kL_law_14 (nm := nm)).at 2 rfl, rfl, rfl⟩
theorem dL_law_457 {nm : String} : DC (mLn nm) 457 4 458 := Or.inl ⟨4, (kL_law_14 (nm := nm)).at 3 rfl, by decide, rfl⟩
theorem dL_law_458 {nm : String} : DI (mLn nm) 458 (.iadd) 1 459 := ⟨(kL_law_14 (nm := nm)).at 4 rfl, rfl⟩
theorem dL_law_459 {nm : String} : DI (mLn nm) 459 (.iaload) 1 460 := ⟨(kL_law_14 (nm := nm)).at 5 rfl, rfl⟩
theorem dL_law_460 {nm : String} : DI (mLn nm) 460 (.invokevirtual 50) 3 463 := ⟨(kL_law_14 (nm := nm)).at 6 rfl, rfl⟩
theorem dL_law_463 {nm : String} : DLa (mLn nm) 463 2 464 := Or.inl ⟨2, (kL_law_14 (nm := nm)).at 7 rfl, rfl, rfl⟩
theorem dL_law_464 {nm : String} : DLa (mLn nm) 464 0 465 := Or.inl ⟨0, (kL_law_14 (nm := nm)).at 8 rfl, rfl, rfl⟩
theorem dL_law_465 {nm : String} : DLi (mLn nm) 465 3 466 := Or.inl ⟨3, (kL_law_14 (nm := nm)).at 9 rfl, rfl, rfl⟩
theorem dL_law_466 {nm : String} : DC (mLn nm) 466 1 467 := Or.inl ⟨1, (kL_law_14 (nm := nm)).at 10 rfl, by decide, rfl⟩
theorem dL_law_467 {nm : String} : DI (mLn nm) 467 (.iadd) 1 468 := ⟨(kL_law_14 (nm := nm)).at 11 rfl, rfl⟩
theorem dL_law_468 {nm : String} : DI (mLn nm) 468 (.iaload) 1 469 := ⟨(kL_law_14 (nm := nm)).at 12 rfl, rfl⟩
theorem dL_law_469 {nm : String} : DLa (mLn nm) 469 0 470 := Or.inl ⟨0, (kL_law_14 (nm := nm)).at 13 rfl, rfl, rfl⟩
theorem dL_law_470 {nm : String} : DLi (mLn nm) 470 3 471 := Or.inl ⟨3, (kL_law_14 (nm := nm)).at 14 rfl, rfl, rfl⟩
theorem dL_law_471 {nm : String} : DC (mLn nm) 471 2 472 := Or.inl ⟨2, (kL_law_14 (nm := nm)).at 15 rfl, by decide, rfl⟩
theorem dL_law_472 {nm : String} : DI (mLn nm) 472 (.iadd) 1 473 := ⟨(kL_law_15 (nm := nm)).at 0 rfl, rfl⟩
theorem dL_law_473 {nm : String} : DI (mLn nm) 473 (.iaload) 1 474 := ⟨(kL_law_15 (nm := nm)).at 1 rfl, rfl⟩
theorem dL_law_474 {nm : String} : DLa (mLn nm) 474 0 475 := Or.inl ⟨0, (kL_law_15 (nm := nm)).at 2 rfl, rfl, rfl⟩
theorem dL_law_475 {nm : String} : DLi (mLn nm) 475 3 476 := Or.inl ⟨3, (kL_law_15 (nm := nm)).at 3 rfl, rfl, rfl⟩
theorem dL_law_476 {nm : String} : DC (mLn nm) 476 3 477 := Or.inl ⟨3, (kL_law_15 (nm := nm)).at 4 rfl, by decide, rfl⟩
theorem dL_law_477 {nm : String} : DI (mLn nm) 477 (.iadd) 1 478 := ⟨(kL_law_15 (nm := nm)).at 5 rfl, rfl⟩
theorem dL_law_478 {nm : String} : DI (mLn nm) 478 (.iaload) 1 479 := ⟨(kL_law_15 (nm := nm)).at 6 rfl, rfl⟩
theorem dL_law_479 {nm : String} : DLa (mLn nm) 479 0 480 := Or.inl ⟨0, (kL_law_15 (nm := nm)).at 7 rfl, rfl, rfl⟩
theorem dL_law_480 {nm : String} : DLi (mLn nm) 480 3 481 := Or.inl ⟨3, (kL_law_15 (nm := nm)).at 8 rfl, rfl, rfl⟩
theorem dL_law_481 {nm : String} : DC (mLn nm) 481 4 482 := Or.inl ⟨4, (kL_law_15 (nm := nm)).at 9 rfl, by decide, rfl⟩
theorem dL_law_482 {nm : String} : DI (mLn nm) 482 (.iadd) 1 483 := ⟨(kL_law_15 (nm := nm)).at 10 rfl, rfl⟩
theorem dL_law_483 {nm : String} : DI (mLn nm) 483 (.iaload) 1 484 := ⟨(kL_law_15 (nm := nm)).at 11 rfl, rfl⟩
theorem dL_law_484 {nm : String} : DI (mLn nm) 484 (.invokevirtual 54) 3 487 := ⟨(kL_law_15 (nm := nm)).at 12 rfl, rfl⟩
theorem dL_law_487 {nm : String} : DB (mLn nm) 487 (.if_icmp .eq (988)) (988) 490 1475 := ⟨(kL_law_15 (nm := nm)).at 13 rfl, rfl, rfl⟩
theorem dL_law_490 {nm : String} : DC (mLn nm) 490 0 491 := Or.inl ⟨0, (kL_law_15 (nm := nm)).at 14 rfl, by decide, rfl⟩
theorem dL_law_491 {nm : String} : DRz (mLn nm) 491 := ⟨(kL_law_15 (nm := nm)).at 15 rfl, rfl⟩
theorem dL_law_492 {nm : String} : DLa (mLn nm) 492 1 493 := Or.inl ⟨1, (kL_law_16 (nm := nm)).at 0 rfl, rfl, rfl⟩
theorem dL_law_493 {nm : String} : DLa (mLn nm) 493 0 494 := Or.inl ⟨0, (kL_law_16 (nm := nm)).at 1 rfl, rfl, rfl⟩
theorem dL_law_494 {nm : String} : DLi (mLn nm) 494 3 495 := Or.inl ⟨3, (kL_law_16 (nm := nm)).at 2 rfl, rfl, rfl⟩
theorem dL_law_495 {nm : String} : DC (mLn nm) 495 1 496 := Or.inl ⟨1, (kL_law_16 (nm := nm)).at 3 rfl, by decide, rfl⟩
theorem dL_law_496 {nm : String} : DI (mLn nm) 496 (.iadd) 1 497 := ⟨(kL_law_16 (nm := nm)).at 4 rfl, rfl⟩
theorem dL_law_497 {nm : String} : DI (mLn nm) 497 (.iaload) 1 498 := ⟨(kL_law_16 (nm := nm)).at 5 rfl, rfl⟩
theorem dL_law_498 {nm : String} : DLa (mLn nm) 498 0 499 := Or.inl ⟨0, (kL_law_16 (nm := nm)).at 6 rfl, rfl, rfl⟩
theorem dL_law_499 {nm : String} : DLi (mLn nm) 499 3 500 := Or.inl ⟨3, (kL_law_16 (nm := nm)).at 7 rfl, rfl, rfl⟩
theorem dL_law_500 {nm : String} : DC (mLn nm) 500 2 501 := Or.inl ⟨2, (kL_law_16 (nm := nm)).at 8 rfl, by decide, rfl⟩
theorem dL_law_501 {nm : String} : DI (mLn nm) 501 (.iadd) 1 502 := ⟨(kL_law_16 (nm := nm)).at 9 rfl, rfl⟩
theorem dL_law_502 {nm : String} : DI (mLn nm) 502 (.iaload) 1 503 := ⟨(kL_law_16 (nm := nm)).at 10 rfl, rfl⟩
theorem dL_law_503 {nm : String} : DLa (mLn nm) 503 0 504 := Or.inl ⟨0, (kL_law_16 (nm := nm)).at 11 rfl, rfl, rfl⟩
theorem dL_law_504 {nm : String} : DLi (mLn nm) 504 3 505 := Or.inl ⟨3, (kL_law_16 (nm := nm)).at 12 rfl, rfl, rfl⟩
theorem dL_law_505 {nm : String} : DC (mLn nm) 505 3 506 := Or.inl ⟨3, (kL_law_16 (nm := nm)).at 13 rfl, by decide, rfl⟩
theorem dL_law_506 {nm : String} : DI (mLn nm) 506 (.iadd) 1 507 := ⟨(kL_law_16 (nm := nm)).at 14 rfl, rfl⟩
theorem dL_law_507 {nm : String} : DI (mLn nm) 507 (.iaload) 1 508 := ⟨(kL_law_16 (nm := nm)).at 15 rfl, rfl⟩
theorem dL_law_508 {nm : String} : DI (mLn nm) 508 (.invokevirtual 55) 3 511 := ⟨(kL_law_17 (nm := nm)).at 0 rfl, rfl⟩
theorem dL_law_511 {nm : String} : DLa (mLn nm) 511 2 512 := Or.inl ⟨2, (kL_law_17 (nm := nm)).at 1 rfl, rfl, rfl⟩
theorem dL_law_512 {nm : String} : DLa (mLn nm) 512 0 513 := Or.inl ⟨0, (kL_law_17 (nm := nm)).at 2 rfl, rfl, rfl⟩
theorem dL_law_513 {nm : String} : DLi (mLn nm) 513 3 514 := Or.inl ⟨3, (kL_law_17 (nm := nm)).at 3 rfl, rfl, rfl⟩
theorem dL_law_514 {nm : String} : DC (mLn nm) 514 1 515 := Or.inl ⟨1, (kL_law_17 (nm := nm)).at 4 rfl, by decide, rfl⟩
theorem dL_law_515 {nm : String} : DI (mLn nm) 515 (.iadd) 1 516 := ⟨(kL_law_17 (nm := nm)).at 5 rfl, rfl⟩
theorem dL_law_516 {nm : String} : DI (mLn nm) 516 (.iaload) 1 517 := ⟨(kL_law_17 (nm := nm)).at 6 rfl, rfl⟩
theorem dL_law_517 {nm : String} : DLa (mLn nm) 517 0 518 := Or.inl ⟨0, (kL_law_17 (nm := nm)).at 7 rfl, rfl, rfl⟩
theorem dL_law_518 {nm : String} : DLi (mLn nm) 518 3 519 := Or.inl ⟨3, (kL_law_17 (nm := nm)).at 8 rfl, rfl, rfl⟩
theorem dL_law_519 {nm : String} : DC (mLn nm) 519 2 520 := Or.inl ⟨2, (kL_law_17 (nm := nm)).at 9 rfl, by decide, rfl⟩
theorem dL_law_520 {nm : String} : DI (mLn nm) 520 (.iadd) 1 521 := ⟨(kL_law_17 (nm := nm)).at 10 rfl, rfl⟩
theorem dL_law_521 {nm : String} : DI (mLn nm) 521 (.iaload) 1 522 := ⟨(kL_law_17 (nm := nm)).at 11 rfl, rfl⟩
theorem dL_law_522 {nm : String} : DLa (mLn nm) 522 0 523 := Or.inl ⟨0, (kL_law_17 (nm := nm)).at 12 rfl, rfl, rfl⟩
theorem dL_law_523 {nm : String} : DLi (mLn nm) 523 3 524 := Or.inl ⟨3, (kL_law_17 (nm := nm)).at 13 rfl, rfl, rfl⟩
theorem dL_law_524 {nm : String} : DC (mLn nm) 524 3 525 := Or.inl ⟨3, (kL_law_17 (nm := nm)).at 14 rfl, by decide, rfl⟩
theorem dL_law_525 {nm : String} : DI (mLn nm) 525 (.iadd) 1 526 := ⟨(kL_law_17 (nm := nm)).at 15 rfl, rfl⟩
theorem dL_law_526 {nm : String} : DI (mLn nm) 526 (.iaload) 1 527 := ⟨(kL_law_18 (nm := nm)).at 0 rfl, rfl⟩
theorem dL_law_527 {nm : String} : DI (mLn nm) 527 (.invokevirtual 58) 3 530 := ⟨(kL_law_18 (nm := nm)).at 1 rfl, rfl⟩
theorem dL_law_530 {nm : String} : DB (mLn nm) 530 (.if_icmp .eq (945)) (945) 533 1475 := ⟨(kL_law_18 (nm := nm)).at 2 rfl, rfl, rfl⟩
theorem dL_law_533 {nm : String} : DC (mLn nm) 533 0 534 := Or.inl ⟨0, (kL_law_18 (nm := nm)).at 3 rfl, by decide, rfl⟩
theorem dL_law_534 {nm : String} : DRz (mLn nm) 534 := ⟨(kL_law_18 (nm := nm)).at 4 rfl, rfl⟩
theorem dL_law_535 {nm : String} : DLa (mLn nm) 535 1 536 := Or.inl ⟨1, (kL_law_18 (nm := nm)).at 5 rfl, rfl, rfl⟩
theorem dL_law_536 {nm : String} : DLa (mLn nm) 536 0 537 := Or.inl ⟨0, (kL_law_18 (nm := nm)).at 6 rfl, rfl, rfl⟩
theorem dL_law_537 {nm : String} : DLi (mLn nm) 537 3 538 := Or.inl ⟨3, (kL_law_18 (nm := nm)).at 7 rfl, rfl, rfl⟩
theorem dL_law_538 {nm : String} : DC (mLn nm) 538 1 539 := Or.inl ⟨1, (kL_law_18 (nm := nm)).at 8 rfl, by decide, rfl⟩
theorem dL_law_539 {nm : String} : DI (mLn nm) 539 (.iadd) 1 540 := ⟨(kL_law_18 (nm := nm)).at 9 rfl, rfl⟩
theorem dL_law_540 {nm : String} : DI (mLn nm) 540 (.iaload) 1 541 := ⟨(kL_law_18 (nm := nm)).at 10 rfl, rfl⟩
theorem dL_law_541 {nm : String} : DLa (mLn nm) 541 0 542 := Or.inl ⟨0, (kL_law_18 (nm := nm)).at 11 rfl, rfl, rfl⟩
theorem dL_law_542 {nm : String} : DLi (mLn nm) 542 3 543 := Or.inl ⟨3, (kL_law_18 (nm := nm)).at 12 rfl, rfl, rfl⟩
theorem dL_law_543 {nm : String} : DC (mLn nm) 543 2 544 := Or.inl ⟨2, (kL_law_18 (nm := nm)).at 13 rfl, by decide, rfl⟩
theorem dL_law_544 {nm : String} : DI (mLn nm) 544 (.iadd) 1 545 := ⟨(kL_law_18 (nm := nm)).at 14 rfl, rfl⟩
theorem dL_law_545 {nm : String} : DI (mLn nm) 545 (.iaload) 1 546 := ⟨(kL_law_18 (nm := nm)).at 15 rfl, rfl⟩
theorem dL_law_546 {nm : String} : DI (mLn nm) 546 (.invokevirtual 59) 3 549 := ⟨(kL_law_19 (nm := nm)).at 0 rfl, rfl⟩
theorem dL_law_549 {nm : String} : DLa (mLn nm) 549 2 550 := Or.inl ⟨2, (kL_law_19 (nm := nm)).at 1 rfl, rfl, rfl⟩
theorem dL_law_550 {nm : String} : DLa (mLn nm) 550 0 551 := Or.inl ⟨0, (kL_law_19 (nm := nm)).at 2 rfl, rfl, rfl⟩
theorem dL_law_551 {nm : String} : DLi (mLn nm) 551 3 552 := Or.inl ⟨3, (kL_law_19 (nm := nm)).at 3 rfl, rfl, rfl⟩
theorem dL_law_552 {nm : String} : DC (mLn nm) 552 1 553 := Or.inl ⟨1, (kL_law_19 (nm := nm)).at 4 rfl, by decide, rfl⟩
theorem dL_law_553 {nm : String} : DI (mLn nm) 553 (.iadd) 1 554 := ⟨(kL_law_19 (nm := nm)).at 5 rfl, rfl⟩
theorem dL_law_554 {nm : String} : DI (mLn nm) 554 (.iaload) 1 555 := ⟨(kL_law_19 (nm := nm)).at 6 rfl, rfl⟩
theorem dL_law_555 {nm : String} : DLa (mLn nm) 555 0 556 := Or.inl ⟨0, (kL_law_19 (nm := nm)).at 7 rfl, rfl, rfl⟩
theorem dL_law_556 {nm : String} : DLi (mLn nm) 556 3 557 := Or.inl ⟨3, (kL_law_19 (nm := nm)).at 8 rfl, rfl, rfl⟩
theorem dL_law_557 {nm : String} : DC (mLn nm) 557 2 558 := Or.inl ⟨2, (kL_law_19 (nm := nm)).at 9 rfl, by decide, rfl⟩
theorem dL_law_558 {nm : String} : DI (mLn nm) 558 (.iadd) 1 559 := ⟨(kL_law_19 (nm := nm)).at 10 rfl, rfl⟩
theorem dL_law_559 {nm : String} : DI (mLn nm) 559 (.iaload) 1 560 := ⟨(kL_law_19 (nm := nm)).at 11 rfl, rfl⟩
theorem dL_law_560 {nm : String} : DI (mLn nm) 560 (.invokevirtual 62) 3 563 := ⟨(kL_law_19 (nm := nm)).at 12 rfl, rfl⟩
theorem dL_law_563 {nm : String} : DB (mLn nm) 563 (.if_icmp .eq (912)) (912) 566 1475 := ⟨(kL_law_19 (nm := nm)).at 13 rfl, rfl, rfl⟩
theorem dL_law_566 {nm : String} : DC (mLn nm) 566 0 567 := Or.inl ⟨0, (kL_law_19 (nm := nm)).at 14 rfl, by decide, rfl⟩
theorem dL_law_567 {nm : String} : DRz (mLn nm) 567 := ⟨(kL_law_19 (nm := nm)).at 15 rfl, rfl⟩
theorem dL_law_568 {nm : String} : DLa (mLn nm) 568 1 569 := Or.inl ⟨1, (kL_law_20 (nm := nm)).at 0 rfl, rfl, rfl⟩
theorem dL_law_569 {nm : String} : DLa (mLn nm) 569 0 570 := Or.inl ⟨0, (kL_law_20 (nm := nm)).at 1 rfl, rfl, rfl⟩
theorem dL_law_570 {nm : String} : DLi (mLn nm) 570 3 571 := Or.inl ⟨3, (kL_law_20 (nm := nm)).at 2 rfl, rfl, rfl⟩
theorem dL_law_571 {nm : String} : DC (mLn nm) 571 1 572 := Or.inl ⟨1, (kL_law_20 (nm := nm)).at 3 rfl, by decide, rfl⟩
theorem dL_law_572 {nm : String} : DI (mLn nm) 572 (.iadd) 1 573 := ⟨(kL_law_20 (nm := nm)).at 4 rfl, rfl⟩
theorem dL_law_573 {nm : String} : DI (mLn nm) 573 (.iaload) 1 574 := ⟨(kL_law_20 (nm := nm)).at 5 rfl, rfl⟩
theorem dL_law_574 {nm : String} : DLa (mLn nm) 574 0 575 := Or.inl ⟨0, (kL_law_20 (nm := nm)).at 6 rfl, rfl, rfl⟩
theorem dL_law_575 {nm : String} : DLi (mLn nm) 575 3 576 := Or.inl ⟨3, (kL_law_20 (nm := nm)).at 7 rfl, rfl, rfl⟩
theorem dL_law_576 {nm : String} : DC (mLn nm) 576 2 577 := Or.inl ⟨2, (kL_law_20 (nm := nm)).at 8 rfl, by decide, rfl⟩
theorem dL_law_577 {nm : String} : DI (mLn nm) 577 (.iadd) 1 578 := ⟨(kL_law_20 (nm := nm)).at 9 rfl, rfl⟩
theorem dL_law_578 {nm : String} : DI (mLn nm) 578 (.iaload) 1 579 := ⟨(kL_law_20 (nm := nm)).at 10 rfl, rfl⟩
theorem dL_law_579 {nm : String} : DI (mLn nm) 579 (.invokevirtual 63) 3 582 := ⟨(kL_law_20 (nm := nm)).at 11 rfl, rfl⟩
theorem dL_law_582 {nm : String} : DLa (mLn nm) 582 2 583 := Or.inl ⟨2, (kL_law_20 (nm := nm)).at 12 rfl, rfl, rfl⟩
theorem dL_law_583 {nm : String} : DLa (mLn nm) 583 0 584 := Or.inl ⟨0, (kL_law_20 (nm := nm)).at 13 rfl, rfl, rfl⟩
theorem dL_law_584 {nm : String} : DLi (mLn nm) 584 3 585 := Or.inl ⟨3, (kL_law_20 (nm := nm)).at 14 rfl, rfl, rfl⟩
theorem dL_law_585 {nm : String} : DC (mLn nm) 585 1 586 := Or.inl ⟨1, (kL_law_20 (nm := nm)).at 15 rfl, by decide, rfl⟩
theorem dL_law_586 {nm : String} : DI (mLn nm) 586 (.iadd) 1 587 := ⟨(kL_law_21 (nm := nm)).at 0 rfl, rfl⟩
theorem dL_law_587 {nm : String} : DI (mLn nm) 587 (.iaload) 1 588 := ⟨(kL_law_21 (nm := nm)).at 1 rfl, rfl⟩
theorem dL_law_588 {nm : String} : DLa (mLn nm) 588 0 589 := Or.inl ⟨0, (kL_law_21 (nm := nm)).at 2 rfl, rfl, rfl⟩
theorem dL_law_589 {nm : String} : DLi (mLn nm) 589 3 590 := Or.inl ⟨3, (kL_law_21 (nm := nm)).at 3 rfl, rfl, rfl⟩
theorem dL_law_590 {nm : String} : DC (mLn nm) 590 2 591 := Or.inl ⟨2, (kL_law_21 (nm := nm)).at 4 rfl, by decide, rfl⟩
theorem dL_law_591 {nm : String} : DI (mLn nm) 591 (.iadd) 1 592 := ⟨(kL_law_21 (nm := nm)).at 5 rfl, rfl⟩
theorem dL_law_592 {nm : String} : DI (mLn nm) 592 (.iaload) 1 593 := ⟨(kL_law_21 (nm := nm)).at 6 rfl, rfl⟩
theorem dL_law_593 {nm : String} : DI (mLn nm) 593 (.invokevirtual 66) 3 596 := ⟨(kL_law_21 (nm := nm)).at 7 rfl, rfl⟩
theorem dL_law_596 {nm : String} : DB (mLn nm) 596 (.if_icmp .eq (879)) (879) 599 1475 := ⟨(kL_law_21 (nm := nm)).at 8 rfl, rfl, rfl⟩
theorem dL_law_599 {nm : String} : DC (mLn nm) 599 0 600 := Or.inl ⟨0, (kL_law_21 (nm := nm)).at 9 rfl, by decide, rfl⟩
theorem dL_law_600 {nm : String} : DRz (mLn nm) 600 := ⟨(kL_law_21 (nm := nm)).at 10 rfl, rfl⟩
theorem dL_law_601 {nm : String} : DLa (mLn nm) 601 1 602 := Or.inl ⟨1, (kL_law_21 (nm := nm)).at 11 rfl, rfl, rfl⟩
theorem dL_law_602 {nm : String} : DLa (mLn nm) 602 0 603 := Or.inl ⟨0, (kL_law_21 (nm := nm)).at 12 rfl, rfl, rfl⟩
theorem dL_law_603 {nm : String} : DLi (mLn nm) 603 3 604 := Or.inl ⟨3, (kL_law_21 (nm := nm)).at 13 rfl, rfl, rfl⟩
theorem dL_law_604 {nm : String} : DC (mLn nm) 604 1 605 := Or.inl ⟨1, (kL_law_21 (nm := nm)).at 14 rfl, by decide, rfl⟩
theorem dL_law_605 {nm : String} : DI (mLn nm) 605 (.iadd) 1 606 := ⟨(kL_law_21 (nm := nm)).at 15 rfl, rfl⟩
theorem dL_law_606 {nm : String} : DI (mLn nm) 606 (.iaload) 1 607 := ⟨(kL_law_22 (nm := nm)).at 0 rfl, rfl⟩
theorem dL_law_607 {nm : String} : DLa (mLn nm) 607 0 608 := Or.inl ⟨0, (kL_law_22 (nm := nm)).at 1 rfl, rfl, rfl⟩
theorem dL_law_608 {nm : String} : DLi (mLn nm) 608 3 609 := Or.inl ⟨3, (kL_law_22 (nm := nm)).at 2 rfl, rfl, rfl⟩
theorem dL_law_609 {nm : String} : DC (mLn nm) 609 2 610 := Or.inl ⟨2, (kL_law_22 (nm := nm)).at 3 rfl, by decide, rfl⟩
theorem dL_law_610 {nm : String} : DI (mLn nm) 610 (.iadd) 1 611 := ⟨(kL_law_22 (nm := nm)).at 4 rfl, rfl⟩
theorem dL_law_611 {nm : String} : DI (mLn nm) 611 (.iaload) 1 612 := ⟨(kL_law_22 (nm := nm)).at 5 rfl, rfl⟩
theorem dL_law_612 {nm : String} : DI (mLn nm) 612 (.invokevirtual 67) 3 615 := ⟨(kL_law_22 (nm := nm)).at 6 rfl, rfl⟩
theorem dL_law_615 {nm : String} : DLa (mLn nm) 615 2 616 := Or.inl ⟨2, (kL_law_22 (nm := nm)).at 7 rfl, rfl, rfl⟩
theorem dL_law_616 {nm : String} : DLa (mLn nm) 616 0 617 := Or.inl ⟨0, (kL_law_22 (nm := nm)).at 8 rfl, rfl, rfl⟩
theorem dL_law_617 {nm : String} : DLi (mLn nm) 617 3 618 := Or.inl ⟨3, (kL_law_22 (nm := nm)).at 9 rfl, rfl, rfl⟩
theorem dL_law_618 {nm : String} : DC (mLn nm) 618 1 619 := Or.inl ⟨1, (kL_law_22 (nm := nm)).at 10 rfl, by decide, rfl⟩
theorem dL_law_619 {nm : String} : DI (mLn nm) 619 (.iadd) 1 620 := ⟨(kL_law_22 (nm := nm)).at 11 rfl, rfl⟩
theorem dL_law_620 {nm : String} : DI (mLn nm) 620 (.iaload) 1 621 := ⟨(kL_law_22 (nm := nm)).at 12 rfl, rfl⟩
theorem dL_law_621 {nm : String} : DLa (mLn nm) 621 0 622 := Or.inl ⟨0, (kL_law_22 (nm := nm)).at 13 rfl, rfl, rfl⟩
theorem dL_law_622 {nm : String} : DLi (mLn nm) 622 3 623 := Or.inl ⟨3, (kL_law_22 (nm := nm)).at 14 rfl, rfl, rfl⟩
theorem dL_law_623 {nm : String} : DC (mLn nm) 623 2 624 := Or.inl ⟨2, (kL_law_22 (nm := nm)).at 15 rfl, by decide, rfl⟩
theorem dL_law_624 {nm : String} : DI (mLn nm) 624 (.iadd) 1 625 := ⟨(kL_law_23 (nm := nm)).at 0 rfl, rfl⟩
theorem dL_law_625 {nm : String} : DI (mLn nm) 625 (.iaload) 1 626 := ⟨(kL_law_23 (nm := nm)).at 1 rfl, rfl⟩
theorem dL_law_626 {nm : String} : DI (mLn nm) 626 (.invokevirtual 70) 3 629 := ⟨(kL_law_23 (nm := nm)).at 2 rfl, rfl⟩
theorem dL_law_629 {nm : String} : DB (mLn nm) 629 (.if_icmp .eq (846)) (846) 632 1475 := ⟨(kL_law_23 (nm := nm)).at 3 rfl, rfl, rfl⟩
theorem dL_law_632 {nm : String} : DC (mLn nm) 632 0 633 := Or.inl ⟨0, (kL_law_23 (nm := nm)).at 4 rfl, by decide, rfl⟩
theorem dL_law_633 {nm : String} : DRz (mLn nm) 633 := ⟨(kL_law_23 (nm := nm)).at 5 rfl, rfl⟩
theorem dL_law_634 {nm : String} : DLa (mLn nm) 634 1 635 := Or.inl ⟨1, (kL_law_23 (nm := nm)).at 6 rfl, rfl, rfl⟩
theorem dL_law_635 {nm : String} : DLa (mLn nm) 635 0 636 := Or.inl ⟨0, (kL_law_23 (nm := nm)).at 7 rfl, rfl, rfl⟩
theorem dL_law_636 {nm : String} : DLi (mLn nm) 636 3 637 := Or.inl ⟨3, (kL_law_23 (nm := nm)).at 8 rfl, rfl, rfl⟩
theorem dL_law_637 {nm : String} : DC (mLn nm) 637 1 638 := Or.inl ⟨1, (kL_law_23 (nm := nm)).at 9 rfl, by decide, rfl⟩
theorem dL_law_638 {nm : String} : DI (mLn nm) 638 (.iadd) 1 639 := ⟨(kL_law_23 (nm := nm)).at 10 rfl, rfl⟩
theorem dL_law_639 {nm : String} : DI (mLn nm) 639 (.iaload) 1 640 := ⟨(kL_law_23 (nm := nm)).at 11 rfl, rfl⟩
theorem dL_law_640 {nm : String} : DLa (mLn nm) 640 0 641 := Or.inl ⟨0, (kL_law_23 (nm := nm)).at 12 rfl, rfl, rfl⟩
theorem dL_law_641 {nm : String} : DLi (mLn nm) 641 3 642 := Or.inl ⟨3, (kL_law_23 (nm := nm)).at 13 rfl, rfl, rfl⟩
theorem dL_law_642 {nm : String} : DC (mLn nm) 642 2 643 := Or.inl ⟨2, (kL_law_23 (nm := nm)).at 14 rfl, by decide, rfl⟩
theorem dL_law_643 {nm : String} : DI (mLn nm) 643 (.iadd) 1 644 := ⟨(kL_law_23 (nm := nm)).at 15 rfl, rfl⟩
theorem dL_law_644 {nm : String} : DI (mLn nm) 644 (.iaload) 1 645 := ⟨(kL_law_24 (nm := nm)).at 0 rfl, rfl⟩
theorem dL_law_645 {nm : String} : DI (mLn nm) 645 (.invokevirtual 71) 3 648 := ⟨(kL_law_24 (nm := nm)).at 1 rfl, rfl⟩
theorem dL_law_648 {nm : String} : DLa (mLn nm) 648 2 649 := Or.inl ⟨2, (kL_law_24 (nm := nm)).at 2 rfl, rfl, rfl⟩
theorem dL_law_649 {nm : String} : DLa (mLn nm) 649 0 650 := Or.inl ⟨0, (kL_law_24 (nm := nm)).at 3 rfl, rfl, rfl⟩
theorem dL_law_650 {nm : String} : DLi (mLn nm) 650 3 651 := Or.inl ⟨3, (kL_law_24 (nm := nm)).at 4 rfl, rfl, rfl⟩
theorem dL_law_651 {nm : String} : DC (mLn nm) 651 1 652 := Or.inl ⟨1, (kL_law_24 (nm := nm)).at 5 rfl, by decide, rfl⟩
theorem dL_law_652 {nm : String} : DI (mLn nm) 652 (.iadd) 1 653 := ⟨(kL_law_24 (nm := nm)).at 6 rfl, rfl⟩
theorem dL_law_653 {nm : String} : DI (mLn nm) 653 (.iaload) 1 654 := ⟨(kL_law_24 (nm := nm)).at 7 rfl, rfl⟩
theorem dL_law_654 {nm : String} : DLa (mLn nm) 654 0 655 := Or.inl ⟨0, (kL_law_24 (nm := nm)).at 8 rfl, rfl, rfl⟩
theorem dL_law_655 {nm : String} : DLi (mLn nm) 655 3 656 := Or.inl ⟨3, (kL_law_24 (nm := nm)).at 9 rfl, rfl, rfl⟩
theorem dL_law_656 {nm : String} : DC (mLn nm) 656 2 657 := Or.inl ⟨2, (kL_law_24 (nm := nm)).at 10 rfl, by decide, rfl⟩
theorem dL_law_657 {nm : String} : DI (mLn nm) 657 (.iadd) 1 658 := ⟨(kL_law_24 (nm := nm)).at 11 rfl, rfl⟩
theorem dL_law_658 {nm : String} : DI (mLn nm) 658 (.iaload) 1 659 := ⟨(kL_law_24 (nm := nm)).at 12 rfl, rfl⟩
theorem dL_law_659 {nm : String} : DI (mLn nm) 659 (.invokevirtual 75) 3 662 := ⟨(kL_law_24 (nm := nm)).at 13 rfl, rfl⟩
theorem dL_law_662 {nm : String} : DI (mLn nm) 662 (.lcmp) 1 663 := ⟨(kL_law_24 (nm := nm)).at 14 rfl, rfl⟩
theorem dL_law_663 {nm : String} : DB (mLn nm) 663 (.ifCond .eq (812)) (812) 666 1475 := ⟨(kL_law_24 (nm := nm)).at 15 rfl, rfl, rfl⟩
theorem dL_law_666 {nm : String} : DC (mLn nm) 666 0 667 := Or.inl ⟨0, (kL_law_25 (nm := nm)).at 0 rfl, by decide, rfl⟩
theorem dL_law_667 {nm : String} : DRz (mLn nm) 667 := ⟨(kL_law_25 (nm := nm)).at 1 rfl, rfl⟩
theorem dL_law_668 {nm : String} : DLa (mLn nm) 668 1 669 := Or.inl ⟨1, (kL_law_25 (nm := nm)).at 2 rfl, rfl, rfl⟩
theorem dL_law_669 {nm : String} : DLa (mLn nm) 669 0 670 := Or.inl ⟨0, (kL_law_25 (nm := nm)).at 3 rfl, rfl, rfl⟩
theorem dL_law_670 {nm : String} : DLi (mLn nm) 670 3 671 := Or.inl ⟨3, (kL_law_25 (nm := nm)).at 4 rfl, rfl, rfl⟩
theorem dL_law_671 {nm : String} : DC (mLn nm) 671 1 672 := Or.inl ⟨1, (kL_law_25 (nm := nm)).at 5 rfl, by decide, rfl⟩
theorem dL_law_672 {nm : String} : DI (mLn nm) 672 (.iadd) 1 673 := ⟨(kL_law_25 (nm := nm)).at 6 rfl, rfl⟩
theorem dL_law_673 {nm : String} : DI (mLn nm) 673 (.iaload) 1 674 := ⟨(kL_law_25 (nm := nm)).at 7 rfl, rfl⟩
theorem dL_law_674 {nm : String} : DLa (mLn nm) 674 0 675 := Or.inl ⟨0, (kL_law_25 (nm := nm)).at 8 rfl, rfl, rfl⟩
theorem dL_law_675 {nm : String} : DLi (mLn nm) 675 3 676 := Or.inl ⟨3, (kL_law_25 (nm := nm)).at 9 rfl, rfl, rfl⟩
theorem dL_law_676 {nm : String} : DC (mLn nm) 676 2 677 := Or.inl ⟨2, (kL_law_25 (nm := nm)).at 10 rfl, by decide, rfl⟩
theorem dL_law_677 {nm : String} : DI (mLn nm) 677 (.iadd) 1 678 := ⟨(kL_law_25 (nm := nm)).at 11 rfl, rfl⟩
theorem dL_law_678 {nm : String} : DI (mLn nm) 678 (.iaload) 1 679 := ⟨(kL_law_25 (nm := nm)).at 12 rfl, rfl⟩
theorem dL_law_679 {nm : String} : DLa (mLn nm) 679 0 680 := Or.inl ⟨0, (kL_law_25 (nm := nm)).at 13 rfl, rfl, rfl⟩
theorem dL_law_680 {nm : String} : DLi (mLn nm) 680 3 681 := Or.inl ⟨3, (kL_law_25 (nm := nm)).at 14 rfl, rfl, rfl⟩
theorem dL_law_681 {nm : String} : DC (mLn nm) 681 3 682 := Or.inl ⟨3, (kL_law_25 (nm := nm)).at 15 rfl, by decide, rfl⟩
theorem dL_law_682 {nm : String} : DI (mLn nm) 682 (.iadd) 1 683 := ⟨(kL_law_26 (nm := nm)).at 0 rfl, rfl⟩
theorem dL_law_683 {nm : String} : DI (mLn nm) 683 (.iaload) 1 684 := ⟨(kL_law_26 (nm := nm)).at 1 rfl, rfl⟩
theorem dL_law_684 {nm : String} : DI (mLn nm) 684 (.invokevirtual 76) 3 687 := ⟨(kL_law_26 (nm := nm)).at 2 rfl, rfl⟩
theorem dL_law_687 {nm : String} : DLa (mLn nm) 687 2 688 := Or.inl ⟨2, (kL_law_26 (nm := nm)).at 3 rfl, rfl, rfl⟩
theorem dL_law_688 {nm : String} : DLa (mLn nm) 688 0 689 := Or.inl ⟨0, (kL_law_26 (nm := nm)).at 4 rfl, rfl, rfl⟩
theorem dL_law_689 {nm : String} : DLi (mLn nm) 689 3 690 := Or.inl ⟨3, (kL_law_26 (nm := nm)).at 5 rfl, rfl, rfl⟩
theorem dL_law_690 {nm : String} : DC (mLn nm) 690 1 691 := Or.inl ⟨1, (kL_law_26 (nm := nm)).at 6 rfl, by decide, rfl⟩
theorem dL_law_691 {nm : String} : DI (mLn nm) 691 (.iadd) 1 692 := ⟨(kL_law_26 (nm := nm)).at 7 rfl, rfl⟩
theorem dL_law_692 {nm : String} : DI (mLn nm) 692 (.iaload) 1 693 := ⟨(kL_law_26 (nm := nm)).at 8 rfl, rfl⟩
theorem dL_law_693 {nm : String} : DLa (mLn nm) 693 0 694 := Or.inl ⟨0, (kL_law_26 (nm := nm)).at 9 rfl, rfl, rfl⟩
theorem dL_law_694 {nm : String} : DLi (mLn nm) 694 3 695 := Or.inl ⟨3, (kL_law_26 (nm := nm)).at 10 rfl, rfl, rfl⟩
theorem dL_law_695 {nm : String} : DC (mLn nm) 695 2 696 := Or.inl ⟨2, (kL_law_26 (nm := nm)).at 11 rfl, by decide, rfl⟩
theorem dL_law_696 {nm : String} : DI (mLn nm) 696 (.iadd) 1 697 := ⟨(kL_law_26 (nm := nm)).at 12 rfl, rfl⟩
theorem dL_law_697 {nm : String} : DI (mLn nm) 697 (.iaload) 1 698 := ⟨(kL_law_26 (nm := nm)).at 13 rfl, rfl⟩
theorem dL_law_698 {nm : String} : DLa (mLn nm) 698 0 699 := Or.inl ⟨0, (kL_law_26 (nm := nm)).at 14 rfl, rfl, rfl⟩
theorem dL_law_699 {nm : String} : DLi (mLn nm) 699 3 700 := Or.inl ⟨3, (kL_law_26 (nm := nm)).at 15 rfl, rfl, rfl⟩
theorem dL_law_700 {nm : String} : DC (mLn nm) 700 3 701 := Or.inl ⟨3, (kL_law_27 (nm := nm)).at 0 rfl, by decide, rfl⟩
theorem dL_law_701 {nm : String} : DI (mLn nm) 701 (.iadd) 1 702 := ⟨(kL_law_27 (nm := nm)).at 1 rfl, rfl⟩
theorem dL_law_702 {nm : String} : DI (mLn nm) 702 (.iaload) 1 703 := ⟨(kL_law_27 (nm := nm)).at 2 rfl, rfl⟩
theorem dL_law_703 {nm : String} : DI (mLn nm) 703 (.invokevirtual 79) 3 706 := ⟨(kL_law_27 (nm := nm)).at 3 rfl, rfl⟩
theorem dL_law_706 {nm : String} : DB (mLn nm) 706 (.if_icmp .eq (769)) (769) 709 1475 := ⟨(kL_law_27 (nm := nm)).at 4 rfl, rfl, rfl⟩
theorem dL_law_709 {nm : String} : DC (mLn nm) 709 0 710 := Or.inl ⟨0, (kL_law_27 (nm := nm)).at 5 rfl, by decide, rfl⟩
theorem dL_law_710 {nm : String} : DRz (mLn nm) 710 := ⟨(kL_law_27 (nm := nm)).at 6 rfl, rfl⟩
theorem dL_law_711 {nm : String} : DLa (mLn nm) 711 1 712 := Or.inl ⟨1, (kL_law_27 (nm := nm)).at 7 rfl, rfl, rfl⟩
theorem dL_law_712 {nm : String} : DLa (mLn nm) 712 0 713 := Or.inl ⟨0, (kL_law_27 (nm := nm)).at 8 rfl, rfl, rfl⟩
theorem dL_law_713 {nm : String} : DLi (mLn nm) 713 3 714 := Or.inl ⟨3, (kL_law_27 (nm := nm)).at 9 rfl, rfl, rfl⟩
theorem dL_law_714 {nm : String} : DC (mLn nm) 714 1 715 := Or.inl ⟨1, (kL_law_27 (nm := nm)).at 10 rfl, by decide, rfl⟩
theorem dL_law_715 {nm : String} : DI (mLn nm) 715 (.iadd) 1 716 := ⟨(kL_law_27 (nm := nm)).at 11 rfl, rfl⟩
theorem dL_law_716 {nm : String} : DI (mLn nm) 716 (.iaload) 1 717 := ⟨(kL_law_27 (nm := nm)).at 12 rfl, rfl⟩
theorem dL_law_717 {nm : String} : DLa (mLn nm) 717 0 718 := Or.inl ⟨0, (kL_law_27 (nm := nm)).at 13 rfl, rfl, rfl⟩
theorem dL_law_718 {nm : String} : DLi (mLn nm) 718 3 719 := Or.inl ⟨3, (kL_law_27 (nm := nm)).at 14 rfl, rfl, rfl⟩
theorem dL_law_719 {nm : String} : DC (mLn nm) 719 2 720 := Or.inl ⟨2, (kL_law_27 (nm := nm)).at 15 rfl, by decide, rfl⟩
theorem dL_law_720 {nm : String} : DI (mLn nm) 720 (.iadd) 1 721 := ⟨(kL_law_28 (nm := nm)).at 0 rfl, rfl⟩
theorem dL_law_721 {nm : String} : DI (mLn nm) 721 (.iaload) 1 722 := ⟨(kL_law_28 (nm := nm)).at 1 rfl, rfl⟩
theorem dL_law_722 {nm : String} : DI (mLn nm) 722 (.invokevirtual 80) 3 725 := ⟨(kL_law_28 (nm := nm)).at 2 rfl, rfl⟩
theorem dL_law_725 {nm : String} : DLa (mLn nm) 725 2 726 := Or.inl ⟨2, (kL_law_28 (nm := nm)).at 3 rfl, rfl, rfl⟩
theorem dL_law_726 {nm : String} : DLa (mLn nm) 726 0 727 := Or.inl ⟨0, (kL_law_28 (nm := nm)).at 4 rfl, rfl, rfl⟩
theorem dL_law_727 {nm : String} : DLi (mLn nm) 727 3 728 := Or.inl ⟨3, (kL_law_28 (nm := nm)).at 5 rfl, rfl, rfl⟩
theorem dL_law_728 {nm : String} : DC (mLn nm) 728 1 729 := Or.inl ⟨1, (kL_law_28 (nm := nm)).at 6 rfl, by decide, rfl⟩
theorem dL_law_729 {nm : String} : DI (mLn nm) 729 (.iadd) 1 730 := ⟨(kL_law_28 (nm := nm)).at 7 rfl, rfl⟩
theorem dL_law_730 {nm : String} : DI (mLn nm) 730 (.iaload) 1 731 := ⟨(kL_law_28 (nm := nm)).at 8 rfl, rfl⟩
theorem dL_law_731 {nm : String} : DLa (mLn nm) 731 0 732 := Or.inl ⟨0, (kL_law_28 (nm := nm)).at 9 rfl, rfl, rfl⟩
theorem dL_law_732 {nm : String} : DLi (mLn nm) 732 3 733 := Or.inl ⟨3, (kL_law_28 (nm := nm)).at 10 rfl, rfl, rfl⟩
theorem dL_law_733 {nm : String} : DC (mLn nm) 733 2 734 := Or.inl ⟨2, (kL_law_28 (nm := nm)).at 11 rfl, by decide, rfl⟩
theorem dL_law_734 {nm : String} : DI (mLn nm) 734 (.iadd) 1 735 := ⟨(kL_law_28 (nm := nm)).at 12 rfl, rfl⟩
theorem dL_law_735 {nm : String} : DI (mLn nm) 735 (.iaload) 1 736 := ⟨(kL_law_28 (nm := nm)).at 13 rfl, rfl⟩
theorem dL_law_736 {nm : String} : DI (mLn nm) 736 (.invokevirtual 83) 3 739 := ⟨(kL_law_28 (nm := nm)).at 14 rfl, rfl⟩
theorem dL_law_739 {nm : String} : DB (mLn nm) 739 (.if_icmp .eq (736)) (736) 742 1475 := ⟨(kL_law_28 (nm := nm)).at 15 rfl, rfl, rfl⟩
theorem dL_law_742 {nm : String} : DC (mLn nm) 742 0 743 := Or.inl ⟨0, (kL_law_29 (nm := nm)).at 0 rfl, by decide, rfl⟩
theorem dL_law_743 {nm : String} : DRz (mLn nm) 743 := ⟨(kL_law_29 (nm := nm)).at 1 rfl, rfl⟩
theorem dL_law_744 {nm : String} : DLa (mLn nm) 744 1 745 := Or.inl ⟨1, (kL_law_29 (nm := nm)).at 2 rfl, rfl, rfl⟩
theorem dL_law_745 {nm : String} : DLa (mLn nm) 745 0 746 := Or.inl ⟨0, (kL_law_29 (nm := nm)).at 3 rfl, rfl, rfl⟩
theorem dL_law_746 {nm : String} : DLi (mLn nm) 746 3 747 := Or.inl ⟨3, (kL_law_29 (nm := nm)).at 4 rfl, rfl, rfl⟩
theorem dL_law_747 {nm : String} : DC (mLn nm) 747 1 748 := Or.inl ⟨1, (kL_law_29 (nm := nm)).at 5 rfl, by decide, rfl⟩
theorem dL_law_748 {nm : String} : DI (mLn nm) 748 (.iadd) 1 749 := ⟨(kL_law_29 (nm := nm)).at 6 rfl, rfl⟩
theorem dL_law_749 {nm : String} : DI (mLn nm) 749 (.iaload) 1 750 := ⟨(kL_law_29 (nm := nm)).at 7 rfl, rfl⟩
theorem dL_law_750 {nm : String} : DLa (mLn nm) 750 0 751 := Or.inl ⟨0, (kL_law_29 (nm := nm)).at 8 rfl, rfl, rfl⟩
theorem dL_law_751 {nm : String} : DLi (mLn nm) 751 3 752 := Or.inl ⟨3, (kL_law_29 (nm := nm)).at 9 rfl, rfl, rfl⟩
theorem dL_law_752 {nm : String} : DC (mLn nm) 752 2 753 := Or.inl ⟨2, (kL_law_29 (nm := nm)).at 10 rfl, by decide, rfl⟩
theorem dL_law_753 {nm : String} : DI (mLn nm) 753 (.iadd) 1 754 := ⟨(kL_law_29 (nm := nm)).at 11 rfl, rfl⟩
theorem dL_law_754 {nm : String} : DI (mLn nm) 754 (.iaload) 1 755 := ⟨(kL_law_29 (nm := nm)).at 12 rfl, rfl⟩
theorem dL_law_755 {nm : String} : DI (mLn nm) 755 (.invokevirtual 84) 3 758 := ⟨(kL_law_29 (nm := nm)).at 13 rfl, rfl⟩
theorem dL_law_758 {nm : String} : DLa (mLn nm) 758 2 759 := Or.inl ⟨2, (kL_law_29 (nm := nm)).at 14 rfl, rfl, rfl⟩
theorem dL_law_759 {nm : String} : DLa (mLn nm) 759 0 760 := Or.inl ⟨0, (kL_law_29 (nm := nm)).at 15 rfl, rfl, rfl⟩
theorem dL_law_760 {nm : String} : DLi (mLn nm) 760 3 761 := Or.inl ⟨3, (kL_law_30 (nm := nm)).at 0 rfl, rfl, rfl⟩
theorem dL_law_761 {nm : String} : DC (mLn nm) 761 1 762 := Or.inl ⟨1, (kL_law_30 (nm := nm)).at 1 rfl, by decide, rfl⟩
theorem dL_law_762 {nm : String} : DI (mLn nm) 762 (.iadd) 1 763 := ⟨(kL_law_30 (nm := nm)).at 2 rfl, rfl⟩
theorem dL_law_763 {nm : String} : DI (mLn nm) 763 (.iaload) 1 764 := ⟨(kL_law_30 (nm := nm)).at 3 rfl, rfl⟩
theorem dL_law_764 {nm : String} : DLa (mLn nm) 764 0 765 := Or.inl ⟨0, (kL_law_30 (nm := nm)).at 4 rfl, rfl, rfl⟩
theorem dL_law_765 {nm : String} : DLi (mLn nm) 765 3 766 := Or.inl ⟨3, (kL_law_30 (nm := nm)).at 5 rfl, rfl, rfl⟩
theorem dL_law_766 {nm : String} : DC (mLn nm) 766 2 767 := Or.inl ⟨2, (kL_law_30 (nm := nm)).at 6 rfl, by decide, rfl⟩
theorem dL_law_767 {nm : String} : DI (mLn nm) 767 (.iadd) 1 768 := ⟨(kL_law_30 (nm := nm)).at 7 rfl, rfl⟩
theorem dL_law_768 {nm : String} : DI (mLn nm) 768 (.iaload) 1 769 := ⟨(kL_law_30 (nm := nm)).at 8 rfl, rfl⟩
theorem dL_law_769 {nm : String} : DI (mLn nm) 769 (.invokevirtual 87) 3 772 := ⟨(kL_law_30 (nm := nm)).at 9 rfl, rfl⟩
theorem dL_law_772 {nm : String} : DB (mLn nm) 772 (.if_icmp .eq (703)) (703) 775 1475 := ⟨(kL_law_30 (nm := nm)).at 10 rfl, rfl, rfl⟩
theorem dL_law_775 {nm : String} : DC (mLn nm) 775 0 776 := Or.inl ⟨0, (kL_law_30 (nm := nm)).at 11 rfl, by decide, rfl⟩
theorem dL_law_776 {nm : String} : DRz (mLn nm) 776 := ⟨(kL_law_30 (nm := nm)).at 12 rfl, rfl⟩
theorem dL_law_777 {nm : String} : DLa (mLn nm) 777 1 778 := Or.inl ⟨1, (kL_law_30 (nm := nm)).at 13 rfl, rfl, rfl⟩
theorem dL_law_778 {nm : String} : DLa (mLn nm) 778 0 779 := Or.inl ⟨0, (kL_law_30 (nm := nm)).at 14 rfl, rfl, rfl⟩
theorem dL_law_779 {nm : String} : DLi (mLn nm) 779 3 780 := Or.inl ⟨3, (kL_law_30 (nm := nm)).at 15 rfl, rfl, rfl⟩
theorem dL_law_780 {nm : String} : DC (mLn nm) 780 1 781 := Or.inl ⟨1, (kL_law_31 (nm := nm)).at 0 rfl, by decide, rfl⟩
theorem dL_law_781 {nm : String} : DI (mLn nm) 781 (.iadd) 1 782 := ⟨(kL_law_31 (nm := nm)).at 1 rfl, rfl⟩
theorem dL_law_782 {nm : String} : DI (mLn nm) 782 (.iaload) 1 783 := ⟨(kL_law_31 (nm := nm)).at 2 rfl, rfl⟩
theorem dL_law_783 {nm : String} : DLa (mLn nm) 783 0 784 := Or.inl ⟨0, (kL_law_31 (nm := nm)).at 3 rfl, rfl, rfl⟩
theorem dL_law_784 {nm : String} : DLi (mLn nm) 784 3 785 := Or.inl ⟨3, (kL_law_31 (nm := nm)).at 4 rfl, rfl, rfl⟩
theorem dL_law_785 {nm : String} : DC (mLn nm) 785 2 786 := Or.inl ⟨2, (kL_law_31 (nm := nm)).at 5 rfl, by decide, rfl⟩
theorem dL_law_786 {nm : String} : DI (mLn nm) 786 (.iadd) 1 787 := ⟨(kL_law_31 (nm := nm)).at 6 rfl, rfl⟩
theorem dL_law_787 {nm : String} : DI (mLn nm) 787 (.iaload) 1 788 := ⟨(kL_law_31 (nm := nm)).at 7 rfl, rfl⟩
theorem dL_law_788 {nm : String} : DI (mLn nm) 788 (.invokevirtual 88) 3 791 := ⟨(kL_law_31 (nm := nm)).at 8 rfl, rfl⟩
theorem dL_law_791 {nm : String} : DLa (mLn nm) 791 2 792 := Or.inl ⟨2, (kL_law_31 (nm := nm)).at 9 rfl, rfl, rfl⟩
theorem dL_law_792 {nm : String} : DLa (mLn nm) 792 0 793 := Or.inl ⟨0, (kL_law_31 (nm := nm)).at 10 rfl, rfl, rfl⟩
theorem dL_law_793 {nm : String} : DLi (mLn nm) 793 3 794 := Or.inl ⟨3, (kL_law_31 (nm := nm)).at 11 rfl, rfl, rfl⟩
theorem dL_law_794 {nm : String} : DC (mLn nm) 794 1 795 := Or.inl ⟨1, (kL_law_31 (nm := nm)).at 12 rfl, by decide, rfl⟩
theorem dL_law_795 {nm : String} : DI (mLn nm) 795 (.iadd) 1 796 := ⟨(kL_law_31 (nm := nm)).at 13 rfl, rfl⟩
theorem dL_law_796 {nm : String} : DI (mLn nm) 796 (.iaload) 1 797 := ⟨(kL_law_31 (nm := nm)).at 14 rfl, rfl⟩
theorem dL_law_797 {nm : String} : DLa (mLn nm) 797 0 798 := Or.inl ⟨0, (kL_law_31 (nm := nm)).at 15 rfl, rfl, rfl⟩
theorem dL_law_798 {nm : String} : DLi (mLn nm) 798 3 799 := Or.inl ⟨3, (kL_law_32 (nm := nm)).at 0 rfl, rfl, rfl⟩
theorem dL_law_799 {nm : String} : DC (mLn nm) 799 2 800 := Or.inl ⟨2, (kL_law_32 (nm := nm)).at 1 rfl, by decide, rfl⟩
theorem dL_law_800 {nm : String} : DI (mLn nm) 800 (.iadd) 1 801 := ⟨(kL_law_32 (nm := nm)).at 2 rfl, rfl⟩
theorem dL_law_801 {nm : String} : DI (mLn nm) 801 (.iaload) 1 802 := ⟨(kL_law_32 (nm := nm)).at 3 rfl, rfl⟩
theorem dL_law_802 {nm : String} : DI (mLn nm) 802 (.invokevirtual 91) 3 805 := ⟨(kL_law_32 (nm := nm)).at 4 rfl, rfl⟩
theorem dL_law_805 {nm : String} : DB (mLn nm) 805 (.if_icmp .eq (670)) (670) 808 1475 := ⟨(kL_law_32 (nm := nm)).at 5 rfl, rfl, rfl⟩
theorem dL_law_808 {nm : String} : DC (mLn nm) 808 0 809 := Or.inl ⟨0, (kL_law_32 (nm := nm)).at 6 rfl, by decide, rfl⟩
theorem dL_law_809 {nm : String} : DRz (mLn nm) 809 := ⟨(kL_law_32 (nm := nm)).at 7 rfl, rfl⟩
theorem dL_law_810 {nm : String} : DLa (mLn nm) 810 1 811 := Or.inl ⟨1, (kL_law_32 (nm := nm)).at 8 rfl, rfl, rfl⟩
theorem dL_law_811 {nm : String} : DLa (mLn nm) 811 0 812 := Or.inl ⟨0, (kL_law_32 (nm := nm)).at 9 rfl, rfl, rfl⟩
theorem dL_law_812 {nm : String} : DLi (mLn nm) 812 3 813 := Or.inl ⟨3, (kL_law_32 (nm := nm)).at 10 rfl, rfl, rfl⟩
theorem dL_law_813 {nm : String} : DC (mLn nm) 813 1 814 := Or.inl ⟨1, (kL_law_32 (nm := nm)).at 11 rfl, by decide, rfl⟩
theorem dL_law_814 {nm : String} : DI (mLn nm) 814 (.iadd) 1 815 := ⟨(kL_law_32 (nm := nm)).at 12 rfl, rfl⟩
theorem dL_law_815 {nm : String} : DI (mLn nm) 815 (.iaload) 1 816 := ⟨(kL_law_32 (nm := nm)).at 13 rfl, rfl⟩
theorem dL_law_816 {nm : String} : DLa (mLn nm) 816 0 817 := Or.inl ⟨0, (kL_law_32 (nm := nm)).at 14 rfl, rfl, rfl⟩
theorem dL_law_817 {nm : String} : DLi (mLn nm) 817 3 818 := Or.inl ⟨3, (kL_law_32 (nm := nm)).at 15 rfl, rfl, rfl⟩
theorem dL_law_818 {nm : String} : DC (mLn nm) 818 2 819 := Or.inl ⟨2, (kL_law_33 (nm := nm)).at 0 rfl, by decide, rfl⟩
theorem dL_law_819 {nm : String} : DI (mLn nm) 819 (.iadd) 1 820 := ⟨(kL_law_33 (nm := nm)).at 1 rfl, rfl⟩
theorem dL_law_820 {nm : String} : DI (mLn nm) 820 (.iaload) 1 821 := ⟨(kL_law_33 (nm := nm)).at 2 rfl, rfl⟩
theorem dL_law_821 {nm : String} : DI (mLn nm) 821 (.invokevirtual 92) 3 824 := ⟨(kL_law_33 (nm := nm)).at 3 rfl, rfl⟩
theorem dL_law_824 {nm : String} : DLa (mLn nm) 824 2 825 := Or.inl ⟨2, (kL_law_33 (nm := nm)).at 4 rfl, rfl, rfl⟩
theorem dL_law_825 {nm : String} : DLa (mLn nm) 825 0 826 := Or.inl ⟨0, (kL_law_33 (nm := nm)).at 5 rfl, rfl, rfl⟩
theorem dL_law_826 {nm : String} : DLi (mLn nm) 826 3 827 := Or.inl ⟨3, (kL_law_33 (nm := nm)).at 6 rfl, rfl, rfl⟩
theorem dL_law_827 {nm : String} : DC (mLn nm) 827 1 828 := Or.inl ⟨1, (kL_law_33 (nm := nm)).at 7 rfl, by decide, rfl⟩
theorem dL_law_828 {nm : String} : DI (mLn nm) 828 (.iadd) 1 829 := ⟨(kL_law_33 (nm := nm)).at 8 rfl, rfl⟩
theorem dL_law_829 {nm : String} : DI (mLn nm) 829 (.iaload) 1 830 := ⟨(kL_law_33 (nm := nm)).at 9 rfl, rfl⟩
theorem dL_law_830 {nm : String} : DLa (mLn nm) 830 0 831 := Or.inl ⟨0, (kL_law_33 (nm := nm)).at 10 rfl, rfl, rfl⟩
theorem dL_law_831 {nm : String} : DLi (mLn nm) 831 3 832 := Or.inl ⟨3, (kL_law_33 (nm := nm)).at 11 rfl, rfl, rfl⟩
theorem dL_law_832 {nm : String} : DC (mLn nm) 832 2 833 := Or.inl ⟨2, (kL_law_33 (nm := nm)).at 12 rfl, by decide, rfl⟩
theorem dL_law_833 {nm : String} : DI (mLn nm) 833 (.iadd) 1 834 := ⟨(kL_law_33 (nm := nm)).at 13 rfl, rfl⟩
theorem dL_law_834 {nm : String} : DI (mLn nm) 834 (.iaload) 1 835 := ⟨(kL_law_33 (nm := nm)).at 14 rfl, rfl⟩
theorem dL_law_835 {nm : String} : DI (mLn nm) 835 (.invokevirtual 95) 3 838 := ⟨(kL_law_33 (nm := nm)).at 15 rfl, rfl⟩
theorem dL_law_838 {nm : String} : DB (mLn nm) 838 (.if_icmp .eq (637)) (637) 841 1475 := ⟨(kL_law_34 (nm := nm)).at 0 rfl, rfl, rfl⟩
theorem dL_law_841 {nm : String} : DC (mLn nm) 841 0 842 := Or.inl ⟨0, (kL_law_34 (nm := nm)).at 1 rfl, by decide, rfl⟩
theorem dL_law_842 {nm : String} : DRz (mLn nm) 842 := ⟨(kL_law_34 (nm := nm)).at 2 rfl, rfl⟩
theorem dL_law_843 {nm : String} : DLa (mLn nm) 843 1 844 := Or.inl ⟨1, (kL_law_34 (nm := nm)).at 3 rfl, rfl, rfl⟩
theorem dL_law_844 {nm : String} : DLa (mLn nm) 844 0 845 := Or.inl ⟨0, (kL_law_34 (nm := nm)).at 4 rfl, rfl, rfl⟩
theorem dL_law_845 {nm : String} : DLi (mLn nm) 845 3 846 := Or.inl ⟨3, (kL_law_34 (nm := nm)).at 5 rfl, rfl, rfl⟩
theorem dL_law_846 {nm : String} : DC (mLn nm) 846 1 847 := Or.inl ⟨1, (kL_law_34 (nm := nm)).at 6 rfl, by decide, rfl⟩
theorem dL_law_847 {nm : String} : DI (mLn nm) 847 (.iadd) 1 848 := ⟨(kL_law_34 (nm := nm)).at 7 rfl, rfl⟩
theorem dL_law_848 {nm : String} : DI (mLn nm) 848 (.iaload) 1 849 := ⟨(kL_law_34 (nm := nm)).at 8 rfl, rfl⟩
theorem dL_law_849 {nm : String} : DLa (mLn nm) 849 0 850 := Or.inl ⟨0, (kL_law_34 (nm := nm)).at 9 rfl, rfl, rfl⟩
theorem dL_law_850 {nm : String} : DLi (mLn nm) 850 3 851 := Or.inl ⟨3, (kL_law_34 (nm := nm)).at 10 rfl, rfl, rfl⟩
theorem dL_law_851 {nm : String} : DC (mLn nm) 851 2 852 := Or.inl ⟨2, (kL_law_34 (nm := nm)).at 11 rfl, by decide, rfl⟩
theorem dL_law_852 {nm : String} : DI (mLn nm) 852 (.iadd) 1 853 := ⟨(kL_law_34 (nm := nm)).at 12 rfl, rfl⟩
theorem dL_law_853 {nm : String} : DI (mLn nm) 853 (.iaload) 1 854 := ⟨(kL_law_34 (nm := nm)).at 13 rfl, rfl⟩
theorem dL_law_854 {nm : String} : DI (mLn nm) 854 (.invokevirtual 96) 3 857 := ⟨(kL_law_34 (nm := nm)).at 14 rfl, rfl⟩
theorem dL_law_857 {nm : String} : DLa (mLn nm) 857 2 858 := Or.inl ⟨2, (kL_law_34 (nm := nm)).at 15 rfl, rfl, rfl⟩
theorem dL_law_858 {nm : String} : DLa (mLn nm) 858 0 859 := Or.inl ⟨0, (kL_law_35 (nm := nm)).at 0 rfl, rfl, rfl⟩
theorem dL_law_859 {nm : String} : DLi (mLn nm) 859 3 860 := Or.inl ⟨3, (kL_law_35 (nm := nm)).at 1 rfl, rfl, rfl⟩
theorem dL_law_860 {nm : String} : DC (mLn nm) 860 1 861 := Or.inl ⟨1, (kL_law_35 (nm := nm)).at 2 rfl, by decide, rfl⟩
theorem dL_law_861 {nm : String} : DI (mLn nm) 861 (.iadd) 1 862 := ⟨(kL_law_35 (nm := nm)).at 3 rfl, rfl⟩
theorem dL_law_862 {nm : String} : DI (mLn nm) 862 (.iaload) 1 863 := ⟨(kL_law_35 (nm := nm)).at 4 rfl, rfl⟩
theorem dL_law_863 {nm : String} : DLa (mLn nm) 863 0 864 := Or.inl ⟨0, (kL_law_35 (nm := nm)).at 5 rfl, rfl, rfl⟩
theorem dL_law_864 {nm : String} : DLi (mLn nm) 864 3 865 := Or.inl ⟨3, (kL_law_35 (nm := nm)).at 6 rfl, rfl, rfl⟩
theorem dL_law_865 {nm : String} : DC (mLn nm) 865 2 866 := Or.inl ⟨2, (kL_law_35 (nm := nm)).at 7 rfl, by decide, rfl⟩
theorem dL_law_866 {nm : String} : DI (mLn nm) 866 (.iadd) 1 867 := ⟨(kL_law_35 (nm := nm)).at 8 rfl, rfl⟩
theorem dL_law_867 {nm : String} : DI (mLn nm) 867 (.iaload) 1 868 := ⟨(kL_law_35 (nm := nm)).at 9 rfl, rfl⟩
theorem dL_law_868 {nm : String} : DI (mLn nm) 868 (.invokevirtual 99) 3 871 := ⟨(kL_law_35 (nm := nm)).at 10 rfl, rfl⟩
theorem dL_law_871 {nm : String} : DI (mLn nm) 871 (.lcmp) 1 872 := ⟨(kL_law_35 (nm := nm)).at 11 rfl, rfl⟩
theorem dL_law_872 {nm : String} : DB (mLn nm) 872 (.ifCond .eq (603)) (603) 875 1475 := ⟨(kL_law_35 (nm := nm)).at 12 rfl, rfl, rfl⟩
theorem dL_law_875 {nm : String} : DC (mLn nm) 875 0 876 := Or.inl ⟨0, (kL_law_35 (nm := nm)).at 13 rfl, by decide, rfl⟩
theorem dL_law_876 {nm : String} : DRz (mLn nm) 876 := ⟨(kL_law_35 (nm := nm)).at 14 rfl, rfl⟩
theorem dL_law_877 {nm : String} : DLa (mLn nm) 877 1 878 := Or.inl ⟨1, (kL_law_35 (nm := nm)).at 15 rfl, rfl, rfl⟩
theorem dL_law_878 {nm : String} : DLa (mLn nm) 878 0 879 := Or.inl ⟨0, (kL_law_36 (nm := nm)).at 0 rfl, rfl, rfl⟩
theorem dL_law_879 {nm : String} : DLi (mLn nm) 879 3 880 := Or.inl ⟨3, (kL_law_36 (nm := nm)).at 1 rfl, rfl, rfl⟩
theorem dL_law_880 {nm : String} : DC (mLn nm) 880 1 881 := Or.inl ⟨1, (kL_law_36 (nm := nm)).at 2 rfl, by decide, rfl⟩
theorem dL_law_881 {nm : String} : DI (mLn nm) 881 (.iadd) 1 882 := ⟨(kL_law_36 (nm := nm)).at 3 rfl, rfl⟩
theorem dL_law_882 {nm : String} : DI (mLn nm) 882 (.iaload) 1 883 := ⟨(kL_law_36 (nm := nm)).at 4 rfl, rfl⟩
theorem dL_law_883 {nm : String} : DLa (mLn nm) 883 0 884 := Or.inl ⟨0, (kL_law_36 (nm := nm)).at 5 rfl, rfl, rfl⟩
theorem dL_law_884 {nm : String} : DLi (mLn nm) 884 3 885 := Or.inl ⟨3, (kL_law_36 (nm := nm)).at 6 rfl, rfl, rfl⟩
theorem dL_law_885 {nm : String} : DC (mLn nm) 885 2 886 := Or.inl ⟨2, (kL_law_36 (nm := nm)).at 7 rfl, by decide, rfl⟩
theorem dL_law_886 {nm : String} : DI (mLn nm) 886 (.iadd) 1 887 := ⟨(kL_law_36 (nm := nm)).at 8 rfl, rfl⟩
theorem dL_law_887 {nm : String} : DI (mLn nm) 887 (.iaload) 1 888 := ⟨(kL_law_36 (nm := nm)).at 9 rfl, rfl⟩
theorem dL_law_888 {nm : String} : DLa (mLn nm) 888 0 889 := Or.inl ⟨0, (kL_law_36 (nm := nm)).at 10 rfl, rfl, rfl⟩
theorem dL_law_889 {nm : String} : DLi (mLn nm) 889 3 890 := Or.inl ⟨3, (kL_law_36 (nm := nm)).at 11 rfl, rfl, rfl⟩
theorem dL_law_890 {nm : String} : DC (mLn nm) 890 3 891 := Or.inl ⟨3, (kL_law_36 (nm := nm)).at 12 rfl, by decide, rfl⟩
theorem dL_law_891 {nm : String} : DI (mLn nm) 891 (.iadd) 1 892 := ⟨(kL_law_36 (nm := nm)).at 13 rfl, rfl⟩
theorem dL_law_892 {nm : String} : DI (mLn nm) 892 (.iaload) 1 893 := ⟨(kL_law_36 (nm := nm)).at 14 rfl, rfl⟩
theorem dL_law_893 {nm : String} : DI (mLn nm) 893 (.invokevirtual 100) 3 896 := ⟨(kL_law_36 (nm := nm)).at 15 rfl, rfl⟩
theorem dL_law_896 {nm : String} : DLa (mLn nm) 896 2 897 := Or.inl ⟨2, (kL_law_37 (nm := nm)).at 0 rfl, rfl, rfl⟩
theorem dL_law_897 {nm : String} : DLa (mLn nm) 897 0 898 := Or.inl ⟨0, (kL_law_37 (nm := nm)).at 1 rfl, rfl, rfl⟩
theorem dL_law_898 {nm : String} : DLi (mLn nm) 898 3 899 := Or.inl ⟨3, (kL_law_37 (nm := nm)).at 2 rfl, rfl, rfl⟩
theorem dL_law_899 {nm : String} : DC (mLn nm) 899 1 900 := Or.inl ⟨1, (kL_law_37 (nm := nm)).at 3 rfl, by decide, rfl⟩
theorem dL_law_900 {nm : String} : DI (mLn nm) 900 (.iadd) 1 901 := ⟨(kL_law_37 (nm := nm)).at 4 rfl, rfl⟩
theorem dL_law_901 {nm : String} : DI (mLn nm) 901 (.iaload) 1 902 := ⟨(kL_law_37 (nm := nm)).at 5 rfl, rfl⟩
theorem dL_law_902 {nm : String} : DLa (mLn nm) 902 0 903 := Or.inl ⟨0, (kL_law_37 (nm := nm)).at 6 rfl, rfl, rfl⟩
theorem dL_law_903 {nm : String} : DLi (mLn nm) 903 3 904 := Or.inl ⟨3, (kL_law_37 (nm := nm)).at 7 rfl, rfl, rfl⟩
theorem dL_law_904 {nm : String} : DC (mLn nm) 904 2 905 := Or.inl ⟨2, (kL_law_37 (nm := nm)).at 8 rfl, by decide, rfl⟩
theorem dL_law_905 {nm : String} : DI (mLn nm) 905 (.iadd) 1 906 := ⟨(kL_law_37 (nm := nm)).at 9 rfl, rfl⟩
theorem dL_law_906 {nm : String} : DI (mLn nm) 906 (.iaload) 1 907 := ⟨(kL_law_37 (nm := nm)).at 10 rfl, rfl⟩
theorem dL_law_907 {nm : String} : DLa (mLn nm) 907 0 908 := Or.inl ⟨0, (kL_law_37 (nm := nm)).at 11 rfl, rfl, rfl⟩
theorem dL_law_908 {nm : String} : DLi (mLn nm) 908 3 909 := Or.inl ⟨3, (kL_law_37 (nm := nm)).at 12 rfl, rfl, rfl⟩
theorem dL_law_909 {nm : String} : DC (mLn nm) 909 3 910 := Or.inl ⟨3, (kL_law_37 (nm := nm)).at 13 rfl, by decide, rfl⟩
theorem dL_law_910 {nm : String} : DI (mLn nm) 910 (.iadd) 1 911 := ⟨(kL_law_37 (nm := nm)).at 14 rfl, rfl⟩
theorem dL_law_911 {nm : String} : DI (mLn nm) 911 (.iaload) 1 912 := ⟨(kL_law_37 (nm := nm)).at 15 rfl, rfl⟩
theorem dL_law_912 {nm : String} : DI (mLn nm) 912 (.invokevirtual 103) 3 915 := ⟨(kL_law_38 (nm := nm)).at 0 rfl, rfl⟩
theorem dL_law_915 {nm : String} : DB (mLn nm) 915 (.if_icmp .eq (560)) (560) 918 1475 := ⟨(kL_law_38 (nm := nm)).at 1 rfl, rfl, rfl⟩
theorem dL_law_918 {nm : String} : DC (mLn nm) 918 0 919 := Or.inl ⟨0, (kL_law_38 (nm := nm)).at 2 rfl, by decide, rfl⟩
theorem dL_law_919 {nm : String} : DRz (mLn nm) 919 := ⟨(kL_law_38 (nm := nm)).at 3 rfl, rfl⟩
theorem dL_law_920 {nm : String} : DLa (mLn nm) 920 1 921 := Or.inl ⟨1, (kL_law_38 (nm := nm)).at 4 rfl, rfl, rfl⟩
theorem dL_law_921 {nm : String} : DLa (mLn nm) 921 0 922 := Or.inl ⟨0, (kL_law_38 (nm := nm)).at 5 rfl, rfl, rfl⟩
theorem dL_law_922 {nm : String} : DLi (mLn nm) 922 3 923 := Or.inl ⟨3, (kL_law_38 (nm := nm)).at 6 rfl, rfl, rfl⟩
theorem dL_law_923 {nm : String} : DC (mLn nm) 923 1 924 := Or.inl ⟨1, (kL_law_38 (nm := nm)).at 7 rfl, by decide, rfl⟩
theorem dL_law_924 {nm : String} : DI (mLn nm) 924 (.iadd) 1 925 := ⟨(kL_law_38 (nm := nm)).at 8 rfl, rfl⟩
theorem dL_law_925 {nm : String} : DI (mLn nm) 925 (.iaload) 1 926 := ⟨(kL_law_38 (nm := nm)).at 9 rfl, rfl⟩
theorem dL_law_926 {nm : String} : DLa (mLn nm) 926 0 927 := Or.inl ⟨0, (kL_law_38 (nm := nm)).at 10 rfl, rfl, rfl⟩
theorem dL_law_927 {nm : String} : DLi (mLn nm) 927 3 928 := Or.inl ⟨3, (kL_law_38 (nm := nm)).at 11 rfl, rfl, rfl⟩
theorem dL_law_928 {nm : String} : DC (mLn nm) 928 2 929 := Or.inl ⟨2, (kL_law_38 (nm := nm)).at 12 rfl, by decide, rfl⟩
theorem dL_law_929 {nm : String} : DI (mLn nm) 929 (.iadd) 1 930 := ⟨(kL_law_38 (nm := nm)).at 13 rfl, rfl⟩
theorem dL_law_930 {nm : String} : DI (mLn nm) 930 (.iaload) 1 931 := ⟨(kL_law_38 (nm := nm)).at 14 rfl, rfl⟩
theorem dL_law_931 {nm : String} : DLa (mLn nm) 931 0 932 := Or.inl ⟨0, (kL_law_38 (nm := nm)).at 15 rfl, rfl, rfl⟩
theorem dL_law_932 {nm : String} : DLi (mLn nm) 932 3 933 := Or.inl ⟨3, (kL_law_39 (nm := nm)).at 0 rfl, rfl, rfl⟩
theorem dL_law_933 {nm : String} : DC (mLn nm) 933 3 934 := Or.inl ⟨3, (kL_law_39 (nm := nm)).at 1 rfl, by decide, rfl⟩
theorem dL_law_934 {nm : String} : DI (mLn nm) 934 (.iadd) 1 935 := ⟨(kL_law_39 (nm := nm)).at 2 rfl, rfl⟩
theorem dL_law_935 {nm : String} : DI (mLn nm) 935 (.iaload) 1 936 := ⟨(kL_law_39 (nm := nm)).at 3 rfl, rfl⟩
theorem dL_law_936 {nm : String} : DI (mLn nm) 936 (.invokevirtual 104) 3 939 := ⟨(kL_law_39 (nm := nm)).at 4 rfl, rfl⟩
theorem dL_law_939 {nm : String} : DLa (mLn nm) 939 2 940 := Or.inl ⟨2, (kL_law_39 (nm := nm)).at 5 rfl, rfl, rfl⟩
theorem dL_law_940 {nm : String} : DLa (mLn nm) 940 0 941 := Or.inl ⟨0, (kL_law_39 (nm := nm)).at 6 rfl, rfl, rfl⟩
theorem dL_law_941 {nm : String} : DLi (mLn nm) 941 3 942 := Or.inl ⟨3, (kL_law_39 (nm := nm)).at 7 rfl, rfl, rfl⟩
theorem dL_law_942 {nm : String} : DC (mLn nm) 942 1 943 := Or.inl ⟨1, (kL_law_39 (nm := nm)).at 8 rfl, by decide, rfl⟩
theorem dL_law_943 {nm : String} : DI (mLn nm) 943 (.iadd) 1 944 := ⟨(kL_law_39 (nm := nm)).at 9 rfl, rfl⟩
theorem dL_law_944 {nm : String} : DI (mLn nm) 944 (.iaload) 1 945 := ⟨(kL_law_39 (nm := nm)).at 10 rfl, rfl⟩
theorem dL_law_945 {nm : String} : DLa (mLn nm) 945 0 946 := Or.inl ⟨0, (kL_law_39 (nm := nm)).at 11 rfl, rfl, rfl⟩
theorem dL_law_946 {nm : String} : DLi (mLn nm) 946 3 947 := Or.inl ⟨3, (kL_law_39 (nm := nm)).at 12 rfl, rfl, rfl⟩
theorem dL_law_947 {nm : String} : DC (mLn nm) 947 2 948 := Or.inl ⟨2, (kL_law_39 (nm := nm)).at 13 rfl, by decide, rfl⟩
theorem dL_law_948 {nm : String} : DI (mLn nm) 948 (.iadd) 1 949 := ⟨(kL_law_39 (nm := nm)).at 14 rfl, rfl⟩
theorem dL_law_949 {nm : String} : DI (mLn nm) 949 (.iaload) 1 950 := ⟨(kL_law_39 (nm := nm)).at 15 rfl, rfl⟩
theorem dL_law_950 {nm : String} : DLa (mLn nm) 950 0 951 := Or.inl ⟨0, (kL_law_40 (nm := nm)).at 0 rfl, rfl, rfl⟩
theorem dL_law_951 {nm : String} : DLi (mLn nm) 951 3 952 := Or.inl ⟨3, (kL_law_40 (nm := nm)).at 1 rfl, rfl, rfl⟩
theorem dL_law_952 {nm : String} : DC (mLn nm) 952 3 953 := Or.inl ⟨3, (kL_law_40 (nm := nm)).at 2 rfl, by decide, rfl⟩
theorem dL_law_953 {nm : String} : DI (mLn nm) 953 (.iadd) 1 954 := ⟨(kL_law_40 (nm := nm)).at 3 rfl, rfl⟩
theorem dL_law_954 {nm : String} : DI (mLn nm) 954 (.iaload) 1 955 := ⟨(kL_law_40 (nm := nm)).at 4 rfl, rfl⟩
theorem dL_law_955 {nm : String} : DI (mLn nm) 955 (.invokevirtual 107) 3 958 := ⟨(kL_law_40 (nm := nm)).at 5 rfl, rfl⟩
theorem dL_law_958 {nm : String} : DB (mLn nm) 958 (.if_icmp .eq (517)) (517) 961 1475 := ⟨(kL_law_40 (nm := nm)).at 6 rfl, rfl, rfl⟩
theorem dL_law_961 {nm : String} : DC (mLn nm) 961 0 962 := Or.inl ⟨0, (kL_law_40 (nm := nm)).at 7 rfl, by decide, rfl⟩
theorem dL_law_962 {nm : String} : DRz (mLn nm) 962 := ⟨(kL_law_40 (nm := nm)).at 8 rfl, rfl⟩
theorem dL_law_963 {nm : String} : DLa (mLn nm) 963 1 964 := Or.inl ⟨1, (kL_law_40 (nm := nm)).at 9 rfl, rfl, rfl⟩
theorem dL_law_964 {nm : String} : DLa (mLn nm) 964 0 965 := Or.inl ⟨0, (kL_law_40 (nm := nm)).at 10 rfl, rfl, rfl⟩
theorem dL_law_965 {nm : String} : DLi (mLn nm) 965 3 966 := Or.inl ⟨3, (kL_law_40 (nm := nm)).at 11 rfl, rfl, rfl⟩
theorem dL_law_966 {nm : String} : DC (mLn nm) 966 1 967 := Or.inl ⟨1, (kL_law_40 (nm := nm)).at 12 rfl, by decide, rfl⟩
theorem dL_law_967 {nm : String} : DI (mLn nm) 967 (.iadd) 1 968 := ⟨(kL_law_40 (nm := nm)).at 13 rfl, rfl⟩
theorem dL_law_968 {nm : String} : DI (mLn nm) 968 (.iaload) 1 969 := ⟨(kL_law_40 (nm := nm)).at 14 rfl, rfl⟩
theorem dL_law_969 {nm : String} : DI (mLn nm) 969 (.invokevirtual 108) 3 972 := ⟨(kL_law_40 (nm := nm)).at 15 rfl, rfl⟩
theorem dL_law_972 {nm : String} : DLa (mLn nm) 972 2 973 := Or.inl ⟨2, (kL_law_41 (nm := nm)).at 0 rfl, rfl, rfl⟩
theorem dL_law_973 {nm : String} : DLa (mLn nm) 973 0 974 := Or.inl ⟨0, (kL_law_41 (nm := nm)).at 1 rfl, rfl, rfl⟩
theorem dL_law_974 {nm : String} : DLi (mLn nm) 974 3 975 := Or.inl ⟨3, (kL_law_41 (nm := nm)).at 2 rfl, rfl, rfl⟩
theorem dL_law_975 {nm : String} : DC (mLn nm) 975 1 976 := Or.inl ⟨1, (kL_law_41 (nm := nm)).at 3 rfl, by decide, rfl⟩
theorem dL_law_976 {nm : String} : DI (mLn nm) 976 (.iadd) 1 977 := ⟨(kL_law_41 (nm := nm)).at 4 rfl, rfl⟩
theorem dL_law_977 {nm : String} : DI (mLn nm) 977 (.iaload) 1 978 := ⟨(kL_law_41 (nm := nm)).at 5 rfl, rfl⟩
theorem dL_law_978 {nm : String} : DI (mLn nm) 978 (.invokevirtual 111) 3 981 := ⟨(kL_law_41 (nm := nm)).at 6 rfl, rfl⟩
theorem dL_law_981 {nm : String} : DB (mLn nm) 981 (.if_icmp .eq (494)) (494) 984 1475 := ⟨(kL_law_41 (nm := nm)).at 7 rfl, rfl, rfl⟩
theorem dL_law_984 {nm : String} : DC (mLn nm) 984 0 985 := Or.inl ⟨0, (kL_law_41 (nm := nm)).at 8 rfl, by decide, rfl⟩
theorem dL_law_985 {nm : String} : DRz (mLn nm) 985 := ⟨(kL_law_41 (nm := nm)).at 9 rfl, rfl⟩
theorem dL_law_986 {nm : String} : DLa (mLn nm) 986 1 987 := Or.inl ⟨1, (kL_law_41 (nm := nm)).at 10 rfl, rfl, rfl⟩
theorem dL_law_987 {nm : String} : DLa (mLn nm) 987 0 988 := Or.inl ⟨0, (kL_law_41 (nm := nm)).at 11 rfl, rfl, rfl⟩
theorem dL_law_988 {nm : String} : DLi (mLn nm) 988 3 989 := Or.inl ⟨3, (kL_law_41 (nm := nm)).at 12 rfl, rfl, rfl⟩
theorem dL_law_989 {nm : String} : DC (mLn nm) 989 1 990 := Or.inl ⟨1, (kL_law_41 (nm := nm)).at 13 rfl, by decide, rfl⟩
theorem dL_law_990 {nm : String} : DI (mLn nm) 990 (.iadd) 1 991 := ⟨(kL_law_41 (nm := nm)).at 14 rfl, rfl⟩
theorem dL_law_991 {nm : String} : DI (mLn nm) 991 (.iaload) 1 992 := ⟨(kL_law_41 (nm := nm)).at 15 rfl, rfl⟩
theorem dL_law_992 {nm : String} : DI (mLn nm) 992 (.invokevirtual 112) 3 995 := ⟨(kL_law_42 (nm := nm)).at 0 rfl, rfl⟩
theorem dL_law_995 {nm : String} : DLa (mLn nm) 995 2 996 := Or.inl ⟨2, (kL_law_42 (nm := nm)).at 1 rfl, rfl, rfl⟩
theorem dL_law_996 {nm : String} : DLa (mLn nm) 996 0 997 := Or.inl ⟨0, (kL_law_42 (nm := nm)).at 2 rfl, rfl, rfl⟩
theorem dL_law_997 {nm : String} : DLi (mLn nm) 997 3 998 := Or.inl ⟨3, (kL_law_42 (nm := nm)).at 3 rfl, rfl, rfl⟩
theorem dL_law_998 {nm : String} : DC (mLn nm) 998 1 999 := Or.inl ⟨1, (kL_law_42 (nm := nm)).at 4 rfl, by decide, rfl⟩
theorem dL_law_999 {nm : String} : DI (mLn nm) 999 (.iadd) 1 1000 := ⟨(kL_law_42 (nm := nm)).at 5 rfl, rfl⟩
theorem dL_law_1000 {nm : String} : DI (mLn nm) 1000 (.iaload) 1 1001 := ⟨(kL_law_42 (nm := nm)).at 6 rfl, rfl⟩
theorem dL_law_1001 {nm : String} : DI (mLn nm) 1001 (.invokevirtual 115) 3 1004 := ⟨(kL_law_42 (nm := nm)).at 7 rfl, rfl⟩
theorem dL_law_1004 {nm : String} : DB (mLn nm) 1004 (.if_icmp .eq (471)) (471) 1007 1475 := ⟨(kL_law_42 (nm := nm)).at 8 rfl, rfl, rfl⟩
theorem dL_law_1007 {nm : String} : DC (mLn nm) 1007 0 1008 := Or.inl ⟨0, (kL_law_42 (nm := nm)).at 9 rfl, by decide, rfl⟩
theorem dL_law_1008 {nm : String} : DRz (mLn nm) 1008 := ⟨(kL_law_42 (nm := nm)).at 10 rfl, rfl⟩
theorem dL_law_1009 {nm : String} : DLa (mLn nm) 1009 1 1010 := Or.inl ⟨1, (kL_law_42 (nm := nm)).at 11 rfl, rfl, rfl⟩
theorem dL_law_1010 {nm : String} : DLa (mLn nm) 1010 0 1011 := Or.inl ⟨0, (kL_law_42 (nm := nm)).at 12 rfl, rfl, rfl⟩
theorem dL_law_1011 {nm : String} : DLi (mLn nm) 1011 3 1012 := Or.inl ⟨3, (kL_law_42 (nm := nm)).at 13 rfl, rfl, rfl⟩
theorem dL_law_1012 {nm : String} : DC (mLn nm) 1012 1 1013 := Or.inl ⟨1, (kL_law_42 (nm := nm)).at 14 rfl, by decide, rfl⟩
theorem dL_law_1013 {nm : String} : DI (mLn nm) 1013 (.iadd) 1 1014 := ⟨(kL_law_42 (nm := nm)).at 15 rfl, rfl⟩
theorem dL_law_1014 {nm : String} : DI (mLn nm) 1014 (.iaload) 1 1015 := ⟨(kL_law_43 (nm := nm)).at 0 rfl, rfl⟩
theorem dL_law_1015 {nm : String} : DI (mLn nm) 1015 (.invokevirtual 116) 3 1018 := ⟨(kL_law_43 (nm := nm)).at 1 rfl, rfl⟩
theorem dL_law_1018 {nm : String} : DLa (mLn nm) 1018 2 1019 := Or.inl ⟨2, (kL_law_43 (nm := nm)).at 2 rfl, rfl, rfl⟩
theorem dL_law_1019 {nm : String} : DLa (mLn nm) 1019 0 1020 := Or.inl ⟨0, (kL_law_43 (nm := nm)).at 3 rfl, rfl, rfl⟩
theorem dL_law_1020 {nm : String} : DLi (mLn nm) 1020 3 1021 := Or.inl ⟨3, (kL_law_43 (nm := nm)).at 4 rfl, rfl, rfl⟩
theorem dL_law_1021 {nm : String} : DC (mLn nm) 1021 1 1022 := Or.inl ⟨1, (kL_law_43 (nm := nm)).at 5 rfl, by decide, rfl⟩
theorem dL_law_1022 {nm : String} : DI (mLn nm) 1022 (.iadd) 1 1023 := ⟨(kL_law_43 (nm := nm)).at 6 rfl, rfl⟩
theorem dL_law_1023 {nm : String} : DI (mLn nm) 1023 (.iaload) 1 1024 := ⟨(kL_law_43 (nm := nm)).at 7 rfl, rfl⟩
theorem dL_law_1024 {nm : String} : DI (mLn nm) 1024 (.invokevirtual 119) 3 1027 := ⟨(kL_law_43 (nm := nm)).at 8 rfl, rfl⟩
theorem dL_law_1027 {nm : String} : DB (mLn nm) 1027 (.if_icmp .eq (448)) (448) 1030 1475 := ⟨(kL_law_43 (nm := nm)).at 9 rfl, rfl, rfl⟩
theorem dL_law_1030 {nm : String} : DC (mLn nm) 1030 0 1031 := Or.inl ⟨0, (kL_law_43 (nm := nm)).at 10 rfl, by decide, rfl⟩
theorem dL_law_1031 {nm : String} : DRz (mLn nm) 1031 := ⟨(kL_law_43 (nm := nm)).at 11 rfl, rfl⟩
theorem dL_law_1032 {nm : String} : DLa (mLn nm) 1032 1 1033 := Or.inl ⟨1, (kL_law_43 (nm := nm)).at 12 rfl, rfl, rfl⟩
theorem dL_law_1033 {nm : String} : DI (mLn nm) 1033 (.invokevirtual 120) 3 1036 := ⟨(kL_law_43 (nm := nm)).at 13 rfl, rfl⟩
theorem dL_law_1036 {nm : String} : DLa (mLn nm) 1036 2 1037 := Or.inl ⟨2, (kL_law_43 (nm := nm)).at 14 rfl, rfl, rfl⟩
theorem dL_law_1037 {nm : String} : DI (mLn nm) 1037 (.invokevirtual 123) 3 1040 := ⟨(kL_law_43 (nm := nm)).at 15 rfl, rfl⟩
theorem dL_law_1040 {nm : String} : DB (mLn nm) 1040 (.if_icmp .eq (435)) (435) 1043 1475 := ⟨(kL_law_44 (nm := nm)).at 0 rfl, rfl, rfl⟩
theorem dL_law_1043 {nm : String} : DC (mLn nm) 1043 0 1044 := Or.inl ⟨0, (kL_law_44 (nm := nm)).at 1 rfl, by decide, rfl⟩
theorem dL_law_1044 {nm : String} : DRz (mLn nm) 1044 := ⟨(kL_law_44 (nm := nm)).at 2 rfl, rfl⟩
theorem dL_law_1045 {nm : String} : DLa (mLn nm) 1045 1 1046 := Or.inl ⟨1, (kL_law_44 (nm := nm)).at 3 rfl, rfl, rfl⟩
theorem dL_law_1046 {nm : String} : DI (mLn nm) 1046 (.invokevirtual 124) 3 1049 := ⟨(kL_law_44 (nm := nm)).at 4 rfl, rfl⟩
theorem dL_law_1049 {nm : String} : DLa (mLn nm) 1049 2 1050 := Or.inl ⟨2, (kL_law_44 (nm := nm)).at 5 rfl, rfl, rfl⟩
theorem dL_law_1050 {nm : String} : DI (mLn nm) 1050 (.invokevirtual 127) 3 1053 := ⟨(kL_law_44 (nm := nm)).at 6 rfl, rfl⟩
theorem dL_law_1053 {nm : String} : DB (mLn nm) 1053 (.if_icmp .eq (422)) (422) 1056 1475 := ⟨(kL_law_44 (nm := nm)).at 7 rfl, rfl, rfl⟩
theorem dL_law_1056 {nm : String} : DC (mLn nm) 1056 0 1057 := Or.inl ⟨0, (kL_law_44 (nm := nm)).at 8 rfl, by decide, rfl⟩
theorem dL_law_1057 {nm : String} : DRz (mLn nm) 1057 := ⟨(kL_law_44 (nm := nm)).at 9 rfl, rfl⟩
theorem dL_law_1058 {nm : String} : DLa (mLn nm) 1058 1 1059 := Or.inl ⟨1, (kL_law_44 (nm := nm)).at 10 rfl, rfl, rfl⟩
theorem dL_law_1059 {nm : String} : DI (mLn nm) 1059 (.invokevirtual 128) 3 1062 := ⟨(kL_law_44 (nm := nm)).at 11 rfl, rfl⟩
theorem dL_law_1062 {nm : String} : DLa (mLn nm) 1062 2 1063 := Or.inl ⟨2, (kL_law_44 (nm := nm)).at 12 rfl, rfl, rfl⟩
theorem dL_law_1063 {nm : String} : DI (mLn nm) 1063 (.invokevirtual 131) 3 1066 := ⟨(kL_law_44 (nm := nm)).at 13 rfl, rfl⟩
theorem dL_law_1066 {nm : String} : DB (mLn nm) 1066 (.if_icmp .eq (409)) (409) 1069 1475 := ⟨(kL_law_44 (nm := nm)).at 14 rfl, rfl, rfl⟩
theorem dL_law_1069 {nm : String} : DC (mLn nm) 1069 0 1070 := Or.inl ⟨0, (kL_law_44 (nm := nm)).at 15 rfl, by decide, rfl⟩
theorem dL_law_1070 {nm : String} : DRz (mLn nm) 1070 := ⟨(kL_law_45 (nm := nm)).at 0 rfl, rfl⟩
theorem dL_law_1071 {nm : String} : DLa (mLn nm) 1071 1 1072 := Or.inl ⟨1, (kL_law_45 (nm := nm)).at 1 rfl, rfl, rfl⟩
theorem dL_law_1072 {nm : String} : DI (mLn nm) 1072 (.invokevirtual 132) 3 1075 := ⟨(kL_law_45 (nm := nm)).at 2 rfl, rfl⟩
theorem dL_law_1075 {nm : String} : DLa (mLn nm) 1075 2 1076 := Or.inl ⟨2, (kL_law_45 (nm := nm)).at 3 rfl, rfl, rfl⟩
theorem dL_law_1076 {nm : String} : DI (mLn nm) 1076 (.invokevirtual 135) 3 1079 := ⟨(kL_law_45 (nm := nm)).at 4 rfl, rfl⟩
theorem dL_law_1079 {nm : String} : DB (mLn nm) 1079 (.if_icmp .eq (396)) (396) 1082 1475 := ⟨(kL_law_45 (nm := nm)).at 5 rfl, rfl, rfl⟩
theorem dL_law_1082 {nm : String} : DC (mLn nm) 1082 0 1083 := Or.inl ⟨0, (kL_law_45 (nm := nm)).at 6 rfl, by decide, rfl⟩
theorem dL_law_1083 {nm : String} : DRz (mLn nm) 1083 := ⟨(kL_law_45 (nm := nm)).at 7 rfl, rfl⟩
theorem dL_law_1084 {nm : String} : DLa (mLn nm) 1084 1 1085 := Or.inl ⟨1, (kL_law_45 (nm := nm)).at 8 rfl, rfl, rfl⟩
theorem dL_law_1085 {nm : String} : DLa (mLn nm) 1085 0 1086 := Or.inl ⟨0, (kL_law_45 (nm := nm)).at 9 rfl, rfl, rfl⟩
theorem dL_law_1086 {nm : String} : DLi (mLn nm) 1086 3 1087 := Or.inl ⟨3, (kL_law_45 (nm := nm)).at 10 rfl, rfl, rfl⟩
theorem dL_law_1087 {nm : String} : DC (mLn nm) 1087 1 1088 := Or.inl ⟨1, (kL_law_45 (nm := nm)).at 11 rfl, by decide, rfl⟩
theorem dL_law_1088 {nm : String} : DI (mLn nm) 1088 (.iadd) 1 1089 := ⟨(kL_law_45 (nm := nm)).at 12 rfl, rfl⟩
theorem dL_law_1089 {nm : String} : DI (mLn nm) 1089 (.iaload) 1 1090 := ⟨(kL_law_45 (nm := nm)).at 13 rfl, rfl⟩
theorem dL_law_1090 {nm : String} : DI (mLn nm) 1090 (.invokevirtual 136) 3 1093 := ⟨(kL_law_45 (nm := nm)).at 14 rfl, rfl⟩
theorem dL_law_1093 {nm : String} : DLa (mLn nm) 1093 2 1094 := Or.inl ⟨2, (kL_law_45 (nm := nm)).at 15 rfl, rfl, rfl⟩
theorem dL_law_1094 {nm : String} : DLa (mLn nm) 1094 0 1095 := Or.inl ⟨0, (kL_law_46 (nm := nm)).at 0 rfl, rfl, rfl⟩
theorem dL_law_1095 {nm : String} : DLi (mLn nm) 1095 3 1096 := Or.inl ⟨3, (kL_law_46 (nm := nm)).at 1 rfl, rfl, rfl⟩
theorem dL_law_1096 {nm : String} : DC (mLn nm) 1096 1 1097 := Or.inl ⟨1, (kL_law_46 (nm := nm)).at 2 rfl, by decide, rfl⟩
theorem dL_law_1097 {nm : String} : DI (mLn nm) 1097 (.iadd) 1 1098 := ⟨(kL_law_46 (nm := nm)).at 3 rfl, rfl⟩
theorem dL_law_1098 {nm : String} : DI (mLn nm) 1098 (.iaload) 1 1099 := ⟨(kL_law_46 (nm := nm)).at 4 rfl, rfl⟩
theorem dL_law_1099 {nm : String} : DI (mLn nm) 1099 (.invokevirtual 139) 3 1102 := ⟨(kL_law_46 (nm := nm)).at 5 rfl, rfl⟩
theorem dL_law_1102 {nm : String} : DB (mLn nm) 1102 (.if_icmp .eq (373)) (373) 1105 1475 := ⟨(kL_law_46 (nm := nm)).at 6 rfl, rfl, rfl⟩
theorem dL_law_1105 {nm : String} : DC (mLn nm) 1105 0 1106 := Or.inl ⟨0, (kL_law_46 (nm := nm)).at 7 rfl, by decide, rfl⟩
theorem dL_law_1106 {nm : String} : DRz (mLn nm) 1106 := ⟨(kL_law_46 (nm := nm)).at 8 rfl, rfl⟩
theorem dL_law_1107 {nm : String} : DLa (mLn nm) 1107 1 1108 := Or.inl ⟨1, (kL_law_46 (nm := nm)).at 9 rfl, rfl, rfl⟩
theorem dL_law_1108 {nm : String} : DLa (mLn nm) 1108 0 1109 := Or.inl ⟨0, (kL_law_46 (nm := nm)).at 10 rfl, rfl, rfl⟩
theorem dL_law_1109 {nm : String} : DLi (mLn nm) 1109 3 1110 := Or.inl ⟨3, (kL_law_46 (nm := nm)).at 11 rfl, rfl, rfl⟩
theorem dL_law_1110 {nm : String} : DC (mLn nm) 1110 1 1111 := Or.inl ⟨1, (kL_law_46 (nm := nm)).at 12 rfl, by decide, rfl⟩
theorem dL_law_1111 {nm : String} : DI (mLn nm) 1111 (.iadd) 1 1112 := ⟨(kL_law_46 (nm := nm)).at 13 rfl, rfl⟩
theorem dL_law_1112 {nm : String} : DI (mLn nm) 1112 (.iaload) 1 1113 := ⟨(kL_law_46 (nm := nm)).at 14 rfl, rfl⟩
theorem dL_law_1113 {nm : String} : DLa (mLn nm) 1113 0 1114 := Or.inl ⟨0, (kL_law_46 (nm := nm)).at 15 rfl, rfl, rfl⟩
theorem dL_law_1114 {nm : String} : DLi (mLn nm) 1114 3 1115 := Or.inl ⟨3, (kL_law_47 (nm := nm)).at 0 rfl, rfl, rfl⟩
theorem dL_law_1115 {nm : String} : DC (mLn nm) 1115 2 1116 := Or.inl ⟨2, (kL_law_47 (nm := nm)).at 1 rfl, by decide, rfl⟩
theorem dL_law_1116 {nm : String} : DI (mLn nm) 1116 (.iadd) 1 1117 := ⟨(kL_law_47 (nm := nm)).at 2 rfl, rfl⟩
theorem dL_law_1117 {nm : String} : DI (mLn nm) 1117 (.iaload) 1 1118 := ⟨(kL_law_47 (nm := nm)).at 3 rfl, rfl⟩
theorem dL_law_1118 {nm : String} : DLa (mLn nm) 1118 0 1119 := Or.inl ⟨0, (kL_law_47 (nm := nm)).at 4 rfl, rfl, rfl⟩
theorem dL_law_1119 {nm : String} : DLi (mLn nm) 1119 3 1120 := Or.inl ⟨3, (kL_law_47 (nm := nm)).at 5 rfl, rfl, rfl⟩
theorem dL_law_1120 {nm : String} : DC (mLn nm) 1120 3 1121 := Or.inl ⟨3, (kL_law_47 (nm := nm)).at 6 rfl, by decide, rfl⟩
theorem dL_law_1121 {nm : String} : DI (mLn nm) 1121 (.iadd) 1 1122 := ⟨(kL_law_47 (nm := nm)).at 7 rfl, rfl⟩
theorem dL_law_1122 {nm : String} : DI (mLn nm) 1122 (.iaload) 1 1123 := ⟨(kL_law_47 (nm := nm)).at 8 rfl, rfl⟩
theorem dL_law_1123 {nm : String} : DI (mLn nm) 1123 (.invokevirtual 140) 3 1126 := ⟨(kL_law_47 (nm := nm)).at 9 rfl, rfl⟩
theorem dL_law_1126 {nm : String} : DLa (mLn nm) 1126 2 1127 := Or.inl ⟨2, (kL_law_47 (nm := nm)).at 10 rfl, rfl, rfl⟩
theorem dL_law_1127 {nm : String} : DLa (mLn nm) 1127 0 1128 := Or.inl ⟨0, (kL_law_47 (nm := nm)).at 11 rfl, rfl, rfl⟩
theorem dL_law_1128 {nm : String} : DLi (mLn nm) 1128 3 1129 := Or.inl ⟨3, (kL_law_47 (nm := nm)).at 12 rfl, rfl, rfl⟩
theorem dL_law_1129 {nm : String} : DC (mLn nm) 1129 1 1130 := Or.inl ⟨1, (kL_law_47 (nm := nm)).at 13 rfl, by decide, rfl⟩
theorem dL_law_1130 {nm : String} : DI (mLn nm) 1130 (.iadd) 1 1131 := ⟨(kL_law_47 (nm := nm)).at 14 rfl, rfl⟩
theorem dL_law_1131 {nm : String} : DI (mLn nm) 1131 (.iaload) 1 1132 := ⟨(kL_law_47 (nm := nm)).at 15 rfl, rfl⟩
theorem dL_law_1132 {nm : String} : DLa (mLn nm) 1132 0 1133 := Or.inl ⟨0, (kL_law_48 (nm := nm)).at 0 rfl, rfl, rfl⟩
theorem dL_law_1133 {nm : String} : DLi (mLn nm) 1133 3 1134 := Or.inl ⟨3, (kL_law_48 (nm := nm)).at 1 rfl, rfl, rfl⟩
theorem dL_law_1134 {nm : String} : DC (mLn nm) 1134 2 1135 := Or.inl ⟨2, (kL_law_48 (nm := nm)).at 2 rfl, by decide, rfl⟩
theorem dL_law_1135 {nm : String} : DI (mLn nm) 1135 (.iadd) 1 1136 := ⟨(kL_law_48 (nm := nm)).at 3 rfl, rfl⟩
theorem dL_law_1136 {nm : String} : DI (mLn nm) 1136 (.iaload) 1 1137 := ⟨(kL_law_48 (nm := nm)).at 4 rfl, rfl⟩
theorem dL_law_1137 {nm : String} : DLa (mLn nm) 1137 0 1138 := Or.inl ⟨0, (kL_law_48 (nm := nm)).at 5 rfl, rfl, rfl⟩
theorem dL_law_1138 {nm : String} : DLi (mLn nm) 1138 3 1139 := Or.inl ⟨3, (kL_law_48 (nm := nm)).at 6 rfl, rfl, rfl⟩
theorem dL_law_1139 {nm : String} : DC (mLn nm) 1139 3 1140 := Or.inl ⟨3, (kL_law_48 (nm := nm)).at 7 rfl, by decide, rfl⟩
theorem dL_law_1140 {nm : String} : DI (mLn nm) 1140 (.iadd) 1 1141 := ⟨(kL_law_48 (nm := nm)).at 8 rfl, rfl⟩
theorem dL_law_1141 {nm : String} : DI (mLn nm) 1141 (.iaload) 1 1142 := ⟨(kL_law_48 (nm := nm)).at 9 rfl, rfl⟩
theorem dL_law_1142 {nm : String} : DI (mLn nm) 1142 (.invokevirtual 143) 3 1145 := ⟨(kL_law_48 (nm := nm)).at 10 rfl, rfl⟩
theorem dL_law_1145 {nm : String} : DB (mLn nm) 1145 (.if_icmp .eq (330)) (330) 1148 1475 := ⟨(kL_law_48 (nm := nm)).at 11 rfl, rfl, rfl⟩
theorem dL_law_1148 {nm : String} : DC (mLn nm) 1148 0 1149 := Or.inl ⟨0, (kL_law_48 (nm := nm)).at 12 rfl, by decide, rfl⟩
theorem dL_law_1149 {nm : String} : DRz (mLn nm) 1149 := ⟨(kL_law_48 (nm := nm)).at 13 rfl, rfl⟩
theorem dL_law_1150 {nm : String} : DLa (mLn nm) 1150 1 1151 := Or.inl ⟨1, (kL_law_48 (nm := nm)).at 14 rfl, rfl, rfl⟩
theorem dL_law_1151 {nm : String} : DLa (mLn nm) 1151 0 1152 := Or.inl ⟨0, (kL_law_48 (nm := nm)).at 15 rfl, rfl, rfl⟩
theorem dL_law_1152 {nm : String} : DLi (mLn nm) 1152 3 1153 := Or.inl ⟨3, (kL_law_49 (nm := nm)).at 0 rfl, rfl, rfl⟩
theorem dL_law_1153 {nm : String} : DC (mLn nm) 1153 1 1154 := Or.inl ⟨1, (kL_law_49 (nm := nm)).at 1 rfl, by decide, rfl⟩
theorem dL_law_1154 {nm : String} : DI (mLn nm) 1154 (.iadd) 1 1155 := ⟨(kL_law_49 (nm := nm)).at 2 rfl, rfl⟩
theorem dL_law_1155 {nm : String} : DI (mLn nm) 1155 (.iaload) 1 1156 := ⟨(kL_law_49 (nm := nm)).at 3 rfl, rfl⟩
theorem dL_law_1156 {nm : String} : DI (mLn nm) 1156 (.invokevirtual 144) 3 1159 := ⟨(kL_law_49 (nm := nm)).at 4 rfl, rfl⟩
theorem dL_law_1159 {nm : String} : DLa (mLn nm) 1159 2 1160 := Or.inl ⟨2, (kL_law_49 (nm := nm)).at 5 rfl, rfl, rfl⟩
theorem dL_law_1160 {nm : String} : DLa (mLn nm) 1160 0 1161 := Or.inl ⟨0, (kL_law_49 (nm := nm)).at 6 rfl, rfl, rfl⟩
theorem dL_law_1161 {nm : String} : DLi (mLn nm) 1161 3 1162 := Or.inl ⟨3, (kL_law_49 (nm := nm)).at 7 rfl, rfl, rfl⟩
theorem dL_law_1162 {nm : String} : DC (mLn nm) 1162 1 1163 := Or.inl ⟨1, (kL_law_49 (nm := nm)).at 8 rfl, by decide, rfl⟩
theorem dL_law_1163 {nm : String} : DI (mLn nm) 1163 (.iadd) 1 1164 := ⟨(kL_law_49 (nm := nm)).at 9 rfl, rfl⟩
theorem dL_law_1164 {nm : String} : DI (mLn nm) 1164 (.iaload) 1 1165 := ⟨(kL_law_49 (nm := nm)).at 10 rfl, rfl⟩
theorem dL_law_1165 {nm : String} : DI (mLn nm) 1165 (.invokevirtual 147) 3 1168 := ⟨(kL_law_49 (nm := nm)).at 11 rfl, rfl⟩
theorem dL_law_1168 {nm : String} : DB (mLn nm) 1168 (.if_icmp .eq (307)) (307) 1171 1475 := ⟨(kL_law_49 (nm := nm)).at 12 rfl, rfl, rfl⟩
theorem dL_law_1171 {nm : String} : DC (mLn nm) 1171 0 1172 := Or.inl ⟨0, (kL_law_49 (nm := nm)).at 13 rfl, by decide, rfl⟩
theorem dL_law_1172 {nm : String} : DRz (mLn nm) 1172 := ⟨(kL_law_49 (nm := nm)).at 14 rfl, rfl⟩
theorem dL_law_1173 {nm : String} : DLa (mLn nm) 1173 1 1174 := Or.inl ⟨1, (kL_law_49 (nm := nm)).at 15 rfl, rfl, rfl⟩
theorem dL_law_1174 {nm : String} : DLa (mLn nm) 1174 0 1175 := Or.inl ⟨0, (kL_law_50 (nm := nm)).at 0 rfl, rfl, rfl⟩
theorem dL_law_1175 {nm : String} : DLi (mLn nm) 1175 3 1176 := Or.inl ⟨3, (kL_law_50 (nm := nm)).at 1 rfl, rfl, rfl⟩
theorem dL_law_1176 {nm : String} : DC (mLn nm) 1176 1 1177 := Or.inl ⟨1, (kL_law_50 (nm := nm)).at 2 rfl, by decide, rfl⟩
theorem dL_law_1177 {nm : String} : DI (mLn nm) 1177 (.iadd) 1 1178 := ⟨(kL_law_50 (nm := nm)).at 3 rfl, rfl⟩
theorem dL_law_1178 {nm : String} : DI (mLn nm) 1178 (.iaload) 1 1179 := ⟨(kL_law_50 (nm := nm)).at 4 rfl, rfl⟩
theorem dL_law_1179 {nm : String} : DLa (mLn nm) 1179 0 1180 := Or.inl ⟨0, (kL_law_50 (nm := nm)).at 5 rfl, rfl, rfl⟩
theorem dL_law_1180 {nm : String} : DLi (mLn nm) 1180 3 1181 := Or.inl ⟨3, (kL_law_50 (nm := nm)).at 6 rfl, rfl, rfl⟩
theorem dL_law_1181 {nm : String} : DC (mLn nm) 1181 2 1182 := Or.inl ⟨2, (kL_law_50 (nm := nm)).at 7 rfl, by decide, rfl⟩
theorem dL_law_1182 {nm : String} : DI (mLn nm) 1182 (.iadd) 1 1183 := ⟨(kL_law_50 (nm := nm)).at 8 rfl, rfl⟩
theorem dL_law_1183 {nm : String} : DI (mLn nm) 1183 (.iaload) 1 1184 := ⟨(kL_law_50 (nm := nm)).at 9 rfl, rfl⟩
theorem dL_law_1184 {nm : String} : DI (mLn nm) 1184 (.invokevirtual 148) 3 1187 := ⟨(kL_law_50 (nm := nm)).at 10 rfl, rfl⟩
theorem dL_law_1187 {nm : String} : DLa (mLn nm) 1187 2 1188 := Or.inl ⟨2, (kL_law_50 (nm := nm)).at 11 rfl, rfl, rfl⟩
theorem dL_law_1188 {nm : String} : DLa (mLn nm) 1188 0 1189 := Or.inl ⟨0, (kL_law_50 (nm := nm)).at 12 rfl, rfl, rfl⟩
theorem dL_law_1189 {nm : String} : DLi (mLn nm) 1189 3 1190 := Or.inl ⟨3, (kL_law_50 (nm := nm)).at 13 rfl, rfl, rfl⟩
theorem dL_law_1190 {nm : String} : DC (mLn nm) 1190 1 1191 := Or.inl ⟨1, (kL_law_50 (nm := nm)).at 14 rfl, by decide, rfl⟩
theorem dL_law_1191 {nm : String} : DI (mLn nm) 1191 (.iadd) 1 1192 := ⟨(kL_law_50 (nm := nm)).at 15 rfl, rfl⟩
theorem dL_law_1192 {nm : String} : DI (mLn nm) 1192 (.iaload) 1 1193 := ⟨(kL_law_51 (nm := nm)).at 0 rfl, rfl⟩
theorem dL_law_1193 {nm : String} : DLa (mLn nm) 1193 0 1194 := Or.inl ⟨0, (kL_law_51 (nm := nm)).at 1 rfl, rfl, rfl⟩
theorem dL_law_1194 {nm : String} : DLi (mLn nm) 1194 3 1195 := Or.inl ⟨3, (kL_law_51 (nm := nm)).at 2 rfl, rfl, rfl⟩
theorem dL_law_1195 {nm : String} : DC (mLn nm) 1195 2 1196 := Or.inl ⟨2, (kL_law_51 (nm := nm)).at 3 rfl, by decide, rfl⟩
theorem dL_law_1196 {nm : String} : DI (mLn nm) 1196 (.iadd) 1 1197 := ⟨(kL_law_51 (nm := nm)).at 4 rfl, rfl⟩
theorem dL_law_1197 {nm : String} : DI (mLn nm) 1197 (.iaload) 1 1198 := ⟨(kL_law_51 (nm := nm)).at 5 rfl, rfl⟩
theorem dL_law_1198 {nm : String} : DI (mLn nm) 1198 (.invokevirtual 151) 3 1201 := ⟨(kL_law_51 (nm := nm)).at 6 rfl, rfl⟩
theorem dL_law_1201 {nm : String} : DB (mLn nm) 1201 (.if_icmp .eq (274)) (274) 1204 1475 := ⟨(kL_law_51 (nm := nm)).at 7 rfl, rfl, rfl⟩
theorem dL_law_1204 {nm : String} : DC (mLn nm) 1204 0 1205 := Or.inl ⟨0, (kL_law_51 (nm := nm)).at 8 rfl, by decide, rfl⟩
theorem dL_law_1205 {nm : String} : DRz (mLn nm) 1205 := ⟨(kL_law_51 (nm := nm)).at 9 rfl, rfl⟩
theorem dL_law_1206 {nm : String} : DLa (mLn nm) 1206 1 1207 := Or.inl ⟨1, (kL_law_51 (nm := nm)).at 10 rfl, rfl, rfl⟩
theorem dL_law_1207 {nm : String} : DLa (mLn nm) 1207 0 1208 := Or.inl ⟨0, (kL_law_51 (nm := nm)).at 11 rfl, rfl, rfl⟩
theorem dL_law_1208 {nm : String} : DLi (mLn nm) 1208 3 1209 := Or.inl ⟨3, (kL_law_51 (nm := nm)).at 12 rfl, rfl, rfl⟩
theorem dL_law_1209 {nm : String} : DC (mLn nm) 1209 1 1210 := Or.inl ⟨1, (kL_law_51 (nm := nm)).at 13 rfl, by decide, rfl⟩
theorem dL_law_1210 {nm : String} : DI (mLn nm) 1210 (.iadd) 1 1211 := ⟨(kL_law_51 (nm := nm)).at 14 rfl, rfl⟩
theorem dL_law_1211 {nm : String} : DI (mLn nm) 1211 (.iaload) 1 1212 := ⟨(kL_law_51 (nm := nm)).at 15 rfl, rfl⟩
theorem dL_law_1212 {nm : String} : DLa (mLn nm) 1212 0 1213 := Or.inl ⟨0, (kL_law_52 (nm := nm)).at 0 rfl, rfl, rfl⟩
theorem dL_law_1213 {nm : String} : DLi (mLn nm) 1213 3 1214 := Or.inl ⟨3, (kL_law_52 (nm := nm)).at 1 rfl, rfl, rfl⟩
theorem dL_law_1214 {nm : String} : DC (mLn nm) 1214 2 1215 := Or.inl ⟨2, (kL_law_52 (nm := nm)).at 2 rfl, by decide, rfl⟩
theorem dL_law_1215 {nm : String} : DI (mLn nm) 1215 (.iadd) 1 1216 := ⟨(kL_law_52 (nm := nm)).at 3 rfl, rfl⟩
theorem dL_law_1216 {nm : String} : DI (mLn nm) 1216 (.iaload) 1 1217 := ⟨(kL_law_52 (nm := nm)).at 4 rfl, rfl⟩
theorem dL_law_1217 {nm : String} : DLa (mLn nm) 1217 0 1218 := Or.inl ⟨0, (kL_law_52 (nm := nm)).at 5 rfl, rfl, rfl⟩
theorem dL_law_1218 {nm : String} : DLi (mLn nm) 1218 3 1219 := Or.inl ⟨3, (kL_law_52 (nm := nm)).at 6 rfl, rfl, rfl⟩
theorem dL_law_1219 {nm : String} : DC (mLn nm) 1219 3 1220 := Or.inl ⟨3, (kL_law_52 (nm := nm)).at 7 rfl, by decide, rfl⟩
theorem dL_law_1220 {nm : String} : DI (mLn nm) 1220 (.iadd) 1 1221 := ⟨(kL_law_52 (nm := nm)).at 8 rfl, rfl⟩
theorem dL_law_1221 {nm : String} : DI (mLn nm) 1221 (.iaload) 1 1222 := ⟨(kL_law_52 (nm := nm)).at 9 rfl, rfl⟩
theorem dL_law_1222 {nm : String} : DI (mLn nm) 1222 (.invokevirtual 152) 3 1225 := ⟨(kL_law_52 (nm := nm)).at 10 rfl, rfl⟩
theorem dL_law_1225 {nm : String} : DLa (mLn nm) 1225 2 1226 := Or.inl ⟨2, (kL_law_52 (nm := nm)).at 11 rfl, rfl, rfl⟩
theorem dL_law_1226 {nm : String} : DLa (mLn nm) 1226 0 1227 := Or.inl ⟨0, (kL_law_52 (nm := nm)).at 12 rfl, rfl, rfl⟩
theorem dL_law_1227 {nm : String} : DLi (mLn nm) 1227 3 1228 := Or.inl ⟨3, (kL_law_52 (nm := nm)).at 13 rfl, rfl, rfl⟩
theorem dL_law_1228 {nm : String} : DC (mLn nm) 1228 1 1229 := Or.inl ⟨1, (kL_law_52 (nm := nm)).at 14 rfl, by decide, rfl⟩
theorem dL_law_1229 {nm : String} : DI (mLn nm) 1229 (.iadd) 1 1230 := ⟨(kL_law_52 (nm := nm)).at 15 rfl, rfl⟩
theorem dL_law_1230 {nm : String} : DI (mLn nm) 1230 (.iaload) 1 1231 := ⟨(kL_law_53 (nm := nm)).at 0 rfl, rfl⟩
theorem dL_law_1231 {nm : String} : DLa (mLn nm) 1231 0 1232 := Or.inl ⟨0, (kL_law_53 (nm := nm)).at 1 rfl, rfl, rfl⟩
theorem dL_law_1232 {nm : String} : DLi (mLn nm) 1232 3 1233 := Or.inl ⟨3, (kL_law_53 (nm := nm)).at 2 rfl, rfl, rfl⟩
theorem dL_law_1233 {nm : String} : DC (mLn nm) 1233 2 1234 := Or.inl ⟨2, (kL_law_53 (nm := nm)).at 3 rfl, by decide, rfl⟩
theorem dL_law_1234 {nm : String} : DI (mLn nm) 1234 (.iadd) 1 1235 := ⟨(kL_law_53 (nm := nm)).at 4 rfl, rfl⟩
theorem dL_law_1235 {nm : String} : DI (mLn nm) 1235 (.iaload) 1 1236 := ⟨(kL_law_53 (nm := nm)).at 5 rfl, rfl⟩
theorem dL_law_1236 {nm : String} : DLa (mLn nm) 1236 0 1237 := Or.inl ⟨0, (kL_law_53 (nm := nm)).at 6 rfl, rfl, rfl⟩
theorem dL_law_1237 {nm : String} : DLi (mLn nm) 1237 3 1238 := Or.inl ⟨3, (kL_law_53 (nm := nm)).at 7 rfl, rfl, rfl⟩
theorem dL_law_1238 {nm : String} : DC (mLn nm) 1238 3 1239 := Or.inl ⟨3, (kL_law_53 (nm := nm)).at 8 rfl, by decide, rfl⟩
theorem dL_law_1239 {nm : String} : DI (mLn nm) 1239 (.iadd) 1 1240 := ⟨(kL_law_53 (nm := nm)).at 9 rfl, rfl⟩
theorem dL_law_1240 {nm : String} : DI (mLn nm) 1240 (.iaload) 1 1241 := ⟨(kL_law_53 (nm := nm)).at 10 rfl, rfl⟩
theorem dL_law_1241 {nm : String} : DI (mLn nm) 1241 (.invokevirtual 155) 3 1244 := ⟨(kL_law_53 (nm := nm)).at 11 rfl, rfl⟩
theorem dL_law_1244 {nm : String} : DB (mLn nm) 1244 (.if_icmp .eq (231)) (231) 1247 1475 := ⟨(kL_law_53 (nm := nm)).at 12 rfl, rfl, rfl⟩
theorem dL_law_1247 {nm : String} : DC (mLn nm) 1247 0 1248 := Or.inl ⟨0, (kL_law_53 (nm := nm)).at 13 rfl, by decide, rfl⟩
theorem dL_law_1248 {nm : String} : DRz (mLn nm) 1248 := ⟨(kL_law_53 (nm := nm)).at 14 rfl, rfl⟩
theorem dL_law_1249 {nm : String} : DLa (mLn nm) 1249 1 1250 := Or.inl ⟨1, (kL_law_53 (nm := nm)).at 15 rfl, rfl, rfl⟩
theorem dL_law_1250 {nm : String} : DLa (mLn nm) 1250 0 1251 := Or.inl ⟨0, (kL_law_54 (nm := nm)).at 0 rfl, rfl, rfl⟩
theorem dL_law_1251 {nm : String} : DLi (mLn nm) 1251 3 1252 := Or.inl ⟨3, (kL_law_54 (nm := nm)).at 1 rfl, rfl, rfl⟩
theorem dL_law_1252 {nm : String} : DC (mLn nm) 1252 1 1253 := Or.inl ⟨1, (kL_law_54 (nm := nm)).at 2 rfl, by decide, rfl⟩
theorem dL_law_1253 {nm : String} : DI (mLn nm) 1253 (.iadd) 1 1254 := ⟨(kL_law_54 (nm := nm)).at 3 rfl, rfl⟩
theorem dL_law_1254 {nm : String} : DI (mLn nm) 1254 (.iaload) 1 1255 := ⟨(kL_law_54 (nm := nm)).at 4 rfl, rfl⟩
theorem dL_law_1255 {nm : String} : DLa (mLn nm) 1255 0 1256 := Or.inl ⟨0, (kL_law_54 (nm := nm)).at 5 rfl, rfl, rfl⟩
theorem dL_law_1256 {nm : String} : DLi (mLn nm) 1256 3 1257 := Or.inl ⟨3, (kL_law_54 (nm := nm)).at 6 rfl, rfl, rfl⟩
theorem dL_law_1257 {nm : String} : DC (mLn nm) 1257 2 1258 := Or.inl ⟨2, (kL_law_54 (nm := nm)).at 7 rfl, by decide, rfl⟩
theorem dL_law_1258 {nm : String} : DI (mLn nm) 1258 (.iadd) 1 1259 := ⟨(kL_law_54 (nm := nm)).at 8 rfl, rfl⟩
theorem dL_law_1259 {nm : String} : DI (mLn nm) 1259 (.iaload) 1 1260 := ⟨(kL_law_54 (nm := nm)).at 9 rfl, rfl⟩
theorem dL_law_1260 {nm : String} : DLa (mLn nm) 1260 0 1261 := Or.inl ⟨0, (kL_law_54 (nm := nm)).at 10 rfl, rfl, rfl⟩
theorem dL_law_1261 {nm : String} : DLi (mLn nm) 1261 3 1262 := Or.inl ⟨3, (kL_law_54 (nm := nm)).at 11 rfl, rfl, rfl⟩
theorem dL_law_1262 {nm : String} : DC (mLn nm) 1262 3 1263 := Or.inl ⟨3, (kL_law_54 (nm := nm)).at 12 rfl, by decide, rfl⟩
theorem dL_law_1263 {nm : String} : DI (mLn nm) 1263 (.iadd) 1 1264 := ⟨(kL_law_54 (nm := nm)).at 13 rfl, rfl⟩
theorem dL_law_1264 {nm : String} : DI (mLn nm) 1264 (.iaload) 1 1265 := ⟨(kL_law_54 (nm := nm)).at 14 rfl, rfl⟩
theorem dL_law_1265 {nm : String} : DI (mLn nm) 1265 (.i2l) 1 1266 := ⟨(kL_law_54 (nm := nm)).at 15 rfl, rfl⟩
theorem dL_law_1266 {nm : String} : DC (mLn nm) 1266 32 1268 := Or.inr (Or.inl ⟨32, (kL_law_55 (nm := nm)).at 0 rfl, by decide, rfl⟩)
theorem dL_law_1268 {nm : String} : DI (mLn nm) 1268 (.lshl) 1 1269 := ⟨(kL_law_55 (nm := nm)).at 1 rfl, rfl⟩
theorem dL_law_1269 {nm : String} : DLa (mLn nm) 1269 0 1270 := Or.inl ⟨0, (kL_law_55 (nm := nm)).at 2 rfl, rfl, rfl⟩
theorem dL_law_1270 {nm : String} : DLi (mLn nm) 1270 3 1271 := Or.inl ⟨3, (kL_law_55 (nm := nm)).at 3 rfl, rfl, rfl⟩
theorem dL_law_1271 {nm : String} : DC (mLn nm) 1271 4 1272 := Or.inl ⟨4, (kL_law_55 (nm := nm)).at 4 rfl, by decide, rfl⟩
theorem dL_law_1272 {nm : String} : DI (mLn nm) 1272 (.iadd) 1 1273 := ⟨(kL_law_55 (nm := nm)).at 5 rfl, rfl⟩
theorem dL_law_1273 {nm : String} : DI (mLn nm) 1273 (.iaload) 1 1274 := ⟨(kL_law_55 (nm := nm)).at 6 rfl, rfl⟩
theorem dL_law_1274 {nm : String} : DI (mLn nm) 1274 (.i2l) 1 1275 := ⟨(kL_law_55 (nm := nm)).at 7 rfl, rfl⟩
theorem dL_law_1275 {nm : String} : DCL (mLn nm) 1275 4294967295 1278 := Or.inr ⟨156, (kL_law_55 (nm := nm)).at 8 rfl, (tq7 13 rfl rfl), rfl⟩
theorem dL_law_1278 {nm : String} : DI (mLn nm) 1278 (.land) 1 1279 := ⟨(kL_law_55 (nm := nm)).at 9 rfl, rfl⟩
theorem dL_law_1279 {nm : String} : DI (mLn nm) 1279 (.lor) 1 1280 := ⟨(kL_law_55 (nm := nm)).at 10 rfl, rfl⟩
theorem dL_law_1280 {nm : String} : DI (mLn nm) 1280 (.invokevirtual 158) 3 1283 := ⟨(kL_law_55 (nm := nm)).at 11 rfl, rfl⟩
theorem dL_law_1283 {nm : String} : DLa (mLn nm) 1283 2 1284 := Or.inl ⟨2, (kL_law_55 (nm := nm)).at 12 rfl, rfl, rfl⟩
theorem dL_law_1284 {nm : String} : DLa (mLn nm) 1284 0 1285 := Or.inl ⟨0, (kL_law_55 (nm := nm)).at 13 rfl, rfl, rfl⟩
theorem dL_law_1285 {nm : String} : DLi (mLn nm) 1285 3 1286 := Or.inl ⟨3, (kL_law_55 (nm := nm)).at 14 rfl, rfl, rfl⟩
theorem dL_law_1286 {nm : String} : DC (mLn nm) 1286 1 1287 := Or.inl ⟨1, (kL_law_55 (nm := nm)).at 15 rfl, by decide, rfl⟩
theorem dL_law_1287 {nm : String} : DI (mLn nm) 1287 (.iadd) 1 1288 := ⟨(kL_law_56 (nm := nm)).at 0 rfl, rfl⟩
theorem dL_law_1288 {nm : String} : DI (mLn nm) 1288 (.iaload) 1 1289 := ⟨(kL_law_56 (nm := nm)).at 1 rfl, rfl⟩
theorem dL_law_1289 {nm : String} : DLa (mLn nm) 1289 0 1290 := Or.inl ⟨0, (kL_law_56 (nm := nm)).at 2 rfl, rfl, rfl⟩
theorem dL_law_1290 {nm : String} : DLi (mLn nm) 1290 3 1291 := Or.inl ⟨3, (kL_law_56 (nm := nm)).at 3 rfl, rfl, rfl⟩
theorem dL_law_1291 {nm : String} : DC (mLn nm) 1291 2 1292 := Or.inl ⟨2, (kL_law_56 (nm := nm)).at 4 rfl, by decide, rfl⟩
theorem dL_law_1292 {nm : String} : DI (mLn nm) 1292 (.iadd) 1 1293 := ⟨(kL_law_56 (nm := nm)).at 5 rfl, rfl⟩
theorem dL_law_1293 {nm : String} : DI (mLn nm) 1293 (.iaload) 1 1294 := ⟨(kL_law_56 (nm := nm)).at 6 rfl, rfl⟩
theorem dL_law_1294 {nm : String} : DLa (mLn nm) 1294 0 1295 := Or.inl ⟨0, (kL_law_56 (nm := nm)).at 7 rfl, rfl, rfl⟩
theorem dL_law_1295 {nm : String} : DLi (mLn nm) 1295 3 1296 := Or.inl ⟨3, (kL_law_56 (nm := nm)).at 8 rfl, rfl, rfl⟩
theorem dL_law_1296 {nm : String} : DC (mLn nm) 1296 3 1297 := Or.inl ⟨3, (kL_law_56 (nm := nm)).at 9 rfl, by decide, rfl⟩
theorem dL_law_1297 {nm : String} : DI (mLn nm) 1297 (.iadd) 1 1298 := ⟨(kL_law_56 (nm := nm)).at 10 rfl, rfl⟩
theorem dL_law_1298 {nm : String} : DI (mLn nm) 1298 (.iaload) 1 1299 := ⟨(kL_law_56 (nm := nm)).at 11 rfl, rfl⟩
theorem dL_law_1299 {nm : String} : DI (mLn nm) 1299 (.i2l) 1 1300 := ⟨(kL_law_56 (nm := nm)).at 12 rfl, rfl⟩
theorem dL_law_1300 {nm : String} : DC (mLn nm) 1300 32 1302 := Or.inr (Or.inl ⟨32, (kL_law_56 (nm := nm)).at 13 rfl, by decide, rfl⟩)
theorem dL_law_1302 {nm : String} : DI (mLn nm) 1302 (.lshl) 1 1303 := ⟨(kL_law_56 (nm := nm)).at 14 rfl, rfl⟩
theorem dL_law_1303 {nm : String} : DLa (mLn nm) 1303 0 1304 := Or.inl ⟨0, (kL_law_56 (nm := nm)).at 15 rfl, rfl, rfl⟩
theorem dL_law_1304 {nm : String} : DLi (mLn nm) 1304 3 1305 := Or.inl ⟨3, (kL_law_57 (nm := nm)).at 0 rfl, rfl, rfl⟩
theorem dL_law_1305 {nm : String} : DC (mLn nm) 1305 4 1306 := Or.inl ⟨4, (kL_law_57 (nm := nm)).at 1 rfl, by decide, rfl⟩
theorem dL_law_1306 {nm : String} : DI (mLn nm) 1306 (.iadd) 1 1307 := ⟨(kL_law_57 (nm := nm)).at 2 rfl, rfl⟩
theorem dL_law_1307 {nm : String} : DI (mLn nm) 1307 (.iaload) 1 1308 := ⟨(kL_law_57 (nm := nm)).at 3 rfl, rfl⟩
theorem dL_law_1308 {nm : String} : DI (mLn nm) 1308 (.i2l) 1 1309 := ⟨(kL_law_57 (nm := nm)).at 4 rfl, rfl⟩
theorem dL_law_1309 {nm : String} : DCL (mLn nm) 1309 4294967295 1312 := Or.inr ⟨156, (kL_law_57 (nm := nm)).at 5 rfl, (tq7 13 rfl rfl), rfl⟩
theorem dL_law_1312 {nm : String} : DI (mLn nm) 1312 (.land) 1 1313 := ⟨(kL_law_57 (nm := nm)).at 6 rfl, rfl⟩
theorem dL_law_1313 {nm : String} : DI (mLn nm) 1313 (.lor) 1 1314 := ⟨(kL_law_57 (nm := nm)).at 7 rfl, rfl⟩
theorem dL_law_1314 {nm : String} : DI (mLn nm) 1314 (.invokevirtual 162) 3 1317 := ⟨(kL_law_57 (nm := nm)).at 8 rfl, rfl⟩
theorem dL_law_1317 {nm : String} : DB (mLn nm) 1317 (.if_icmp .eq (158)) (158) 1320 1475 := ⟨(kL_law_57 (nm := nm)).at 9 rfl, rfl, rfl⟩
theorem dL_law_1320 {nm : String} : DC (mLn nm) 1320 0 1321 := Or.inl ⟨0, (kL_law_57 (nm := nm)).at 10 rfl, by decide, rfl⟩
theorem dL_law_1321 {nm : String} : DRz (mLn nm) 1321 := ⟨(kL_law_57 (nm := nm)).at 11 rfl, rfl⟩
theorem dL_law_1322 {nm : String} : DLa (mLn nm) 1322 1 1323 := Or.inl ⟨1, (kL_law_57 (nm := nm)).at 12 rfl, rfl, rfl⟩
theorem dL_law_1323 {nm : String} : DLa (mLn nm) 1323 0 1324 := Or.inl ⟨0, (kL_law_57 (nm := nm)).at 13 rfl, rfl, rfl⟩
theorem dL_law_1324 {nm : String} : DLi (mLn nm) 1324 3 1325 := Or.inl ⟨3, (kL_law_57 (nm := nm)).at 14 rfl, rfl, rfl⟩
theorem dL_law_1325 {nm : String} : DC (mLn nm) 1325 1 1326 := Or.inl ⟨1, (kL_law_57 (nm := nm)).at 15 rfl, by decide, rfl⟩
theorem dL_law_1326 {nm : String} : DI (mLn nm) 1326 (.iadd) 1 1327 := ⟨(kL_law_58 (nm := nm)).at 0 rfl, rfl⟩
theorem dL_law_1327 {nm : String} : DI (mLn nm) 1327 (.iaload) 1 1328 := ⟨(kL_law_58 (nm := nm)).at 1 rfl, rfl⟩
theorem dL_law_1328 {nm : String} : DLa (mLn nm) 1328 0 1329 := Or.inl ⟨0, (kL_law_58 (nm := nm)).at 2 rfl, rfl, rfl⟩
theorem dL_law_1329 {nm : String} : DLi (mLn nm) 1329 3 1330 := Or.inl ⟨3, (kL_law_58 (nm := nm)).at 3 rfl, rfl, rfl⟩
theorem dL_law_1330 {nm : String} : DC (mLn nm) 1330 2 1331 := Or.inl ⟨2, (kL_law_58 (nm := nm)).at 4 rfl, by decide, rfl⟩
theorem dL_law_1331 {nm : String} : DI (mLn nm) 1331 (.iadd) 1 1332 := ⟨(kL_law_58 (nm := nm)).at 5 rfl, rfl⟩
theorem dL_law_1332 {nm : String} : DI (mLn nm) 1332 (.iaload) 1 1333 := ⟨(kL_law_58 (nm := nm)).at 6 rfl, rfl⟩
theorem dL_law_1333 {nm : String} : DI (mLn nm) 1333 (.invokevirtual 163) 3 1336 := ⟨(kL_law_58 (nm := nm)).at 7 rfl, rfl⟩
theorem dL_law_1336 {nm : String} : DLa (mLn nm) 1336 2 1337 := Or.inl ⟨2, (kL_law_58 (nm := nm)).at 8 rfl, rfl, rfl⟩
theorem dL_law_1337 {nm : String} : DLa (mLn nm) 1337 0 1338 := Or.inl ⟨0, (kL_law_58 (nm := nm)).at 9 rfl, rfl, rfl⟩
theorem dL_law_1338 {nm : String} : DLi (mLn nm) 1338 3 1339 := Or.inl ⟨3, (kL_law_58 (nm := nm)).at 10 rfl, rfl, rfl⟩
theorem dL_law_1339 {nm : String} : DC (mLn nm) 1339 1 1340 := Or.inl ⟨1, (kL_law_58 (nm := nm)).at 11 rfl, by decide, rfl⟩
theorem dL_law_1340 {nm : String} : DI (mLn nm) 1340 (.iadd) 1 1341 := ⟨(kL_law_58 (nm := nm)).at 12 rfl, rfl⟩
theorem dL_law_1341 {nm : String} : DI (mLn nm) 1341 (.iaload) 1 1342 := ⟨(kL_law_58 (nm := nm)).at 13 rfl, rfl⟩
theorem dL_law_1342 {nm : String} : DLa (mLn nm) 1342 0 1343 := Or.inl ⟨0, (kL_law_58 (nm := nm)).at 14 rfl, rfl, rfl⟩
theorem dL_law_1343 {nm : String} : DLi (mLn nm) 1343 3 1344 := Or.inl ⟨3, (kL_law_58 (nm := nm)).at 15 rfl, rfl, rfl⟩
theorem dL_law_1344 {nm : String} : DC (mLn nm) 1344 2 1345 := Or.inl ⟨2, (kL_law_59 (nm := nm)).at 0 rfl, by decide, rfl⟩
theorem dL_law_1345 {nm : String} : DI (mLn nm) 1345 (.iadd) 1 1346 := ⟨(kL_law_59 (nm := nm)).at 1 rfl, rfl⟩
theorem dL_law_1346 {nm : String} : DI (mLn nm) 1346 (.iaload) 1 1347 := ⟨(kL_law_59 (nm := nm)).at 2 rfl, rfl⟩
theorem dL_law_1347 {nm : String} : DI (mLn nm) 1347 (.invokevirtual 166) 3 1350 := ⟨(kL_law_59 (nm := nm)).at 3 rfl, rfl⟩
theorem dL_law_1350 {nm : String} : DI (mLn nm) 1350 (.lcmp) 1 1351 := ⟨(kL_law_59 (nm := nm)).at 4 rfl, rfl⟩
theorem dL_law_1351 {nm : String} : DB (mLn nm) 1351 (.ifCond .eq (124)) (124) 1354 1475 := ⟨(kL_law_59 (nm := nm)).at 5 rfl, rfl, rfl⟩
theorem dL_law_1354 {nm : String} : DC (mLn nm) 1354 0 1355 := Or.inl ⟨0, (kL_law_59 (nm := nm)).at 6 rfl, by decide, rfl⟩
theorem dL_law_1355 {nm : String} : DRz (mLn nm) 1355 := ⟨(kL_law_59 (nm := nm)).at 7 rfl, rfl⟩
theorem dL_law_1356 {nm : String} : DLa (mLn nm) 1356 1 1357 := Or.inl ⟨1, (kL_law_59 (nm := nm)).at 8 rfl, rfl, rfl⟩
theorem dL_law_1357 {nm : String} : DLa (mLn nm) 1357 0 1358 := Or.inl ⟨0, (kL_law_59 (nm := nm)).at 9 rfl, rfl, rfl⟩
theorem dL_law_1358 {nm : String} : DLi (mLn nm) 1358 3 1359 := Or.inl ⟨3, (kL_law_59 (nm := nm)).at 10 rfl, rfl, rfl⟩
theorem dL_law_1359 {nm : String} : DC (mLn nm) 1359 1 1360 := Or.inl ⟨1, (kL_law_59 (nm := nm)).at 11 rfl, by decide, rfl⟩
theorem dL_law_1360 {nm : String} : DI (mLn nm) 1360 (.iadd) 1 1361 := ⟨(kL_law_59 (nm := nm)).at 12 rfl, rfl⟩
theorem dL_law_1361 {nm : String} : DI (mLn nm) 1361 (.iaload) 1 1362 := ⟨(kL_law_59 (nm := nm)).at 13 rfl, rfl⟩
theorem dL_law_1362 {nm : String} : DLa (mLn nm) 1362 0 1363 := Or.inl ⟨0, (kL_law_59 (nm := nm)).at 14 rfl, rfl, rfl⟩
theorem dL_law_1363 {nm : String} : DLi (mLn nm) 1363 3 1364 := Or.inl ⟨3, (kL_law_59 (nm := nm)).at 15 rfl, rfl, rfl⟩
theorem dL_law_1364 {nm : String} : DC (mLn nm) 1364 2 1365 := Or.inl ⟨2, (kL_law_60 (nm := nm)).at 0 rfl, by decide, rfl⟩
theorem dL_law_1365 {nm : String} : DI (mLn nm) 1365 (.iadd) 1 1366 := ⟨(kL_law_60 (nm := nm)).at 1 rfl, rfl⟩
theorem dL_law_1366 {nm : String} : DI (mLn nm) 1366 (.iaload) 1 1367 := ⟨(kL_law_60 (nm := nm)).at 2 rfl, rfl⟩
theorem dL_law_1367 {nm : String} : DLa (mLn nm) 1367 0 1368 := Or.inl ⟨0, (kL_law_60 (nm := nm)).at 3 rfl, rfl, rfl⟩
theorem dL_law_1368 {nm : String} : DLi (mLn nm) 1368 3 1369 := Or.inl ⟨3, (kL_law_60 (nm := nm)).at 4 rfl, rfl, rfl⟩
theorem dL_law_1369 {nm : String} : DC (mLn nm) 1369 3 1370 := Or.inl ⟨3, (kL_law_60 (nm := nm)).at 5 rfl, by decide, rfl⟩
theorem dL_law_1370 {nm : String} : DI (mLn nm) 1370 (.iadd) 1 1371 := ⟨(kL_law_60 (nm := nm)).at 6 rfl, rfl⟩
theorem dL_law_1371 {nm : String} : DI (mLn nm) 1371 (.iaload) 1 1372 := ⟨(kL_law_60 (nm := nm)).at 7 rfl, rfl⟩
theorem dL_law_1372 {nm : String} : DLa (mLn nm) 1372 0 1373 := Or.inl ⟨0, (kL_law_60 (nm := nm)).at 8 rfl, rfl, rfl⟩
theorem dL_law_1373 {nm : String} : DLi (mLn nm) 1373 3 1374 := Or.inl ⟨3, (kL_law_60 (nm := nm)).at 9 rfl, rfl, rfl⟩
theorem dL_law_1374 {nm : String} : DC (mLn nm) 1374 4 1375 := Or.inl ⟨4, (kL_law_60 (nm := nm)).at 10 rfl, by decide, rfl⟩
theorem dL_law_1375 {nm : String} : DI (mLn nm) 1375 (.iadd) 1 1376 := ⟨(kL_law_60 (nm := nm)).at 11 rfl, rfl⟩
theorem dL_law_1376 {nm : String} : DI (mLn nm) 1376 (.iaload) 1 1377 := ⟨(kL_law_60 (nm := nm)).at 12 rfl, rfl⟩
theorem dL_law_1377 {nm : String} : DLa (mLn nm) 1377 0 1378 := Or.inl ⟨0, (kL_law_60 (nm := nm)).at 13 rfl, rfl, rfl⟩
theorem dL_law_1378 {nm : String} : DLi (mLn nm) 1378 3 1379 := Or.inl ⟨3, (kL_law_60 (nm := nm)).at 14 rfl, rfl, rfl⟩
theorem dL_law_1379 {nm : String} : DC (mLn nm) 1379 5 1380 := Or.inl ⟨5, (kL_law_60 (nm := nm)).at 15 rfl, by decide, rfl⟩
theorem dL_law_1380 {nm : String} : DI (mLn nm) 1380 (.iadd) 1 1381 := ⟨(kL_law_61 (nm := nm)).at 0 rfl, rfl⟩
theorem dL_law_1381 {nm : String} : DI (mLn nm) 1381 (.iaload) 1 1382 := ⟨(kL_law_61 (nm := nm)).at 1 rfl, rfl⟩
theorem dL_law_1382 {nm : String} : DI (mLn nm) 1382 (.invokevirtual 167) 3 1385 := ⟨(kL_law_61 (nm := nm)).at 2 rfl, rfl⟩
theorem dL_law_1385 {nm : String} : DLa (mLn nm) 1385 2 1386 := Or.inl ⟨2, (kL_law_61 (nm := nm)).at 3 rfl, rfl, rfl⟩
theorem dL_law_1386 {nm : String} : DLa (mLn nm) 1386 0 1387 := Or.inl ⟨0, (kL_law_61 (nm := nm)).at 4 rfl, rfl, rfl⟩
theorem dL_law_1387 {nm : String} : DLi (mLn nm) 1387 3 1388 := Or.inl ⟨3, (kL_law_61 (nm := nm)).at 5 rfl, rfl, rfl⟩
theorem dL_law_1388 {nm : String} : DC (mLn nm) 1388 1 1389 := Or.inl ⟨1, (kL_law_61 (nm := nm)).at 6 rfl, by decide, rfl⟩
theorem dL_law_1389 {nm : String} : DI (mLn nm) 1389 (.iadd) 1 1390 := ⟨(kL_law_61 (nm := nm)).at 7 rfl, rfl⟩
theorem dL_law_1390 {nm : String} : DI (mLn nm) 1390 (.iaload) 1 1391 := ⟨(kL_law_61 (nm := nm)).at 8 rfl, rfl⟩
theorem dL_law_1391 {nm : String} : DLa (mLn nm) 1391 0 1392 := Or.inl ⟨0, (kL_law_61 (nm := nm)).at 9 rfl, rfl, rfl⟩
theorem dL_law_1392 {nm : String} : DLi (mLn nm) 1392 3 1393 := Or.inl ⟨3, (kL_law_61 (nm := nm)).at 10 rfl, rfl, rfl⟩
theorem dL_law_1393 {nm : String} : DC (mLn nm) 1393 2 1394 := Or.inl ⟨2, (kL_law_61 (nm := nm)).at 11 rfl, by decide, rfl⟩
theorem dL_law_1394 {nm : String} : DI (mLn nm) 1394 (.iadd) 1 1395 := ⟨(kL_law_61 (nm := nm)).at 12 rfl, rfl⟩
theorem dL_law_1395 {nm : String} : DI (mLn nm) 1395 (.iaload) 1 1396 := ⟨(kL_law_61 (nm := nm)).at 13 rfl, rfl⟩
theorem dL_law_1396 {nm : String} : DLa (mLn nm) 1396 0 1397 := Or.inl ⟨0, (kL_law_61 (nm := nm)).at 14 rfl, rfl, rfl⟩
theorem dL_law_1397 {nm : String} : DLi (mLn nm) 1397 3 1398 := Or.inl ⟨3, (kL_law_61 (nm := nm)).at 15 rfl, rfl, rfl⟩
theorem dL_law_1398 {nm : String} : DC (mLn nm) 1398 3 1399 := Or.inl ⟨3, (kL_law_62 (nm := nm)).at 0 rfl, by decide, rfl⟩
theorem dL_law_1399 {nm : String} : DI (mLn nm) 1399 (.iadd) 1 1400 := ⟨(kL_law_62 (nm := nm)).at 1 rfl, rfl⟩
theorem dL_law_1400 {nm : String} : DI (mLn nm) 1400 (.iaload) 1 1401 := ⟨(kL_law_62 (nm := nm)).at 2 rfl, rfl⟩
theorem dL_law_1401 {nm : String} : DLa (mLn nm) 1401 0 1402 := Or.inl ⟨0, (kL_law_62 (nm := nm)).at 3 rfl, rfl, rfl⟩
theorem dL_law_1402 {nm : String} : DLi (mLn nm) 1402 3 1403 := Or.inl ⟨3, (kL_law_62 (nm := nm)).at 4 rfl, rfl, rfl⟩
theorem dL_law_1403 {nm : String} : DC (mLn nm) 1403 4 1404 := Or.inl ⟨4, (kL_law_62 (nm := nm)).at 5 rfl, by decide, rfl⟩
theorem dL_law_1404 {nm : String} : DI (mLn nm) 1404 (.iadd) 1 1405 := ⟨(kL_law_62 (nm := nm)).at 6 rfl, rfl⟩
theorem dL_law_1405 {nm : String} : DI (mLn nm) 1405 (.iaload) 1 1406 := ⟨(kL_law_62 (nm := nm)).at 7 rfl, rfl⟩
theorem dL_law_1406 {nm : String} : DLa (mLn nm) 1406 0 1407 := Or.inl ⟨0, (kL_law_62 (nm := nm)).at 8 rfl, rfl, rfl⟩
theorem dL_law_1407 {nm : String} : DLi (mLn nm) 1407 3 1408 := Or.inl ⟨3, (kL_law_62 (nm := nm)).at 9 rfl, rfl, rfl⟩
theorem dL_law_1408 {nm : String} : DC (mLn nm) 1408 5 1409 := Or.inl ⟨5, (kL_law_62 (nm := nm)).at 10 rfl, by decide, rfl⟩
theorem dL_law_1409 {nm : String} : DI (mLn nm) 1409 (.iadd) 1 1410 := ⟨(kL_law_62 (nm := nm)).at 11 rfl, rfl⟩
theorem dL_law_1410 {nm : String} : DI (mLn nm) 1410 (.iaload) 1 1411 := ⟨(kL_law_62 (nm := nm)).at 12 rfl, rfl⟩
theorem dL_law_1411 {nm : String} : DI (mLn nm) 1411 (.invokevirtual 171) 3 1414 := ⟨(kL_law_62 (nm := nm)).at 13 rfl, rfl⟩
theorem dL_law_1414 {nm : String} : DB (mLn nm) 1414 (.if_icmp .eq (61)) (61) 1417 1475 := ⟨(kL_law_62 (nm := nm)).at 14 rfl, rfl, rfl⟩
theorem dL_law_1417 {nm : String} : DC (mLn nm) 1417 0 1418 := Or.inl ⟨0, (kL_law_62 (nm := nm)).at 15 rfl, by decide, rfl⟩
theorem dL_law_1418 {nm : String} : DRz (mLn nm) 1418 := ⟨(kL_law_63 (nm := nm)).at 0 rfl, rfl⟩
theorem dL_law_1419 {nm : String} : DLa (mLn nm) 1419 1 1420 := Or.inl ⟨1, (kL_law_63 (nm := nm)).at 1 rfl, rfl, rfl⟩
theorem dL_law_1420 {nm : String} : DLa (mLn nm) 1420 0 1421 := Or.inl ⟨0, (kL_law_63 (nm := nm)).at 2 rfl, rfl, rfl⟩
theorem dL_law_1421 {nm : String} : DLi (mLn nm) 1421 3 1422 := Or.inl ⟨3, (kL_law_63 (nm := nm)).at 3 rfl, rfl, rfl⟩
theorem dL_law_1422 {nm : String} : DC (mLn nm) 1422 1 1423 := Or.inl ⟨1, (kL_law_63 (nm := nm)).at 4 rfl, by decide, rfl⟩
theorem dL_law_1423 {nm : String} : DI (mLn nm) 1423 (.iadd) 1 1424 := ⟨(kL_law_63 (nm := nm)).at 5 rfl, rfl⟩
theorem dL_law_1424 {nm : String} : DI (mLn nm) 1424 (.iaload) 1 1425 := ⟨(kL_law_63 (nm := nm)).at 6 rfl, rfl⟩
theorem dL_law_1425 {nm : String} : DLa (mLn nm) 1425 0 1426 := Or.inl ⟨0, (kL_law_63 (nm := nm)).at 7 rfl, rfl, rfl⟩
theorem dL_law_1426 {nm : String} : DLi (mLn nm) 1426 3 1427 := Or.inl ⟨3, (kL_law_63 (nm := nm)).at 8 rfl, rfl, rfl⟩
theorem dL_law_1427 {nm : String} : DC (mLn nm) 1427 2 1428 := Or.inl ⟨2, (kL_law_63 (nm := nm)).at 9 rfl, by decide, rfl⟩
theorem dL_law_1428 {nm : String} : DI (mLn nm) 1428 (.iadd) 1 1429 := ⟨(kL_law_63 (nm := nm)).at 10 rfl, rfl⟩
theorem dL_law_1429 {nm : String} : DI (mLn nm) 1429 (.iaload) 1 1430 := ⟨(kL_law_63 (nm := nm)).at 11 rfl, rfl⟩
theorem dL_law_1430 {nm : String} : DI (mLn nm) 1430 (.invokevirtual 172) 3 1433 := ⟨(kL_law_63 (nm := nm)).at 12 rfl, rfl⟩
theorem dL_law_1433 {nm : String} : DLa (mLn nm) 1433 2 1434 := Or.inl ⟨2, (kL_law_63 (nm := nm)).at 13 rfl, rfl, rfl⟩
theorem dL_law_1434 {nm : String} : DLa (mLn nm) 1434 0 1435 := Or.inl ⟨0, (kL_law_63 (nm := nm)).at 14 rfl, rfl, rfl⟩
theorem dL_law_1435 {nm : String} : DLi (mLn nm) 1435 3 1436 := Or.inl ⟨3, (kL_law_63 (nm := nm)).at 15 rfl, rfl, rfl⟩
theorem dL_law_1436 {nm : String} : DC (mLn nm) 1436 1 1437 := Or.inl ⟨1, (kL_law_64 (nm := nm)).at 0 rfl, by decide, rfl⟩
theorem dL_law_1437 {nm : String} : DI (mLn nm) 1437 (.iadd) 1 1438 := ⟨(kL_law_64 (nm := nm)).at 1 rfl, rfl⟩
theorem dL_law_1438 {nm : String} : DI (mLn nm) 1438 (.iaload) 1 1439 := ⟨(kL_law_64 (nm := nm)).at 2 rfl, rfl⟩
theorem dL_law_1439 {nm : String} : DLa (mLn nm) 1439 0 1440 := Or.inl ⟨0, (kL_law_64 (nm := nm)).at 3 rfl, rfl, rfl⟩
theorem dL_law_1440 {nm : String} : DLi (mLn nm) 1440 3 1441 := Or.inl ⟨3, (kL_law_64 (nm := nm)).at 4 rfl, rfl, rfl⟩
theorem dL_law_1441 {nm : String} : DC (mLn nm) 1441 2 1442 := Or.inl ⟨2, (kL_law_64 (nm := nm)).at 5 rfl, by decide, rfl⟩
theorem dL_law_1442 {nm : String} : DI (mLn nm) 1442 (.iadd) 1 1443 := ⟨(kL_law_64 (nm := nm)).at 6 rfl, rfl⟩
theorem dL_law_1443 {nm : String} : DI (mLn nm) 1443 (.iaload) 1 1444 := ⟨(kL_law_64 (nm := nm)).at 7 rfl, rfl⟩
theorem dL_law_1444 {nm : String} : DI (mLn nm) 1444 (.invokevirtual 175) 3 1447 := ⟨(kL_law_64 (nm := nm)).at 8 rfl, rfl⟩
theorem dL_law_1447 {nm : String} : DB (mLn nm) 1447 (.if_icmp .eq (28)) (28) 1450 1475 := ⟨(kL_law_64 (nm := nm)).at 9 rfl, rfl, rfl⟩
theorem dL_law_1450 {nm : String} : DC (mLn nm) 1450 0 1451 := Or.inl ⟨0, (kL_law_64 (nm := nm)).at 10 rfl, by decide, rfl⟩
theorem dL_law_1451 {nm : String} : DRz (mLn nm) 1451 := ⟨(kL_law_64 (nm := nm)).at 11 rfl, rfl⟩
theorem dL_law_1452 {nm : String} : DLa (mLn nm) 1452 1 1453 := Or.inl ⟨1, (kL_law_64 (nm := nm)).at 12 rfl, rfl, rfl⟩
theorem dL_law_1453 {nm : String} : DLa (mLn nm) 1453 0 1454 := Or.inl ⟨0, (kL_law_64 (nm := nm)).at 13 rfl, rfl, rfl⟩
theorem dL_law_1454 {nm : String} : DLi (mLn nm) 1454 3 1455 := Or.inl ⟨3, (kL_law_64 (nm := nm)).at 14 rfl, rfl, rfl⟩
theorem dL_law_1455 {nm : String} : DC (mLn nm) 1455 1 1456 := Or.inl ⟨1, (kL_law_64 (nm := nm)).at 15 rfl, by decide, rfl⟩
theorem dL_law_1456 {nm : String} : DI (mLn nm) 1456 (.iadd) 1 1457 := ⟨(kL_law_65 (nm := nm)).at 0 rfl, rfl⟩
theorem dL_law_1457 {nm : String} : DI (mLn nm) 1457 (.iaload) 1 1458 := ⟨(kL_law_65 (nm := nm)).at 1 rfl, rfl⟩
theorem dL_law_1458 {nm : String} : DI (mLn nm) 1458 (.invokevirtual 176) 3 1461 := ⟨(kL_law_65 (nm := nm)).at 2 rfl, rfl⟩
theorem dL_law_1461 {nm : String} : DLa (mLn nm) 1461 2 1462 := Or.inl ⟨2, (kL_law_65 (nm := nm)).at 3 rfl, rfl, rfl⟩
theorem dL_law_1462 {nm : String} : DLa (mLn nm) 1462 0 1463 := Or.inl ⟨0, (kL_law_65 (nm := nm)).at 4 rfl, rfl, rfl⟩
theorem dL_law_1463 {nm : String} : DLi (mLn nm) 1463 3 1464 := Or.inl ⟨3, (kL_law_65 (nm := nm)).at 5 rfl, rfl, rfl⟩
theorem dL_law_1464 {nm : String} : DC (mLn nm) 1464 1 1465 := Or.inl ⟨1, (kL_law_65 (nm := nm)).at 6 rfl, by decide, rfl⟩
theorem dL_law_1465 {nm : String} : DI (mLn nm) 1465 (.iadd) 1 1466 := ⟨(kL_law_65 (nm := nm)).at 7 rfl, rfl⟩
theorem dL_law_1466 {nm : String} : DI (mLn nm) 1466 (.iaload) 1 1467 := ⟨(kL_law_65 (nm := nm)).at 8 rfl, rfl⟩
theorem dL_law_1467 {nm : String} : DI (mLn nm) 1467 (.invokevirtual 179) 3 1470 := ⟨(kL_law_65 (nm := nm)).at 9 rfl, rfl⟩
theorem dL_law_1470 {nm : String} : DB (mLn nm) 1470 (.if_icmp .eq (5)) (5) 1473 1475 := ⟨(kL_law_65 (nm := nm)).at 10 rfl, rfl, rfl⟩
theorem dL_law_1473 {nm : String} : DC (mLn nm) 1473 0 1474 := Or.inl ⟨0, (kL_law_65 (nm := nm)).at 11 rfl, by decide, rfl⟩
theorem dL_law_1474 {nm : String} : DRz (mLn nm) 1474 := ⟨(kL_law_65 (nm := nm)).at 12 rfl, rfl⟩
theorem dL_law_1475 {nm : String} : DIN (mLn nm) 1475 3 6 1478 := ⟨Nat.le_of_ble_eq_true rfl, 6, (kL_law_65 (nm := nm)).at 13 rfl, rfl, rfl⟩
theorem dL_law_1478 {nm : String} : DB (mLn nm) 1478 (.goto (-1460)) (-1460) 1481 18 := ⟨(kL_law_65 (nm := nm)).at 14 rfl, rfl, rfl⟩
theorem dL_law_1481 {nm : String} : DC (mLn nm) 1481 1 1482 := Or.inl ⟨1, (kL_law_65 (nm := nm)).at 15 rfl, by decide, rfl⟩
theorem dL_law_1482 {nm : String} : DRz (mLn nm) 1482 := ⟨(kL_law_66 (nm := nm)).at 0 rfl, rfl⟩
