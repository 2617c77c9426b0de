def tL_law_0 : List (Nat × Instr × Nat) := [(0, .new 7, 3), (3, .dup, 1), (4, .invokespecial 9, 3), (7, .astore_n 1, 1), (8, .new 10, 3), (11, .dup, 1), (12, .invokespecial 12, 3), (15, .astore_n 2, 1), (16, .iconst 0, 1), (17, .istore_n 3, 1), (18, .iload_n 3, 1), (19, .aload_n 0, 1), (20, .arraylength, 1), (21, .bipush (6), 2), (23, .isub, 1), (24, .if_icmp .gt (1454), 3)]
theorem kL_law_0 {nm : String} : DEC (mLn nm) tL_law_0 := (show ∀ e ∈ tL_law_0, decode code e.1 = .ok e.2 from by decide +kernel)
def tL_law_1 : List (Nat × Instr × Nat) := [(27, .aload_n 0, 1), (28, .iload_n 3, 1), (29, .iaload, 1), (30, .bipush (63), 2), (32, .iand, 1), (33, .tableswitch (1439) (0) (38) #[171, 204, 247, 290, 323, 346, 359, 382, 405, 458, 501, 534, 567, 600, 634, 677, 710, 743, 776, 809, 842, 885, 928, 951, 974, 997, 1010, 1023, 1036, 1049, 1072, 1115, 1138, 1171, 1214, 1287, 1320, 1383, 1416], 171), (204, .aload_n 1, 1), (205, .aload_n 0, 1), (206, .iload_n 3, 1), (207, .iconst 1, 1), (208, .iadd, 1), (209, .iaload, 1), (210, .aload_n 0, 1), (211, .iload_n 3, 1), (212, .iconst 2, 1), (213, .iadd, 1)]
theorem kL_law_1 {nm : String} : DEC (mLn nm) tL_law_1 := (show ∀ e ∈ tL_law_1, decode code e.1 = .ok e.2 from by decide +kernel)
def tL_law_2 : List (Nat × Instr × Nat) := [(214, .iaload, 1), (215, .invokevirtual 13, 3), (218, .pop, 1), (219, .aload_n 2, 1), (220, .aload_n 0, 1), (221, .iload_n 3, 1), (222, .iconst 1, 1), (223, .iadd, 1), (224, .iaload, 1), (225, .aload_n 0, 1), (226, .iload_n 3, 1), (227, .iconst 2, 1), (228, .iadd, 1), (229, .iaload, 1), (230, .invokevirtual 17, 3), (233, .pop, 1)]
theorem kL_law_2 {nm : String} : DEC (mLn nm) tL_law_2 := (show ∀ e ∈ tL_law_2, decode code e.1 = .ok e.2 from by decide +kernel)
def tL_law_3 : List (Nat × Instr × Nat) := [(234, .goto (1238), 3), (237, .aload_n 1, 1), (238, .aload_n 0, 1), (239, .iload_n 3, 1), (240, .iconst 1, 1), (241, .iadd, 1), (242, .iaload, 1), (243, .aload_n 0, 1), (244, .iload_n 3, 1), (245, .iconst 2, 1), (246, .iadd, 1), (247, .iaload, 1), (248, .aload_n 0, 1), (249, .iload_n 3, 1), (250, .iconst 3, 1), (251, .iadd, 1)]
theorem kL_law_3 {nm : String} : DEC (mLn nm) tL_law_3 := (show ∀ e ∈ tL_law_3, decode code e.1 = .ok e.2 from by decide +kernel)
def tL_law_4 : List (Nat × Instr × Nat) := [(252, .iaload, 1), (253, .invokevirtual 18, 3), (256, .pop, 1), (257, .aload_n 2, 1), (258, .aload_n 0, 1), (259, .iload_n 3, 1), (260, .iconst 1, 1), (261, .iadd, 1), (262, .iaload, 1), (263, .aload_n 0, 1), (264, .iload_n 3, 1), (265, .iconst 2, 1), (266, .iadd, 1), (267, .iaload, 1), (268, .aload_n 0, 1), (269, .iload_n 3, 1)]
theorem kL_law_4 {nm : String} : DEC (mLn nm) tL_law_4 := (show ∀ e ∈ tL_law_4, decode code e.1 = .ok e.2 from by decide +kernel)
def tL_law_5 : List (Nat × Instr × Nat) := [(270, .iconst 3, 1), (271, .iadd, 1), (272, .iaload, 1), (273, .invokevirtual 22, 3), (276, .pop, 1), (277, .goto (1195), 3), (280, .aload_n 1, 1), (281, .aload_n 0, 1), (282, .iload_n 3, 1), (283, .iconst 1, 1), (284, .iadd, 1), (285, .iaload, 1), (286, .aload_n 0, 1), (287, .iload_n 3, 1), (288, .iconst 2, 1), (289, .iadd, 1)]
theorem kL_law_5 {nm : String} : DEC (mLn nm) tL_law_5 := (show ∀ e ∈ tL_law_5, decode code e.1 = .ok e.2 from by decide +kernel)
def tL_law_6 : List (Nat × Instr × Nat) := [(290, .iaload, 1), (291, .aload_n 0, 1), (292, .iload_n 3, 1), (293, .iconst 3, 1), (294, .iadd, 1), (295, .iaload, 1), (296, .invokevirtual 23, 3), (299, .pop, 1), (300, .aload_n 2, 1), (301, .aload_n 0, 1), (302, .iload_n 3, 1), (303, .iconst 1, 1), (304, .iadd, 1), (305, .iaload, 1), (306, .aload_n 0, 1), (307, .iload_n 3, 1)]
theorem kL_law_6 {nm : String} : DEC (mLn nm) tL_law_6 := (show ∀ e ∈ tL_law_6, decode code e.1 = .ok e.2 from by decide +kernel)
def tL_law_7 : List (Nat × Instr × Nat) := [(308, .iconst 2, 1), (309, .iadd, 1), (310, .iaload, 1), (311, .aload_n 0, 1), (312, .iload_n 3, 1), (313, .iconst 3, 1), (314, .iadd, 1), (315, .iaload, 1), (316, .invokevirtual 26, 3), (319, .pop, 1), (320, .goto (1152), 3), (323, .aload_n 1, 1), (324, .aload_n 0, 1), (325, .iload_n 3, 1), (326, .iconst 1, 1), (327, .iadd, 1)]
theorem kL_law_7 {nm : String} : DEC (mLn nm) tL_law_7 := (show ∀ e ∈ tL_law_7, decode code e.1 = .ok e.2 from by decide +kernel)
def tL_law_8 : List (Nat × Instr × Nat) := [(328, .iaload, 1), (329, .aload_n 0, 1), (330, .iload_n 3, 1), (331, .iconst 2, 1), (332, .iadd, 1), (333, .iaload, 1), (334, .invokevirtual 27, 3), (337, .pop, 1), (338, .aload_n 2, 1), (339, .aload_n 0, 1), (340, .iload_n 3, 1), (341, .iconst 1, 1), (342, .iadd, 1), (343, .iaload, 1), (344, .aload_n 0, 1), (345, .iload_n 3, 1)]
theorem kL_law_8 {nm : String} : DEC (mLn nm) tL_law_8 := (show ∀ e ∈ tL_law_8, decode code e.1 = .ok e.2 from by decide +kernel)
def tL_law_9 : List (Nat × Instr × Nat) := [(346, .iconst 2, 1), (347, .iadd, 1), (348, .iaload, 1), (349, .invokevirtual 30, 3), (352, .pop, 1), (353, .goto (1119), 3), (356, .aload_n 1, 1), (357, .aload_n 0, 1), (358, .iload_n 3, 1), (359, .iconst 1, 1), (360, .iadd, 1), (361, .iaload, 1), (362, .invokevirtual 31, 3), (365, .pop, 1), (366, .aload_n 2, 1), (367, .aload_n 0, 1)]
theorem kL_law_9 {nm : String} : DEC (mLn nm) tL_law_9 := (show ∀ e ∈ tL_law_9, decode code e.1 = .ok e.2 from by decide +kernel)
def tL_law_10 : List (Nat × Instr × Nat) := [(368, .iload_n 3, 1), (369, .iconst 1, 1), (370, .iadd, 1), (371, .iaload, 1), (372, .invokevirtual 35, 3), (375, .pop, 1), (376, .goto (1096), 3), (379, .aload_n 1, 1), (380, .invokevirtual 36, 3), (383, .pop, 1), (384, .aload_n 2, 1), (385, .invokevirtual 40, 3), (388, .pop, 1), (389, .goto (1083), 3), (392, .aload_n 1, 1), (393, .aload_n 0, 1)]
theorem kL_law_10 {nm : String} : DEC (mLn nm) tL_law_10 := (show ∀ e ∈ tL_law_10, decode code e.1 = .ok e.2 from by decide +kernel)
def tL_law_11 : List (Nat × Instr × Nat) := [(394, .iload_n 3, 1), (395, .iconst 1, 1), (396, .iadd, 1), (397, .iaload, 1), (398, .invokevirtual 41, 3), (401, .pop, 1), (402, .aload_n 2, 1), (403, .aload_n 0, 1), (404, .iload_n 3, 1), (405, .iconst 1, 1), (406, .iadd, 1), (407, .iaload, 1), (408, .invokevirtual 44, 3), (411, .pop, 1), (412, .goto (1060), 3), (415, .aload_n 1, 1)]
theorem kL_law_11 {nm : String} : DEC (mLn nm) tL_law_11 := (show ∀ e ∈ tL_law_11, decode code e.1 = .ok e.2 from by decide +kernel)
def tL_law_12 : List (Nat × Instr × Nat) := [(416, .aload_n 0, 1), (417, .iload_n 3, 1), (418, .iconst 1, 1), (419, .iadd, 1), (420, .iaload, 1), (421, .invokevirtual 45, 3), (424, .pop2, 1), (425, .aload_n 2, 1), (426, .aload_n 0, 1), (427, .iload_n 3, 1), (428, .iconst 1, 1), (429, .iadd, 1), (430, .iaload, 1), (431, .invokevirtual 49, 3), (434, .pop2, 1), (435, .goto (1037), 3)]
theorem kL_law_12 {nm : String} : DEC (mLn nm) tL_law_12 := (show ∀ e ∈ tL_law_12, decode code e.1 = .ok e.2 from by decide +kernel)
def tL_law_13 : List (Nat × Instr × Nat) := [(438, .aload_n 1, 1), (439, .aload_n 0, 1), (440, .iload_n 3, 1), (441, .iconst 1, 1), (442, .iadd, 1), (443, .iaload, 1), (444, .aload_n 0, 1), (445, .iload_n 3, 1), (446, .iconst 2, 1), (447, .iadd, 1), (448, .iaload, 1), (449, .aload_n 0, 1), (450, .iload_n 3, 1), (451, .iconst 3, 1), (452, .iadd, 1), (453, .iaload, 1)]
theorem kL_law_13 {nm : String} : DEC (mLn nm) tL_law_13 := (show ∀ e ∈ tL_law_13, decode code e.1 = .ok e.2 from by decide +kernel)
def tL_law_14 : List (Nat × Instr × Nat) := [(454, .aload_n 0, 1), (455, .iload_n 3, 1), (456, .iconst 4, 1), (457, .iadd, 1), (458, .iaload, 1), (459, .invokevirtual 50, 3), (462, .pop, 1), (463, .aload_n 2, 1), (464, .aload_n 0, 1), (465, .iload_n 3, 1), (466, .iconst 1, 1), (467, .iadd, 1), (468, .iaload, 1), (469, .aload_n 0, 1), (470, .iload_n 3, 1), (471, .iconst 2, 1)]
theorem kL_law_14 {nm : String} : DEC (mLn nm) tL_law_14 := (show ∀ e ∈ tL_law_14, decode code e.1 = .ok e.2 from by decide +kernel)
def tL_law_15 : List (Nat × Instr × Nat) := [(472, .iadd, 1), (473, .iaload, 1), (474, .aload_n 0, 1), (475, .iload_n 3, 1), (476, .iconst 3, 1), (477, .iadd, 1), (478, .iaload, 1), (479, .aload_n 0, 1), (480, .iload_n 3, 1), (481, .iconst 4, 1), (482, .iadd, 1), (483, .iaload, 1), (484, .invokevirtual 54, 3), (487, .pop, 1), (488, .goto (984), 3), (491, .aload_n 1, 1)]
theorem kL_law_15 {nm : String} : DEC (mLn nm) tL_law_15 := (show ∀ e ∈ tL_law_15, decode code e.1 = .ok e.2 from by decide +kernel)
def tL_law_16 : List (Nat × Instr × Nat) := [(492, .aload_n 0, 1), (493, .iload_n 3, 1), (494, .iconst 1, 1), (495, .iadd, 1), (496, .iaload, 1), (497, .aload_n 0, 1), (498, .iload_n 3, 1), (499, .iconst 2, 1), (500, .iadd, 1), (501, .iaload, 1), (502, .aload_n 0, 1), (503, .iload_n 3, 1), (504, .iconst 3, 1), (505, .iadd, 1), (506, .iaload, 1), (507, .invokevirtual 55, 3)]
theorem kL_law_16 {nm : String} : DEC (mLn nm) tL_law_16 := (show ∀ e ∈ tL_law_16, decode code e.1 = .ok e.2 from by decide +kernel)
def tL_law_17 : List (Nat × Instr × Nat) := [(510, .pop, 1), (511, .aload_n 2, 1), (512, .aload_n 0, 1), (513, .iload_n 3, 1), (514, .iconst 1, 1), (515, .iadd, 1), (516, .iaload, 1), (517, .aload_n 0, 1), (518, .iload_n 3, 1), (519, .iconst 2, 1), (520, .iadd, 1), (521, .iaload, 1), (522, .aload_n 0, 1), (523, .iload_n 3, 1), (524, .iconst 3, 1), (525, .iadd, 1)]
theorem kL_law_17 {nm : String} : DEC (mLn nm) tL_law_17 := (show ∀ e ∈ tL_law_17, decode code e.1 = .ok e.2 from by decide +kernel)
def tL_law_18 : List (Nat × Instr × Nat) := [(526, .iaload, 1), (527, .invokevirtual 58, 3), (530, .pop, 1), (531, .goto (941), 3), (534, .aload_n 1, 1), (535, .aload_n 0, 1), (536, .iload_n 3, 1), (537, .iconst 1, 1), (538, .iadd, 1), (539, .iaload, 1), (540, .aload_n 0, 1), (541, .iload_n 3, 1), (542, .iconst 2, 1), (543, .iadd, 1), (544, .iaload, 1), (545, .invokevirtual 59, 3)]
theorem kL_law_18 {nm : String} : DEC (mLn nm) tL_law_18 := (show ∀ e ∈ tL_law_18, decode code e.1 = .ok e.2 from by decide +kernel)
def tL_law_19 : List (Nat × Instr × Nat) := [(548, .pop, 1), (549, .aload_n 2, 1), (550, .aload_n 0, 1), (551, .iload_n 3, 1), (552, .iconst 1, 1), (553, .iadd, 1), (554, .iaload, 1), (555, .aload_n 0, 1), (556, .iload_n 3, 1), (557, .iconst 2, 1), (558, .iadd, 1), (559, .iaload, 1), (560, .invokevirtual 62, 3), (563, .pop, 1), (564, .goto (908), 3), (567, .aload_n 1, 1)]
theorem kL_law_19 {nm : String} : DEC (mLn nm) tL_law_19 := (show ∀ e ∈ tL_law_19, decode code e.1 = .ok e.2 from by decide +kernel)
def tL_law_20 : List (Nat × Instr × Nat) := [(568, .aload_n 0, 1), (569, .iload_n 3, 1), (570, .iconst 1, 1), (571, .iadd, 1), (572, .iaload, 1), (573, .aload_n 0, 1), (574, .iload_n 3, 1), (575, .iconst 2, 1), (576, .iadd, 1), (577, .iaload, 1), (578, .invokevirtual 63, 3), (581, .pop, 1), (582, .aload_n 2, 1), (583, .aload_n 0, 1), (584, .iload_n 3, 1), (585, .iconst 1, 1)]
theorem kL_law_20 {nm : String} : DEC (mLn nm) tL_law_20 := (show ∀ e ∈ tL_law_20, decode code e.1 = .ok e.2 from by decide +kernel)
def tL_law_21 : List (Nat × Instr × Nat) := [(586, .iadd, 1), (587, .iaload, 1), (588, .aload_n 0, 1), (589, .iload_n 3, 1), (590, .iconst 2, 1), (591, .iadd, 1), (592, .iaload, 1), (593, .invokevirtual 66, 3), (596, .pop, 1), (597, .goto (875), 3), (600, .aload_n 1, 1), (601, .aload_n 0, 1), (602, .iload_n 3, 1), (603, .iconst 1, 1), (604, .iadd, 1), (605, .iaload, 1)]
theorem kL_law_21 {nm : String} : DEC (mLn nm) tL_law_21 := (show ∀ e ∈ tL_law_21, decode code e.1 = .ok e.2 from by decide +kernel)
def tL_law_22 : List (Nat × Instr × Nat) := [(606, .aload_n 0, 1), (607, .iload_n 3, 1), (608, .iconst 2, 1), (609, .iadd, 1), (610, .iaload, 1), (611, .invokevirtual 67, 3), (614, .pop, 1), (615, .aload_n 2, 1), (616, .aload_n 0, 1), (617, .iload_n 3, 1), (618, .iconst 1, 1), (619, .iadd, 1), (620, .iaload, 1), (621, .aload_n 0, 1), (622, .iload_n 3, 1), (623, .iconst 2, 1)]
theorem kL_law_22 {nm : String} : DEC (mLn nm) tL_law_22 := (show ∀ e ∈ tL_law_22, decode code e.1 = .ok e.2 from by decide +kernel)
def tL_law_23 : List (Nat × Instr × Nat) := [(624, .iadd, 1), (625, .iaload, 1), (626, .invokevirtual 70, 3), (629, .pop, 1), (630, .goto (842), 3), (633, .aload_n 1, 1), (634, .aload_n 0, 1), (635, .iload_n 3, 1), (636, .iconst 1, 1), (637, .iadd, 1), (638, .iaload, 1), (639, .aload_n 0, 1), (640, .iload_n 3, 1), (641, .iconst 2, 1), (642, .iadd, 1), (643, .iaload, 1)]
theorem kL_law_23 {nm : String} : DEC (mLn nm) tL_law_23 := (show ∀ e ∈ tL_law_23, decode code e.1 = .ok e.2 from by decide +kernel)
def tL_law_24 : List (Nat × Instr × Nat) := [(644, .invokevirtual 71, 3), (647, .aload_n 2, 1), (648, .aload_n 0, 1), (649, .iload_n 3, 1), (650, .iconst 1, 1), (651, .iadd, 1), (652, .iaload, 1), (653, .aload_n 0, 1), (654, .iload_n 3, 1), (655, .iconst 2, 1), (656, .iadd, 1), (657, .iaload, 1), (658, .invokevirtual 75, 3), (661, .lcmp, 1), (662, .ifCond .eq (810), 3), (665, .iconst 0, 1)]
theorem kL_law_24 {nm : String} : DEC (mLn nm) tL_law_24 := (show ∀ e ∈ tL_law_24, decode code e.1 = .ok e.2 from by decide +kernel)
def tL_law_25 : List (Nat × Instr × Nat) := [(666, .ireturn, 1), (667, .aload_n 1, 1), (668, .aload_n 0, 1), (669, .iload_n 3, 1), (670, .iconst 1, 1), (671, .iadd, 1), (672, .iaload, 1), (673, .aload_n 0, 1), (674, .iload_n 3, 1), (675, .iconst 2, 1), (676, .iadd, 1), (677, .iaload, 1), (678, .aload_n 0, 1), (679, .iload_n 3, 1), (680, .iconst 3, 1), (681, .iadd, 1)]
theorem kL_law_25 {nm : String} : DEC (mLn nm) tL_law_25 := (show ∀ e ∈ tL_law_25, decode code e.1 = .ok e.2 from by decide +kernel)
def tL_law_26 : List (Nat × Instr × Nat) := [(682, .iaload, 1), (683, .invokevirtual 76, 3), (686, .pop, 1), (687, .aload_n 2, 1), (688, .aload_n 0, 1), (689, .iload_n 3, 1), (690, .iconst 1, 1), (691, .iadd, 1), (692, .iaload, 1), (693, .aload_n 0, 1), (694, .iload_n 3, 1), (695, .iconst 2, 1), (696, .iadd, 1), (697, .iaload, 1), (698, .aload_n 0, 1), (699, .iload_n 3, 1)]
theorem kL_law_26 {nm : String} : DEC (mLn nm) tL_law_26 := (show ∀ e ∈ tL_law_26, decode code e.1 = .ok e.2 from by decide +kernel)
def tL_law_27 : List (Nat × Instr × Nat) := [(700, .iconst 3, 1), (701, .iadd, 1), (702, .iaload, 1), (703, .invokevirtual 79, 3), (706, .pop, 1), (707, .goto (765), 3), (710, .aload_n 1, 1), (711, .aload_n 0, 1), (712, .iload_n 3, 1), (713, .iconst 1, 1), (714, .iadd, 1), (715, .iaload, 1), (716, .aload_n 0, 1), (717, .iload_n 3, 1), (718, .iconst 2, 1), (719, .iadd, 1)]
theorem kL_law_27 {nm : String} : DEC (mLn nm) tL_law_27 := (show ∀ e ∈ tL_law_27, decode code e.1 = .ok e.2 from by decide +kernel)
def tL_law_28 : List (Nat × Instr × Nat) := [(720, .iaload, 1), (721, .invokevirtual 80, 3), (724, .pop, 1), (725, .aload_n 2, 1), (726, .aload_n 0, 1), (727, .iload_n 3, 1), (728, .iconst 1, 1), (729, .iadd, 1), (730, .iaload, 1), (731, .aload_n 0, 1), (732, .iload_n 3, 1), (733, .iconst 2, 1), (734, .iadd, 1), (735, .iaload, 1), (736, .invokevirtual 83, 3), (739, .pop, 1)]
theorem kL_law_28 {nm : String} : DEC (mLn nm) tL_law_28 := (show ∀ e ∈ tL_law_28, decode code e.1 = .ok e.2 from by decide +kernel)
def tL_law_29 : List (Nat × Instr × Nat) := [(740, .goto (732), 3), (743, .aload_n 1, 1), (744, .aload_n 0, 1), (745, .iload_n 3, 1), (746, .iconst 1, 1), (747, .iadd, 1), (748, .iaload, 1), (749, .aload_n 0, 1), (750, .iload_n 3, 1), (751, .iconst 2, 1), (752, .iadd, 1), (753, .iaload, 1), (754, .invokevirtual 84, 3), (757, .pop, 1), (758, .aload_n 2, 1), (759, .aload_n 0, 1)]
theorem kL_law_29 {nm : String} : DEC (mLn nm) tL_law_29 := (show ∀ e ∈ tL_law_29, decode code e.1 = .ok e.2 from by decide +kernel)
def tL_law_30 : List (Nat × Instr × Nat) := [(760, .iload_n 3, 1), (761, .iconst 1, 1), (762, .iadd, 1), (763, .iaload, 1), (764, .aload_n 0, 1), (765, .iload_n 3, 1), (766, .iconst 2, 1), (767, .iadd, 1), (768, .iaload, 1), (769, .invokevirtual 87, 3), (772, .pop, 1), (773, .goto (699), 3), (776, .aload_n 1, 1), (777, .aload_n 0, 1), (778, .iload_n 3, 1), (779, .iconst 1, 1)]
theorem kL_law_30 {nm : String} : DEC (mLn nm) tL_law_30 := (show ∀ e ∈ tL_law_30, decode code e.1 = .ok e.2 from by decide +kernel)
def tL_law_31 : List (Nat × Instr × Nat) := [(780, .iadd, 1), (781, .iaload, 1), (782, .aload_n 0, 1), (783, .iload_n 3, 1), (784, .iconst 2, 1), (785, .iadd, 1), (786, .iaload, 1), (787, .invokevirtual 88, 3), (790, .pop, 1), (791, .aload_n 2, 1), (792, .aload_n 0, 1), (793, .iload_n 3, 1), (794, .iconst 1, 1), (795, .iadd, 1), (796, .iaload, 1), (797, .aload_n 0, 1)]
theorem kL_law_31 {nm : String} : DEC (mLn nm) tL_law_31 := (show ∀ e ∈ tL_law_31, decode code e.1 = .ok e.2 from by decide +kernel)
def tL_law_32 : List (Nat × Instr × Nat) := [(798, .iload_n 3, 1), (799, .iconst 2, 1), (800, .iadd, 1), (801, .iaload, 1), (802, .invokevirtual 91, 3), (805, .pop, 1), (806, .goto (666), 3), (809, .aload_n 1, 1), (810, .aload_n 0, 1), (811, .iload_n 3, 1), (812, .iconst 1, 1), (813, .iadd, 1), (814, .iaload, 1), (815, .aload_n 0, 1), (816, .iload_n 3, 1), (817, .iconst 2, 1)]
theorem kL_law_32 {nm : String} : DEC (mLn nm) tL_law_32 := (show ∀ e ∈ tL_law_32, decode code e.1 = .ok e.2 from by decide +kernel)
def tL_law_33 : List (Nat × Instr × Nat) := [(818, .iadd, 1), (819, .iaload, 1), (820, .invokevirtual 92, 3), (823, .pop, 1), (824, .aload_n 2, 1), (825, .aload_n 0, 1), (826, .iload_n 3, 1), (827, .iconst 1, 1), (828, .iadd, 1), (829, .iaload, 1), (830, .aload_n 0, 1), (831, .iload_n 3, 1), (832, .iconst 2, 1), (833, .iadd, 1), (834, .iaload, 1), (835, .invokevirtual 95, 3)]
theorem kL_law_33 {nm : String} : DEC (mLn nm) tL_law_33 := (show ∀ e ∈ tL_law_33, decode code e.1 = .ok e.2 from by decide +kernel)
def tL_law_34 : List (Nat × Instr × Nat) := [(838, .pop, 1), (839, .goto (633), 3), (842, .aload_n 1, 1), (843, .aload_n 0, 1), (844, .iload_n 3, 1), (845, .iconst 1, 1), (846, .iadd, 1), (847, .iaload, 1), (848, .aload_n 0, 1), (849, .iload_n 3, 1), (850, .iconst 2, 1), (851, .iadd, 1), (852, .iaload, 1), (853, .invokevirtual 96, 3), (856, .pop2, 1), (857, .aload_n 2, 1)]
theorem kL_law_34 {nm : String} : DEC (mLn nm) tL_law_34 := (show ∀ e ∈ tL_law_34, decode code e.1 = .ok e.2 from by decide +kernel)
def tL_law_35 : List (Nat × Instr × Nat) := [(858, .aload_n 0, 1), (859, .iload_n 3, 1), (860, .iconst 1, 1), (861, .iadd, 1), (862, .iaload, 1), (863, .aload_n 0, 1), (864, .iload_n 3, 1), (865, .iconst 2, 1), (866, .iadd, 1), (867, .iaload, 1), (868, .invokevirtual 99, 3), (871, .pop2, 1), (872, .goto (600), 3), (875, .aload_n 1, 1), (876, .aload_n 0, 1), (877, .iload_n 3, 1)]
theorem kL_law_35 {nm : String} : DEC (mLn nm) tL_law_35 := (show ∀ e ∈ tL_law_35, decode code e.1 = .ok e.2 from by decide +kernel)
def tL_law_36 : List (Nat × Instr × Nat) := [(878, .iconst 1, 1), (879, .iadd, 1), (880, .iaload, 1), (881, .aload_n 0, 1), (882, .iload_n 3, 1), (883, .iconst 2, 1), (884, .iadd, 1), (885, .iaload, 1), (886, .aload_n 0, 1), (887, .iload_n 3, 1), (888, .iconst 3, 1), (889, .iadd, 1), (890, .iaload, 1), (891, .invokevirtual 100, 3), (894, .pop, 1), (895, .aload_n 2, 1)]
theorem kL_law_36 {nm : String} : DEC (mLn nm) tL_law_36 := (show ∀ e ∈ tL_law_36, decode code e.1 = .ok e.2 from by decide +kernel)
def tL_law_37 : List (Nat × Instr × Nat) := [(896, .aload_n 0, 1), (897, .iload_n 3, 1), (898, .iconst 1, 1), (899, .iadd, 1), (900, .iaload, 1), (901, .aload_n 0, 1), (902, .iload_n 3, 1), (903, .iconst 2, 1), (904, .iadd, 1), (905, .iaload, 1), (906, .aload_n 0, 1), (907, .iload_n 3, 1), (908, .iconst 3, 1), (909, .iadd, 1), (910, .iaload, 1), (911, .invokevirtual 103, 3)]
theorem kL_law_37 {nm : String} : DEC (mLn nm) tL_law_37 := (show ∀ e ∈ tL_law_37, decode code e.1 = .ok e.2 from by decide +kernel)
def tL_law_38 : List (Nat × Instr × Nat) := [(914, .pop, 1), (915, .goto (557), 3), (918, .aload_n 1, 1), (919, .aload_n 0, 1), (920, .iload_n 3, 1), (921, .iconst 1, 1), (922, .iadd, 1), (923, .iaload, 1), (924, .aload_n 0, 1), (925, .iload_n 3, 1), (926, .iconst 2, 1), (927, .iadd, 1), (928, .iaload, 1), (929, .aload_n 0, 1), (930, .iload_n 3, 1), (931, .iconst 3, 1)]
theorem kL_law_38 {nm : String} : DEC (mLn nm) tL_law_38 := (show ∀ e ∈ tL_law_38, decode code e.1 = .ok e.2 from by decide +kernel)
def tL_law_39 : List (Nat × Instr × Nat) := [(932, .iadd, 1), (933, .iaload, 1), (934, .invokevirtual 104, 3), (937, .pop, 1), (938, .aload_n 2, 1), (939, .aload_n 0, 1), (940, .iload_n 3, 1), (941, .iconst 1, 1), (942, .iadd, 1), (943, .iaload, 1), (944, .aload_n 0, 1), (945, .iload_n 3, 1), (946, .iconst 2, 1), (947, .iadd, 1), (948, .iaload, 1), (949, .aload_n 0, 1)]
theorem kL_law_39 {nm : String} : DEC (mLn nm) tL_law_39 := (show ∀ e ∈ tL_law_39, decode code e.1 = .ok e.2 from by decide +kernel)
def tL_law_40 : List (Nat × Instr × Nat) := [(950, .iload_n 3, 1), (951, .iconst 3, 1), (952, .iadd, 1), (953, .iaload, 1), (954, .invokevirtual 107, 3), (957, .pop, 1), (958, .goto (514), 3), (961, .aload_n 1, 1), (962, .aload_n 0, 1), (963, .iload_n 3, 1), (964, .iconst 1, 1), (965, .iadd, 1), (966, .iaload, 1), (967, .invokevirtual 108, 3), (970, .pop, 1), (971, .aload_n 2, 1)]
theorem kL_law_40 {nm : String} : DEC (mLn nm) tL_law_40 := (show ∀ e ∈ tL_law_40, decode code e.1 = .ok e.2 from by decide +kernel)
def tL_law_41 : List (Nat × Instr × Nat) := [(972, .aload_n 0, 1), (973, .iload_n 3, 1), (974, .iconst 1, 1), (975, .iadd, 1), (976, .iaload, 1), (977, .invokevirtual 111, 3), (980, .pop, 1), (981, .goto (491), 3), (984, .aload_n 1, 1), (985, .aload_n 0, 1), (986, .iload_n 3, 1), (987, .iconst 1, 1), (988, .iadd, 1), (989, .iaload, 1), (990, .invokevirtual 112, 3), (993, .pop, 1)]
theorem kL_law_41 {nm : String} : DEC (mLn nm) tL_law_41 := (show ∀ e ∈ tL_law_41, decode code e.1 = .ok e.2 from by decide +kernel)
def tL_law_42 : List (Nat × Instr × Nat) := [(994, .aload_n 2, 1), (995, .aload_n 0, 1), (996, .iload_n 3, 1), (997, .iconst 1, 1), (998, .iadd, 1), (999, .iaload, 1), (1000, .invokevirtual 115, 3), (1003, .pop, 1), (1004, .goto (468), 3), (1007, .aload_n 1, 1), (1008, .aload_n 0, 1), (1009, .iload_n 3, 1), (1010, .iconst 1, 1), (1011, .iadd, 1), (1012, .iaload, 1), (1013, .invokevirtual 116, 3)]
theorem kL_law_42 {nm : String} : DEC (mLn nm) tL_law_42 := (show ∀ e ∈ tL_law_42, decode code e.1 = .ok e.2 from by decide +kernel)
def tL_law_43 : List (Nat × Instr × Nat) := [(1016, .pop, 1), (1017, .aload_n 2, 1), (1018, .aload_n 0, 1), (1019, .iload_n 3, 1), (1020, .iconst 1, 1), (1021, .iadd, 1), (1022, .iaload, 1), (1023, .invokevirtual 119, 3), (1026, .pop, 1), (1027, .goto (445), 3), (1030, .aload_n 1, 1), (1031, .invokevirtual 120, 3), (1034, .pop, 1), (1035, .aload_n 2, 1), (1036, .invokevirtual 123, 3), (1039, .pop, 1)]
theorem kL_law_43 {nm : String} : DEC (mLn nm) tL_law_43 := (show ∀ e ∈ tL_law_43, decode code e.1 = .ok e.2 from by decide +kernel)
def tL_law_44 : List (Nat × Instr × Nat) := [(1040, .goto (432), 3), (1043, .aload_n 1, 1), (1044, .invokevirtual 124, 3), (1047, .pop, 1), (1048, .aload_n 2, 1), (1049, .invokevirtual 127, 3), (1052, .pop, 1), (1053, .goto (419), 3), (1056, .aload_n 1, 1), (1057, .invokevirtual 128, 3), (1060, .pop, 1), (1061, .aload_n 2, 1), (1062, .invokevirtual 131, 3), (1065, .pop, 1), (1066, .goto (406), 3), (1069, .aload_n 1, 1)]
theorem kL_law_44 {nm : String} : DEC (mLn nm) tL_law_44 := (show ∀ e ∈ tL_law_44, decode code e.1 = .ok e.2 from by decide +kernel)
def tL_law_45 : List (Nat × Instr × Nat) := [(1070, .invokevirtual 132, 3), (1073, .pop, 1), (1074, .aload_n 2, 1), (1075, .invokevirtual 135, 3), (1078, .pop, 1), (1079, .goto (393), 3), (1082, .aload_n 1, 1), (1083, .aload_n 0, 1), (1084, .iload_n 3, 1), (1085, .iconst 1, 1), (1086, .iadd, 1), (1087, .iaload, 1), (1088, .invokevirtual 136, 3), (1091, .pop, 1), (1092, .aload_n 2, 1), (1093, .aload_n 0, 1)]
theorem kL_law_45 {nm : String} : DEC (mLn nm) tL_law_45 := (show ∀ e ∈ tL_law_45, decode code e.1 = .ok e.2 from by decide +kernel)
def tL_law_46 : List (Nat × Instr × Nat) := [(1094, .iload_n 3, 1), (1095, .iconst 1, 1), (1096, .iadd, 1), (1097, .iaload, 1), (1098, .invokevirtual 139, 3), (1101, .pop, 1), (1102, .goto (370), 3), (1105, .aload_n 1, 1), (1106, .aload_n 0, 1), (1107, .iload_n 3, 1), (1108, .iconst 1, 1), (1109, .iadd, 1), (1110, .iaload, 1), (1111, .aload_n 0, 1), (1112, .iload_n 3, 1), (1113, .iconst 2, 1)]
theorem kL_law_46 {nm : String} : DEC (mLn nm) tL_law_46 := (show ∀ e ∈ tL_law_46, decode code e.1 = .ok e.2 from by decide +kernel)
def tL_law_47 : List (Nat × Instr × Nat) := [(1114, .iadd, 1), (1115, .iaload, 1), (1116, .aload_n 0, 1), (1117, .iload_n 3, 1), (1118, .iconst 3, 1), (1119, .iadd, 1), (1120, .iaload, 1), (1121, .invokevirtual 140, 3), (1124, .pop, 1), (1125, .aload_n 2, 1), (1126, .aload_n 0, 1), (1127, .iload_n 3, 1), (1128, .iconst 1, 1), (1129, .iadd, 1), (1130, .iaload, 1), (1131, .aload_n 0, 1)]
theorem kL_law_47 {nm : String} : DEC (mLn nm) tL_law_47 := (show ∀ e ∈ tL_law_47, decode code e.1 = .ok e.2 from by decide +kernel)
def tL_law_48 : List (Nat × Instr × Nat) := [(1132, .iload_n 3, 1), (1133, .iconst 2, 1), (1134, .iadd, 1), (1135, .iaload, 1), (1136, .aload_n 0, 1), (1137, .iload_n 3, 1), (1138, .iconst 3, 1), (1139, .iadd, 1), (1140, .iaload, 1), (1141, .invokevirtual 143, 3), (1144, .pop, 1), (1145, .goto (327), 3), (1148, .aload_n 1, 1), (1149, .aload_n 0, 1), (1150, .iload_n 3, 1), (1151, .iconst 1, 1)]
theorem kL_law_48 {nm : String} : DEC (mLn nm) tL_law_48 := (show ∀ e ∈ tL_law_48, decode code e.1 = .ok e.2 from by decide +kernel)
def tL_law_49 : List (Nat × Instr × Nat) := [(1152, .iadd, 1), (1153, .iaload, 1), (1154, .invokevirtual 144, 3), (1157, .pop, 1), (1158, .aload_n 2, 1), (1159, .aload_n 0, 1), (1160, .iload_n 3, 1), (1161, .iconst 1, 1), (1162, .iadd, 1), (1163, .iaload, 1), (1164, .invokevirtual 147, 3), (1167, .pop, 1), (1168, .goto (304), 3), (1171, .aload_n 1, 1), (1172, .aload_n 0, 1), (1173, .iload_n 3, 1)]
theorem kL_law_49 {nm : String} : DEC (mLn nm) tL_law_49 := (show ∀ e ∈ tL_law_49, decode code e.1 = .ok e.2 from by decide +kernel)
def tL_law_50 : List (Nat × Instr × Nat) := [(1174, .iconst 1, 1), (1175, .iadd, 1), (1176, .iaload, 1), (1177, .aload_n 0, 1), (1178, .iload_n 3, 1), (1179, .iconst 2, 1), (1180, .iadd, 1), (1181, .iaload, 1), (1182, .invokevirtual 148, 3), (1185, .pop, 1), (1186, .aload_n 2, 1), (1187, .aload_n 0, 1), (1188, .iload_n 3, 1), (1189, .iconst 1, 1), (1190, .iadd, 1), (1191, .iaload, 1)]
theorem kL_law_50 {nm : String} : DEC (mLn nm) tL_law_50 := (show ∀ e ∈ tL_law_50, decode code e.1 = .ok e.2 from by decide +kernel)
def tL_law_51 : List (Nat × Instr × Nat) := [(1192, .aload_n 0, 1), (1193, .iload_n 3, 1), (1194, .iconst 2, 1), (1195, .iadd, 1), (1196, .iaload, 1), (1197, .invokevirtual 151, 3), (1200, .pop, 1), (1201, .goto (271), 3), (1204, .aload_n 1, 1), (1205, .aload_n 0, 1), (1206, .iload_n 3, 1), (1207, .iconst 1, 1), (1208, .iadd, 1), (1209, .iaload, 1), (1210, .aload_n 0, 1), (1211, .iload_n 3, 1)]
theorem kL_law_51 {nm : String} : DEC (mLn nm) tL_law_51 := (show ∀ e ∈ tL_law_51, decode code e.1 = .ok e.2 from by decide +kernel)
def tL_law_52 : List (Nat × Instr × Nat) := [(1212, .iconst 2, 1), (1213, .iadd, 1), (1214, .iaload, 1), (1215, .aload_n 0, 1), (1216, .iload_n 3, 1), (1217, .iconst 3, 1), (1218, .iadd, 1), (1219, .iaload, 1), (1220, .invokevirtual 152, 3), (1223, .pop, 1), (1224, .aload_n 2, 1), (1225, .aload_n 0, 1), (1226, .iload_n 3, 1), (1227, .iconst 1, 1), (1228, .iadd, 1), (1229, .iaload, 1)]
theorem kL_law_52 {nm : String} : DEC (mLn nm) tL_law_52 := (show ∀ e ∈ tL_law_52, decode code e.1 = .ok e.2 from by decide +kernel)
def tL_law_53 : List (Nat × Instr × Nat) := [(1230, .aload_n 0, 1), (1231, .iload_n 3, 1), (1232, .iconst 2, 1), (1233, .iadd, 1), (1234, .iaload, 1), (1235, .aload_n 0, 1), (1236, .iload_n 3, 1), (1237, .iconst 3, 1), (1238, .iadd, 1), (1239, .iaload, 1), (1240, .invokevirtual 155, 3), (1243, .pop, 1), (1244, .goto (228), 3), (1247, .aload_n 1, 1), (1248, .aload_n 0, 1), (1249, .iload_n 3, 1)]
theorem kL_law_53 {nm : String} : DEC (mLn nm) tL_law_53 := (show ∀ e ∈ tL_law_53, decode code e.1 = .ok e.2 from by decide +kernel)
def tL_law_54 : List (Nat × Instr × Nat) := [(1250, .iconst 1, 1), (1251, .iadd, 1), (1252, .iaload, 1), (1253, .aload_n 0, 1), (1254, .iload_n 3, 1), (1255, .iconst 2, 1), (1256, .iadd, 1), (1257, .iaload, 1), (1258, .aload_n 0, 1), (1259, .iload_n 3, 1), (1260, .iconst 3, 1), (1261, .iadd, 1), (1262, .iaload, 1), (1263, .i2l, 1), (1264, .bipush (32), 2), (1266, .lshl, 1)]
theorem kL_law_54 {nm : String} : DEC (mLn nm) tL_law_54 := (show ∀ e ∈ tL_law_54, decode code e.1 = .ok e.2 from by decide +kernel)
def tL_law_55 : List (Nat × Instr × Nat) := [(1267, .aload_n 0, 1), (1268, .iload_n 3, 1), (1269, .iconst 4, 1), (1270, .iadd, 1), (1271, .iaload, 1), (1272, .i2l, 1), (1273, .ldc2_w 156, 3), (1276, .land, 1), (1277, .lor, 1), (1278, .invokevirtual 158, 3), (1281, .pop, 1), (1282, .aload_n 2, 1), (1283, .aload_n 0, 1), (1284, .iload_n 3, 1), (1285, .iconst 1, 1), (1286, .iadd, 1)]
theorem kL_law_55 {nm : String} : DEC (mLn nm) tL_law_55 := (show ∀ e ∈ tL_law_55, decode code e.1 = .ok e.2 from by decide +kernel)
def tL_law_56 : List (Nat × Instr × Nat) := [(1287, .iaload, 1), (1288, .aload_n 0, 1), (1289, .iload_n 3, 1), (1290, .iconst 2, 1), (1291, .iadd, 1), (1292, .iaload, 1), (1293, .aload_n 0, 1), (1294, .iload_n 3, 1), (1295, .iconst 3, 1), (1296, .iadd, 1), (1297, .iaload, 1), (1298, .i2l, 1), (1299, .bipush (32), 2), (1301, .lshl, 1), (1302, .aload_n 0, 1), (1303, .iload_n 3, 1)]
theorem kL_law_56 {nm : String} : DEC (mLn nm) tL_law_56 := (show ∀ e ∈ tL_law_56, decode code e.1 = .ok e.2 from by decide +kernel)
def tL_law_57 : List (Nat × Instr × Nat) := [(1304, .iconst 4, 1), (1305, .iadd, 1), (1306, .iaload, 1), (1307, .i2l, 1), (1308, .ldc2_w 156, 3), (1311, .land, 1), (1312, .lor, 1), (1313, .invokevirtual 162, 3), (1316, .pop, 1), (1317, .goto (155), 3), (1320, .aload_n 1, 1), (1321, .aload_n 0, 1), (1322, .iload_n 3, 1), (1323, .iconst 1, 1), (1324, .iadd, 1), (1325, .iaload, 1)]
theorem kL_law_57 {nm : String} : DEC (mLn nm) tL_law_57 := (show ∀ e ∈ tL_law_57, decode code e.1 = .ok e.2 from by decide +kernel)
def tL_law_58 : List (Nat × Instr × Nat) := [(1326, .aload_n 0, 1), (1327, .iload_n 3, 1), (1328, .iconst 2, 1), (1329, .iadd, 1), (1330, .iaload, 1), (1331, .invokevirtual 163, 3), (1334, .pop2, 1), (1335, .aload_n 2, 1), (1336, .aload_n 0, 1), (1337, .iload_n 3, 1), (1338, .iconst 1, 1), (1339, .iadd, 1), (1340, .iaload, 1), (1341, .aload_n 0, 1), (1342, .iload_n 3, 1), (1343, .iconst 2, 1)]
theorem kL_law_58 {nm : String} : DEC (mLn nm) tL_law_58 := (show ∀ e ∈ tL_law_58, decode code e.1 = .ok e.2 from by decide +kernel)
def tL_law_59 : List (Nat × Instr × Nat) := [(1344, .iadd, 1), (1345, .iaload, 1), (1346, .invokevirtual 166, 3), (1349, .pop2, 1), (1350, .goto (122), 3), (1353, .aload_n 1, 1), (1354, .aload_n 0, 1), (1355, .iload_n 3, 1), (1356, .iconst 1, 1), (1357, .iadd, 1), (1358, .iaload, 1), (1359, .aload_n 0, 1), (1360, .iload_n 3, 1), (1361, .iconst 2, 1), (1362, .iadd, 1), (1363, .iaload, 1)]
theorem kL_law_59 {nm : String} : DEC (mLn nm) tL_law_59 := (show ∀ e ∈ tL_law_59, decode code e.1 = .ok e.2 from by decide +kernel)
def tL_law_60 : List (Nat × Instr × Nat) := [(1364, .aload_n 0, 1), (1365, .iload_n 3, 1), (1366, .iconst 3, 1), (1367, .iadd, 1), (1368, .iaload, 1), (1369, .aload_n 0, 1), (1370, .iload_n 3, 1), (1371, .iconst 4, 1), (1372, .iadd, 1), (1373, .iaload, 1), (1374, .aload_n 0, 1), (1375, .iload_n 3, 1), (1376, .iconst 5, 1), (1377, .iadd, 1), (1378, .iaload, 1), (1379, .invokevirtual 167, 3)]
theorem kL_law_60 {nm : String} : DEC (mLn nm) tL_law_60 := (show ∀ e ∈ tL_law_60, decode code e.1 = .ok e.2 from by decide +kernel)
def tL_law_61 : List (Nat × Instr × Nat) := [(1382, .pop, 1), (1383, .aload_n 2, 1), (1384, .aload_n 0, 1), (1385, .iload_n 3, 1), (1386, .iconst 1, 1), (1387, .iadd, 1), (1388, .iaload, 1), (1389, .aload_n 0, 1), (1390, .iload_n 3, 1), (1391, .iconst 2, 1), (1392, .iadd, 1), (1393, .iaload, 1), (1394, .aload_n 0, 1), (1395, .iload_n 3, 1), (1396, .iconst 3, 1), (1397, .iadd, 1)]
theorem kL_law_61 {nm : String} : DEC (mLn nm) tL_law_61 := (show ∀ e ∈ tL_law_61, decode code e.1 = .ok e.2 from by decide +kernel)
def tL_law_62 : List (Nat × Instr × Nat) := [(1398, .iaload, 1), (1399, .aload_n 0, 1), (1400, .iload_n 3, 1), (1401, .iconst 4, 1), (1402, .iadd, 1), (1403, .iaload, 1), (1404, .aload_n 0, 1), (1405, .iload_n 3, 1), (1406, .iconst 5, 1), (1407, .iadd, 1), (1408, .iaload, 1), (1409, .invokevirtual 171, 3), (1412, .pop, 1), (1413, .goto (59), 3), (1416, .aload_n 1, 1), (1417, .aload_n 0, 1)]
theorem kL_law_62 {nm : String} : DEC (mLn nm) tL_law_62 := (show ∀ e ∈ tL_law_62, decode code e.1 = .ok e.2 from by decide +kernel)
def tL_law_63 : List (Nat × Instr × Nat) := [(1418, .iload_n 3, 1), (1419, .iconst 1, 1), (1420, .iadd, 1), (1421, .iaload, 1), (1422, .aload_n 0, 1), (1423, .iload_n 3, 1), (1424, .iconst 2, 1), (1425, .iadd, 1), (1426, .iaload, 1), (1427, .invokevirtual 172, 3), (1430, .pop, 1), (1431, .aload_n 2, 1), (1432, .aload_n 0, 1), (1433, .iload_n 3, 1), (1434, .iconst 1, 1), (1435, .iadd, 1)]
theorem kL_law_63 {nm : String} : DEC (mLn nm) tL_law_63 := (show ∀ e ∈ tL_law_63, decode code e.1 = .ok e.2 from by decide +kernel)
def tL_law_64 : List (Nat × Instr × Nat) := [(1436, .iaload, 1), (1437, .aload_n 0, 1), (1438, .iload_n 3, 1), (1439, .iconst 2, 1), (1440, .iadd, 1), (1441, .iaload, 1), (1442, .invokevirtual 175, 3), (1445, .pop, 1), (1446, .goto (26), 3), (1449, .aload_n 1, 1), (1450, .aload_n 0, 1), (1451, .iload_n 3, 1), (1452, .iconst 1, 1), (1453, .iadd, 1), (1454, .iaload, 1), (1455, .invokevirtual 176, 3)]
theorem kL_law_64 {nm : String} : DEC (mLn nm) tL_law_64 := (show ∀ e ∈ tL_law_64, decode code e.1 = .ok e.2 from by decide +kernel)
def tL_law_65 : List (Nat × Instr × Nat) := [(1458, .pop, 1), (1459, .aload_n 2, 1), (1460, .aload_n 0, 1), (1461, .iload_n 3, 1), (1462, .iconst 1, 1), (1463, .iadd, 1), (1464, .iaload, 1), (1465, .invokevirtual 179, 3), (1468, .pop, 1), (1469, .goto (3), 3), (1472, .iinc 3 (6), 3), (1475, .goto (-1457), 3), (1478, .iconst 1, 1), (1479, .ireturn, 1)]
theorem kL_law_65 {nm : String} : DEC (mLn nm) tL_law_65 := (show ∀ e ∈ tL_law_65, decode code e.1 = .ok e.2 from by decide +kernel)
theorem dL_law_0 {nm : String} : DI (mLn nm) 0 (.new 7) 3 3 := ⟨(kL_law_0 (nm := nm)).at 0 rfl, rfl⟩
theorem dL_law_3 {nm : String} : DI (mLn nm) 3 (.dup) 1 4 := ⟨(kL_law_0 (nm := nm)).at 1 rfl, rfl⟩
theorem dL_law_4 {nm : String} : DI (mLn nm) 4 (.invokespecial 9) 3 7 := ⟨(kL_law_0 (nm := nm)).at 2 rfl, rfl⟩
theorem dL_law_7 {nm : String} : DSa (mLn nm) 7 1 8 := ⟨Nat.le_of_ble_eq_true rfl, Or.inl ⟨1, (kL_law_0 (nm := nm)).at 3 rfl, rfl, rfl⟩⟩
theorem dL_law_8 {nm : String} : DI (mLn nm) 8 (.new 10) 3 11 := ⟨(kL_law_0 (nm := nm)).at 4 rfl, rfl⟩
theorem dL_law_11 {nm : String} : DI (mLn nm) 11 (.dup) 1 12 := ⟨(kL_law_0 (nm := nm)).at 5 rfl, rfl⟩
theorem dL_law_12 {nm : String} : DI (mLn nm) 12 (.invokespecial 12) 3 15 := ⟨(kL_law_0 (nm := nm)).at 6 rfl, rfl⟩
theorem dL_law_15 {nm : String} : DSa (mLn nm) 15 2 16 := ⟨Nat.le_of_ble_eq_true rfl, Or.inl ⟨2, (kL_law_0 (nm := nm)).at 7 rfl, rfl, rfl⟩⟩
theorem dL_law_16 {nm : String} : DC (mLn nm) 16 0 17 := Or.inl ⟨0, (kL_law_0 (nm := nm)).at 8 rfl, by decide, rfl⟩
theorem dL_law_17 {nm : String} : DSi (mLn nm) 17 3 18 := ⟨Nat.le_of_ble_eq_true rfl, Or.inl ⟨3, (kL_law_0 (nm := nm)).at 9 rfl, rfl, rfl⟩⟩
theorem dL_law_18 {nm : String} : DLi (mLn nm) 18 3 19 := Or.inl ⟨3, (kL_law_0 (nm := nm)).at 10 rfl, rfl, rfl⟩
theorem dL_law_19 {nm : String} : DLa (mLn nm) 19 0 20 := Or.inl ⟨0, (kL_law_0 (nm := nm)).at 11 rfl, rfl, rfl⟩
theorem dL_law_20 {nm : String} : DI (mLn nm) 20 (.arraylength) 1 21 := ⟨(kL_law_0 (nm := nm)).at 12 rfl, rfl⟩
theorem dL_law_21 {nm : String} : DC (mLn nm) 21 6 23 := Or.inr (Or.inl ⟨6, (kL_law_0 (nm := nm)).at 13 rfl, by decide, rfl⟩)
theorem dL_law_23 {nm : String} : DI (mLn nm) 23 (.isub) 1 24 := ⟨(kL_law_0 (nm := nm)).at 14 rfl, rfl⟩
theorem dL_law_24 {nm : String} : DB (mLn nm) 24 (.if_icmp .gt (1454)) (1454) 27 1478 := ⟨(kL_law_0 (nm := nm)).at 15 rfl, rfl, rfl⟩
theorem dL_law_27 {nm : String} : DLa (mLn nm) 27 0 28 := Or.inl ⟨0, (kL_law_1 (nm := nm)).at 0 rfl, rfl, rfl⟩
theorem dL_law_28 {nm : String} : DLi (mLn nm) 28 3 29 := Or.inl ⟨3, (kL_law_1 (nm := nm)).at 1 rfl, rfl, rfl⟩
theorem dL_law_29 {nm : String} : DI (mLn nm) 29 (.iaload) 1 30 := ⟨(kL_law_1 (nm := nm)).at 2 rfl, rfl⟩
theorem dL_law_30 {nm : String} : DC (mLn nm) 30 63 32 := Or.inr (Or.inl ⟨63, (kL_law_1 (nm := nm)).at 3 rfl, by decide, rfl⟩)
theorem dL_law_32 {nm : String} : DI (mLn nm) 32 (.iand) 1 33 := ⟨(kL_law_1 (nm := nm)).at 4 rfl, rfl⟩
theorem dL_law_33 {nm : String} : decode (mLn nm).1 33 = .ok (.tableswitch (1439) (0) (38) #[171, 204, 247, 290, 323, 346, 359, 382, 405, 458, 501, 534, 567, 600, 634, 677, 710, 743, 776, 809, 842, 885, 928, 951, 974, 997, 1010, 1023, 1036, 1049, 1072, 1115, 1138, 1171, 1214, 1287, 1320, 1383, 1416], 171) := (kL_law_1 (nm := nm)).at 5 rfl
theorem dL_law_204 {nm : String} : DLa (mLn nm) 204 1 205 := Or.inl ⟨1, (kL_law_1 (nm := nm)).at 6 rfl, rfl, rfl⟩
theorem dL_law_205 {nm : String} : DLa (mLn nm) 205 0 206 := Or.inl ⟨0, (kL_law_1 (nm := nm)).at 7 rfl, rfl, rfl⟩
theorem dL_law_206 {nm : String} : DLi (mLn nm) 206 3 207 := Or.inl ⟨3, (kL_law_1 (nm := nm)).at 8 rfl, rfl, rfl⟩
theorem dL_law_207 {nm : String} : DC (mLn nm) 207 1 208 := Or.inl ⟨1, (kL_law_1 (nm := nm)).at 9 rfl, by decide, rfl⟩
theorem dL_law_208 {nm : String} : DI (mLn nm) 208 (.iadd) 1 209 := ⟨(kL_law_1 (nm := nm)).at 10 rfl, rfl⟩
theorem dL_law_209 {nm : String} : DI (mLn nm) 209 (.iaload) 1 210 := ⟨(kL_law_1 (nm := nm)).at 11 rfl, rfl⟩
theorem dL_law_210 {nm : String} : DLa (mLn nm) 210 0 211 := Or.inl ⟨0, (kL_law_1 (nm := nm)).at 12 rfl, rfl, rfl⟩
theorem dL_law_211 {nm : String} : DLi (mLn nm) 211 3 212 := Or.inl ⟨3, (kL_law_1 (nm := nm)).at 13 rfl, rfl, rfl⟩
theorem dL_law_212 {nm : String} : DC (mLn nm) 212 2 213 := Or.inl ⟨2, (kL_law_1 (nm := nm)).at 14 rfl, by decide, rfl⟩
theorem dL_law_213 {nm : String} : DI (mLn nm) 213 (.iadd) 1 214 := ⟨(kL_law_1 (nm := nm)).at 15 rfl, rfl⟩
theorem dL_law_214 {nm : String} : DI (mLn nm) 214 (.iaload) 1 215 := ⟨(kL_law_2 (nm := nm)).at 0 rfl, rfl⟩
theorem dL_law_215 {nm : String} : DI (mLn nm) 215 (.invokevirtual 13) 3 218 := ⟨(kL_law_2 (nm := nm)).at 1 rfl, rfl⟩
theorem dL_law_218 {nm : String} : DI (mLn nm) 218 (.pop) 1 219 := ⟨(kL_law_2 (nm := nm)).at 2 rfl, rfl⟩
theorem dL_law_219 {nm : String} : DLa (mLn nm) 219 2 220 := Or.inl ⟨2, (kL_law_2 (nm := nm)).at 3 rfl, rfl, rfl⟩
theorem dL_law_220 {nm : String} : DLa (mLn nm) 220 0 221 := Or.inl ⟨0, (kL_law_2 (nm := nm)).at 4 rfl, rfl, rfl⟩
theorem dL_law_221 {nm : String} : DLi (mLn nm) 221 3 222 := Or.inl ⟨3, (kL_law_2 (nm := nm)).at 5 rfl, rfl, rfl⟩
theorem dL_law_222 {nm : String} : DC (mLn nm) 222 1 223 := Or.inl ⟨1, (kL_law_2 (nm := nm)).at 6 rfl, by decide, rfl⟩
theorem dL_law_223 {nm : String} : DI (mLn nm) 223 (.iadd) 1 224 := ⟨(kL_law_2 (nm := nm)).at 7 rfl, rfl⟩
theorem dL_law_224 {nm : String} : DI (mLn nm) 224 (.iaload) 1 225 := ⟨(kL_law_2 (nm := nm)).at 8 rfl, rfl⟩
theorem dL_law_225 {nm : String} : DLa (mLn nm) 225 0 226 := Or.inl ⟨0, (kL_law_2 (nm := nm)).at 9 rfl, rfl, rfl⟩
theorem dL_law_226 {nm : String} : DLi (mLn nm) 226 3 227 := Or.inl ⟨3, (kL_law_2 (nm := nm)).at 10 rfl, rfl, rfl⟩
theorem dL_law_227 {nm : String} : DC (mLn nm) 227 2 228 := Or.inl ⟨2, (kL_law_2 (nm := nm)).at 11 rfl, by decide, rfl⟩
theorem dL_law_228 {nm : String} : DI (mLn nm) 228 (.iadd) 1 229 := ⟨(kL_law_2 (nm := nm)).at 12 rfl, rfl⟩
theorem dL_law_229 {nm : String} : DI (mLn nm) 229 (.iaload) 1 230 := ⟨(kL_law_2 (nm := nm)).at 13 rfl, rfl⟩
theorem dL_law_230 {nm : String} : DI (mLn nm) 230 (.invokevirtual 17) 3 233 := ⟨(kL_law_2 (nm := nm)).at 14 rfl, rfl⟩
theorem dL_law_233 {nm : String} : DI (mLn nm) 233 (.pop) 1 234 := ⟨(kL_law_2 (nm := nm)).at 15 rfl, rfl⟩
theorem dL_law_234 {nm : String} : DB (mLn nm) 234 (.goto (1238)) (1238) 237 1472 := ⟨(kL_law_3 (nm := nm)).at 0 rfl, rfl, rfl⟩
theorem dL_law_237 {nm : String} : DLa (mLn nm) 237 1 238 := Or.inl ⟨1, (kL_law_3 (nm := nm)).at 1 rfl, rfl, rfl⟩
theorem dL_law_238 {nm : String} : DLa (mLn nm) 238 0 239 := Or.inl ⟨0, (kL_law_3 (nm := nm)).at 2 rfl, rfl, rfl⟩
theorem dL_law_239 {nm : String} : DLi (mLn nm) 239 3 240 := Or.inl ⟨3, (kL_law_3 (nm := nm)).at 3 rfl, rfl, rfl⟩
theorem dL_law_240 {nm : String} : DC (mLn nm) 240 1 241 := Or.inl ⟨1, (kL_law_3 (nm := nm)).at 4 rfl, by decide, rfl⟩
theorem dL_law_241 {nm : String} : DI (mLn nm) 241 (.iadd) 1 242 := ⟨(kL_law_3 (nm := nm)).at 5 rfl, rfl⟩
theorem dL_law_242 {nm : String} : DI (mLn nm) 242 (.iaload) 1 243 := ⟨(kL_law_3 (nm := nm)).at 6 rfl, rfl⟩
theorem dL_law_243 {nm : String} : DLa (mLn nm) 243 0 244 := Or.inl ⟨0, (kL_law_3 (nm := nm)).at 7 rfl, rfl, rfl⟩
theorem dL_law_244 {nm : String} : DLi (mLn nm) 244 3 245 := Or.inl ⟨3, (kL_law_3 (nm := nm)).at 8 rfl, rfl, rfl⟩
theorem dL_law_245 {nm : String} : DC (mLn nm) 245 2 246 := Or.inl ⟨2, (kL_law_3 (nm := nm)).at 9 rfl, by decide, rfl⟩
theorem dL_law_246 {nm : String} : DI (mLn nm) 246 (.iadd) 1 247 := ⟨(kL_law_3 (nm := nm)).at 10 rfl, rfl⟩
theorem dL_law_247 {nm : String} : DI (mLn nm) 247 (.iaload) 1 248 := ⟨(kL_law_3 (nm := nm)).at 11 rfl, rfl⟩
theorem dL_law_248 {nm : String} : DLa (mLn nm) 248 0 249 := Or.inl ⟨0, (kL_law_3 (nm := nm)).at 12 rfl, rfl, rfl⟩
theorem dL_law_249 {nm : String} : DLi (mLn nm) 249 3 250 := Or.inl ⟨3, (kL_law_3 (nm := nm)).at 13 rfl, rfl, rfl⟩
theorem dL_law_250 {nm : String} : DC (mLn nm) 250 3 251 := Or.inl ⟨3, (kL_law_3 (nm := nm)).at 14 rfl, by decide, rfl⟩
theorem dL_law_251 {nm : String} : DI (mLn nm) 251 (.iadd) 1 252 := ⟨(kL_law_3 (nm := nm)).at 15 rfl, rfl⟩
theorem dL_law_252 {nm : String} : DI (mLn nm) 252 (.iaload) 1 253 := ⟨(kL_law_4 (nm := nm)).at 0 rfl, rfl⟩
theorem dL_law_253 {nm : String} : DI (mLn nm) 253 (.invokevirtual 18) 3 256 := ⟨(kL_law_4 (nm := nm)).at 1 rfl, rfl⟩
theorem dL_law_256 {nm : String} : DI (mLn nm) 256 (.pop) 1 257 := ⟨(kL_law_4 (nm := nm)).at 2 rfl, rfl⟩
theorem dL_law_257 {nm : String} : DLa (mLn nm) 257 2 258 := Or.inl ⟨2, (kL_law_4 (nm := nm)).at 3 rfl, rfl, rfl⟩
theorem dL_law_258 {nm : String} : DLa (mLn nm) 258 0 259 := Or.inl ⟨0, (kL_law_4 (nm := nm)).at 4 rfl, rfl, rfl⟩
theorem dL_law_259 {nm : String} : DLi (mLn nm) 259 3 260 := Or.inl ⟨3, (kL_law_4 (nm := nm)).at 5 rfl, rfl, rfl⟩
theorem dL_law_260 {nm : String} : DC (mLn nm) 260 1 261 := Or.inl ⟨1, (kL_law_4 (nm := nm)).at 6 rfl, by decide, rfl⟩
theorem dL_law_261 {nm : String} : DI (mLn nm) 261 (.iadd) 1 262 := ⟨(kL_law_4 (nm := nm)).at 7 rfl, rfl⟩
theorem dL_law_262 {nm : String} : DI (mLn nm) 262 (.iaload) 1 263 := ⟨(kL_law_4 (nm := nm)).at 8 rfl, rfl⟩
theorem dL_law_263 {nm : String} : DLa (mLn nm) 263 0 264 := Or.inl ⟨0, (kL_law_4 (nm := nm)).at 9 rfl, rfl, rfl⟩
theorem dL_law_264 {nm : String} : DLi (mLn nm) 264 3 265 := Or.inl ⟨3, (kL_law_4 (nm := nm)).at 10 rfl, rfl, rfl⟩
theorem dL_law_265 {nm : String} : DC (mLn nm) 265 2 266 := Or.inl ⟨2, (kL_law_4 (nm := nm)).at 11 rfl, by decide, rfl⟩
theorem dL_law_266 {nm : String} : DI (mLn nm) 266 (.iadd) 1 267 := ⟨(kL_law_4 (nm := nm)).at 12 rfl, rfl⟩
theorem dL_law_267 {nm : String} : DI (mLn nm) 267 (.iaload) 1 268 := ⟨(kL_law_4 (nm := nm)).at 13 rfl, rfl⟩
theorem dL_law_268 {nm : String} : DLa (mLn nm) 268 0 269 := Or.inl ⟨0, (kL_law_4 (nm := nm)).at 14 rfl, rfl, rfl⟩
theorem dL_law_269 {nm : String} : DLi (mLn nm) 269 3 270 := Or.inl ⟨3, (kL_law_4 (nm := nm)).at 15 rfl, rfl, rfl⟩
theorem dL_law_270 {nm : String} : DC (mLn nm) 270 3 271 := Or.inl ⟨3, (kL_law_5 (nm := nm)).at 0 rfl, by decide, rfl⟩
theorem dL_law_271 {nm : String} : DI (mLn nm) 271 (.iadd) 1 272 := ⟨(kL_law_5 (nm := nm)).at 1 rfl, rfl⟩
theorem dL_law_272 {nm : String} : DI (mLn nm) 272 (.iaload) 1 273 := ⟨(kL_law_5 (nm := nm)).at 2 rfl, rfl⟩
theorem dL_law_273 {nm : String} : DI (mLn nm) 273 (.invokevirtual 22) 3 276 := ⟨(kL_law_5 (nm := nm)).at 3 rfl, rfl⟩
theorem dL_law_276 {nm : String} : DI (mLn nm) 276 (.pop) 1 277 := ⟨(kL_law_5 (nm := nm)).at 4 rfl, rfl⟩
theorem dL_law_277 {nm : String} : DB (mLn nm) 277 (.goto (1195)) (1195) 280 1472 := ⟨(kL_law_5 (nm := nm)).at 5 rfl, rfl, rfl⟩
theorem dL_law_280 {nm : String} : DLa (mLn nm) 280 1 281 := Or.inl ⟨1, (kL_law_5 (nm := nm)).at 6 rfl, rfl, rfl⟩
theorem dL_law_281 {nm : String} : DLa (mLn nm) 281 0 282 := Or.inl ⟨0, (kL_law_5 (nm := nm)).at 7 rfl, rfl, rfl⟩
theorem dL_law_282 {nm : String} : DLi (mLn nm) 282 3 283 := Or.inl ⟨3, (kL_law_5 (nm := nm)).at 8 rfl, rfl, rfl⟩
theorem dL_law_283 {nm : String} : DC (mLn nm) 283 1 284 := Or.inl ⟨1, (kL_law_5 (nm := nm)).at 9 rfl, by decide, rfl⟩
theorem dL_law_284 {nm : String} : DI (mLn nm) 284 (.iadd) 1 285 := ⟨(kL_law_5 (nm := nm)).at 10 rfl, rfl⟩
theorem dL_law_285 {nm : String} : DI (mLn nm) 285 (.iaload) 1 286 := ⟨(kL_law_5 (nm := nm)).at 11 rfl, rfl⟩
theorem dL_law_286 {nm : String} : DLa (mLn nm) 286 0 287 := Or.inl ⟨0, (kL_law_5 (nm := nm)).at 12 rfl, rfl, rfl⟩
theorem dL_law_287 {nm : String} : DLi (mLn nm) 287 3 288 := Or.inl ⟨3, (kL_law_5 (nm := nm)).at 13 rfl, rfl, rfl⟩
theorem dL_law_288 {nm : String} : DC (mLn nm) 288 2 289 := Or.inl ⟨2, (kL_law_5 (nm := nm)).at 14 rfl, by decide, rfl⟩
theorem dL_law_289 {nm : String} : DI (mLn nm) 289 (.iadd) 1 290 := ⟨(kL_law_5 (nm := nm)).at 15 rfl, rfl⟩
theorem dL_law_290 {nm : String} : DI (mLn nm) 290 (.iaload) 1 291 := ⟨(kL_law_6 (nm := nm)).at 0 rfl, rfl⟩
theorem dL_law_291 {nm : String} : DLa (mLn nm) 291 0 292 := Or.inl ⟨0, (kL_law_6 (nm := nm)).at 1 rfl, rfl, rfl⟩
theorem dL_law_292 {nm : String} : DLi (mLn nm) 292 3 293 := Or.inl ⟨3, (kL_law_6 (nm := nm)).at 2 rfl, rfl, rfl⟩
theorem dL_law_293 {nm : String} : DC (mLn nm) 293 3 294 := Or.inl ⟨3, (kL_law_6 (nm := nm)).at 3 rfl, by decide, rfl⟩
theorem dL_law_294 {nm : String} : DI (mLn nm) 294 (.iadd) 1 295 := ⟨(kL_law_6 (nm := nm)).at 4 rfl, rfl⟩
theorem dL_law_295 {nm : String} : DI (mLn nm) 295 (.iaload) 1 296 := ⟨(kL_law_6 (nm := nm)).at 5 rfl, rfl⟩
theorem dL_law_296 {nm : String} : DI (mLn nm) 296 (.invokevirtual 23) 3 299 := ⟨(kL_law_6 (nm := nm)).at 6 rfl, rfl⟩
theorem dL_law_299 {nm : String} : DI (mLn nm) 299 (.pop) 1 300 := ⟨(kL_law_6 (nm := nm)).at 7 rfl, rfl⟩
theorem dL_law_300 {nm : String} : DLa (mLn nm) 300 2 301 := Or.inl ⟨2, (kL_law_6 (nm := nm)).at 8 rfl, rfl, rfl⟩
theorem dL_law_301 {nm : String} : DLa (mLn nm) 301 0 302 := Or.inl ⟨0, (kL_law_6 (nm := nm)).at 9 rfl, rfl, rfl⟩
theorem dL_law_302 {nm : String} : DLi (mLn nm) 302 3 303 := Or.inl ⟨3, (kL_law_6 (nm := nm)).at 10 rfl, rfl, rfl⟩
theorem dL_law_303 {nm : String} : DC (mLn nm) 303 1 304 := Or.inl ⟨1, (kL_law_6 (nm := nm)).at 11 rfl, by decide, rfl⟩
theorem dL_law_304 {nm : String} : DI (mLn nm) 304 (.iadd) 1 305 := ⟨(kL_law_6 (nm := nm)).at 12 rfl, rfl⟩
theorem dL_law_305 {nm : String} : DI (mLn nm) 305 (.iaload) 1 306 := ⟨(kL_law_6 (nm := nm)).at 13 rfl, rfl⟩
theorem dL_law_306 {nm : String} : DLa (mLn nm) 306 0 307 := Or.inl ⟨0, (kL_law_6 (nm := nm)).at 14 rfl, rfl, rfl⟩
theorem dL_law_307 {nm : String} : DLi (mLn nm) 307 3 308 := Or.inl ⟨3, (kL_law_6 (nm := nm)).at 15 rfl, rfl, rfl⟩
theorem dL_law_308 {nm : String} : DC (mLn nm) 308 2 309 := Or.inl ⟨2, (kL_law_7 (nm := nm)).at 0 rfl, by decide, rfl⟩
theorem dL_law_309 {nm : String} : DI (mLn nm) 309 (.iadd) 1 310 := ⟨(kL_law_7 (nm := nm)).at 1 rfl, rfl⟩
theorem dL_law_310 {nm : String} : DI (mLn nm) 310 (.iaload) 1 311 := ⟨(kL_law_7 (nm := nm)).at 2 rfl, rfl⟩
theorem dL_law_311 {nm : String} : DLa (mLn nm) 311 0 312 := Or.inl ⟨0, (kL_law_7 (nm := nm)).at 3 rfl, rfl, rfl⟩
theorem dL_law_312 {nm : String} : DLi (mLn nm) 312 3 313 := Or.inl ⟨3, (kL_law_7 (nm := nm)).at 4 rfl, rfl, rfl⟩
theorem dL_law_313 {nm : String} : DC (mLn nm) 313 3 314 := Or.inl ⟨3, (kL_law_7 (nm := nm)).at 5 rfl, by decide, rfl⟩
theorem dL_law_314 {nm : String} : DI (mLn nm) 314 (.iadd) 1 315 := ⟨(kL_law_7 (nm := nm)).at 6 rfl, rfl⟩
theorem dL_law_315 {nm : String} : DI (mLn nm) 315 (.iaload) 1 316 := ⟨(kL_law_7 (nm := nm)).at 7 rfl, rfl⟩
theorem dL_law_316 {nm : String} : DI (mLn nm) 316 (.invokevirtual 26) 3 319 := ⟨(kL_law_7 (nm := nm)).at 8 rfl, rfl⟩
theorem dL_law_319 {nm : String} : DI (mLn nm) 319 (.pop) 1 320 := ⟨(kL_law_7 (nm := nm)).at 9 rfl, rfl⟩
theorem dL_law_320 {nm : String} : DB (mLn nm) 320 (.goto (1152)) (1152) 323 1472 := ⟨(kL_law_7 (nm := nm)).at 10 rfl, rfl, rfl⟩
theorem dL_law_323 {nm : String} : DLa (mLn nm) 323 1 324 := Or.inl ⟨1, (kL_law_7 (nm := nm)).at 11 rfl, rfl, rfl⟩
theorem dL_law_324 {nm : String} : DLa (mLn nm) 324 0 325 := Or.inl ⟨0, (kL_law_7 (nm := nm)).at 12 rfl, rfl, rfl⟩
theorem dL_law_325 {nm : String} : DLi (mLn nm) 325 3 326 := Or.inl ⟨3, (kL_law_7 (nm := nm)).at 13 rfl, rfl, rfl⟩
theorem dL_law_326 {nm : String} : DC (mLn nm) 326 1 327 := Or.inl ⟨1, (kL_law_7 (nm := nm)).at 14 rfl, by decide, rfl⟩
theorem dL_law_327 {nm : String} : DI (mLn nm) 327 (.iadd) 1 328 := ⟨(kL_law_7 (nm := nm)).at 15 rfl, rfl⟩
theorem dL_law_328 {nm : String} : DI (mLn nm) 328 (.iaload) 1 329 := ⟨(kL_law_8 (nm := nm)).at 0 rfl, rfl⟩
theorem dL_law_329 {nm : String} : DLa (mLn nm) 329 0 330 := Or.inl ⟨0, (kL_law_8 (nm := nm)).at 1 rfl, rfl, rfl⟩
theorem dL_law_330 {nm : String} : DLi (mLn nm) 330 3 331 := Or.inl ⟨3, (kL_law_8 (nm := nm)).at 2 rfl, rfl, rfl⟩
theorem dL_law_331 {nm : String} : DC (mLn nm) 331 2 332 := Or.inl ⟨2, (kL_law_8 (nm := nm)).at 3 rfl, by decide, rfl⟩
theorem dL_law_332 {nm : String} : DI (mLn nm) 332 (.iadd) 1 333 := ⟨(kL_law_8 (nm := nm)).at 4 rfl, rfl⟩
theorem dL_law_333 {nm : String} : DI (mLn nm) 333 (.iaload) 1 334 := ⟨(kL_law_8 (nm := nm)).at 5 rfl, rfl⟩
theorem dL_law_334 {nm : String} : DI (mLn nm) 334 (.invokevirtual 27) 3 337 := ⟨(kL_law_8 (nm := nm)).at 6 rfl, rfl⟩
theorem dL_law_337 {nm : String} : DI (mLn nm) 337 (.pop) 1 338 := ⟨(kL_law_8 (nm := nm)).at 7 rfl, rfl⟩
theorem dL_law_338 {nm : String} : DLa (mLn nm) 338 2 339 := Or.inl ⟨2, (kL_law_8 (nm := nm)).at 8 rfl, rfl, rfl⟩
theorem dL_law_339 {nm : String} : DLa (mLn nm) 339 0 340 := Or.inl ⟨0, (kL_law_8 (nm := nm)).at 9 rfl, rfl, rfl⟩
theorem dL_law_340 {nm : String} : DLi (mLn nm) 340 3 341 := Or.inl ⟨3, (kL_law_8 (nm := nm)).at 10 rfl, rfl, rfl⟩
theorem dL_law_341 {nm : String} : DC (mLn nm) 341 1 342 := Or.inl ⟨1, (kL_law_8 (nm := nm)).at 11 rfl, by decide, rfl⟩
theorem dL_law_342 {nm : String} : DI (mLn nm) 342 (.iadd) 1 343 := ⟨(kL_law_8 (nm := nm)).at 12 rfl, rfl⟩
theorem dL_law_343 {nm : String} : DI (mLn nm) 343 (.iaload) 1 344 := ⟨(kL_law_8 (nm := nm)).at 13 rfl, rfl⟩
theorem dL_law_344 {nm : String} : DLa (mLn nm) 344 0 345 := Or.inl ⟨0, (kL_law_8 (nm := nm)).at 14 rfl, rfl, rfl⟩
theorem dL_law_345 {nm : String} : DLi (mLn nm) 345 3 346 := Or.inl ⟨3, (kL_law_8 (nm := nm)).at 15 rfl, rfl, rfl⟩
theorem dL_law_346 {nm : String} : DC (mLn nm) 346 2 347 := Or.inl ⟨2, (kL_law_9 (nm := nm)).at 0 rfl, by decide, rfl⟩
theorem dL_law_347 {nm : String} : DI (mLn nm) 347 (.iadd) 1 348 := ⟨(kL_law_9 (nm := nm)).at 1 rfl, rfl⟩
theorem dL_law_348 {nm : String} : DI (mLn nm) 348 (.iaload) 1 349 := ⟨(kL_law_9 (nm := nm)).at 2 rfl, rfl⟩
theorem dL_law_349 {nm : String} : DI (mLn nm) 349 (.invokevirtual 30) 3 352 := ⟨(kL_law_9 (nm := nm)).at 3 rfl, rfl⟩
theorem dL_law_352 {nm : String} : DI (mLn nm) 352 (.pop) 1 353 := ⟨(kL_law_9 (nm := nm)).at 4 rfl, rfl⟩
theorem dL_law_353 {nm : String} : DB (mLn nm) 353 (.goto (1119)) (1119) 356 1472 := ⟨(kL_law_9 (nm := nm)).at 5 rfl, rfl, rfl⟩
theorem dL_law_356 {nm : String} : DLa (mLn nm) 356 1 357 := Or.inl ⟨1, (kL_law_9 (nm := nm)).at 6 rfl, rfl, rfl⟩
theorem dL_law_357 {nm : String} : DLa (mLn nm) 357 0 358 := Or.inl ⟨0, (kL_law_9 (nm := nm)).at 7 rfl, rfl, rfl⟩
theorem dL_law_358 {nm : String} : DLi (mLn nm) 358 3 359 := Or.inl ⟨3, (kL_law_9 (nm := nm)).at 8 rfl, rfl, rfl⟩
theorem dL_law_359 {nm : String} : DC (mLn nm) 359 1 360 := Or.inl ⟨1, (kL_law_9 (nm := nm)).at 9 rfl, by decide, rfl⟩
theorem dL_law_360 {nm : String} : DI (mLn nm) 360 (.iadd) 1 361 := ⟨(kL_law_9 (nm := nm)).at 10 rfl, rfl⟩
theorem dL_law_361 {nm : String} : DI (mLn nm) 361 (.iaload) 1 362 := ⟨(kL_law_9 (nm := nm)).at 11 rfl, rfl⟩
theorem dL_law_362 {nm : String} : DI (mLn nm) 362 (.invokevirtual 31) 3 365 := ⟨(kL_law_9 (nm := nm)).at 12 rfl, rfl⟩
theorem dL_law_365 {nm : String} : DI (mLn nm) 365 (.pop) 1 366 := ⟨(kL_law_9 (nm := nm)).at 13 rfl, rfl⟩
theorem dL_law_366 {nm : String} : DLa (mLn nm) 366 2 367 := Or.inl ⟨2, (kL_law_9 (nm := nm)).at 14 rfl, rfl, rfl⟩
theorem dL_law_367 {nm : String} : DLa (mLn nm) 367 0 368 := Or.inl ⟨0, (kL_law_9 (nm := nm)).at 15 rfl, rfl, rfl⟩
theorem dL_law_368 {nm : String} : DLi (mLn nm) 368 3 369 := Or.inl ⟨3, (kL_law_10 (nm := nm)).at 0 rfl, rfl, rfl⟩
theorem dL_law_369 {nm : String} : DC (mLn nm) 369 1 370 := Or.inl ⟨1, (kL_law_10 (nm := nm)).at 1 rfl, by decide, rfl⟩
theorem dL_law_370 {nm : String} : DI (mLn nm) 370 (.iadd) 1 371 := ⟨(kL_law_10 (nm := nm)).at 2 rfl, rfl⟩
theorem dL_law_371 {nm : String} : DI (mLn nm) 371 (.iaload) 1 372 := ⟨(kL_law_10 (nm := nm)).at 3 rfl, rfl⟩
theorem dL_law_372 {nm : String} : DI (mLn nm) 372 (.invokevirtual 35) 3 375 := ⟨(kL_law_10 (nm := nm)).at 4 rfl, rfl⟩
theorem dL_law_375 {nm : String} : DI (mLn nm) 375 (.pop) 1 376 := ⟨(kL_law_10 (nm := nm)).at 5 rfl, rfl⟩
theorem dL_law_376 {nm : String} : DB (mLn nm) 376 (.goto (1096)) (1096) 379 1472 := ⟨(kL_law_10 (nm := nm)).at 6 rfl, rfl, rfl⟩
theorem dL_law_379 {nm : String} : DLa (mLn nm) 379 1 380 := Or.inl ⟨1, (kL_law_10 (nm := nm)).at 7 rfl, rfl, rfl⟩
theorem dL_law_380 {nm : String} : DI (mLn nm) 380 (.invokevirtual 36) 3 383 := ⟨(kL_law_10 (nm := nm)).at 8 rfl, rfl⟩
theorem dL_law_383 {nm : String} : DI (mLn nm) 383 (.pop) 1 384 := ⟨(kL_law_10 (nm := nm)).at 9 rfl, rfl⟩
theorem dL_law_384 {nm : String} : DLa (mLn nm) 384 2 385 := Or.inl ⟨2, (kL_law_10 (nm := nm)).at 10 rfl, rfl, rfl⟩
theorem dL_law_385 {nm : String} : DI (mLn nm) 385 (.invokevirtual 40) 3 388 := ⟨(kL_law_10 (nm := nm)).at 11 rfl, rfl⟩
theorem dL_law_388 {nm : String} : DI (mLn nm) 388 (.pop) 1 389 := ⟨(kL_law_10 (nm := nm)).at 12 rfl, rfl⟩
theorem dL_law_389 {nm : String} : DB (mLn nm) 389 (.goto (1083)) (1083) 392 1472 := ⟨(kL_law_10 (nm := nm)).at 13 rfl, rfl, rfl⟩
theorem dL_law_392 {nm : String} : DLa (mLn nm) 392 1 393 := Or.inl ⟨1, (kL_law_10 (nm := nm)).at 14 rfl, rfl, rfl⟩
theorem dL_law_393 {nm : String} : DLa (mLn nm) 393 0 394 := Or.inl ⟨0, (kL_law_10 (nm := nm)).at 15 rfl, rfl, rfl⟩
theorem dL_law_394 {nm : String} : DLi (mLn nm) 394 3 395 := Or.inl ⟨3, (kL_law_11 (nm := nm)).at 0 rfl, rfl, rfl⟩
theorem dL_law_395 {nm : String} : DC (mLn nm) 395 1 396 := Or.inl ⟨1, (kL_law_11 (nm := nm)).at 1 rfl, by decide, rfl⟩
theorem dL_law_396 {nm : String} : DI (mLn nm) 396 (.iadd) 1 397 := ⟨(kL_law_11 (nm := nm)).at 2 rfl, rfl⟩
theorem dL_law_397 {nm : String} : DI (mLn nm) 397 (.iaload) 1 398 := ⟨(kL_law_11 (nm := nm)).at 3 rfl, rfl⟩
theorem dL_law_398 {nm : String} : DI (mLn nm) 398 (.invokevirtual 41) 3 401 := ⟨(kL_law_11 (nm := nm)).at 4 rfl, rfl⟩
theorem dL_law_401 {nm : String} : DI (mLn nm) 401 (.pop) 1 402 := ⟨(kL_law_11 (nm := nm)).at 5 rfl, rfl⟩
theorem dL_law_402 {nm : String} : DLa (mLn nm) 402 2 403 := Or.inl ⟨2, (kL_law_11 (nm := nm)).at 6 rfl, rfl, rfl⟩
theorem dL_law_403 {nm : String} : DLa (mLn nm) 403 0 404 := Or.inl ⟨0, (kL_law_11 (nm := nm)).at 7 rfl, rfl, rfl⟩
theorem dL_law_404 {nm : String} : DLi (mLn nm) 404 3 405 := Or.inl ⟨3, (kL_law_11 (nm := nm)).at 8 rfl, rfl, rfl⟩
theorem dL_law_405 {nm : String} : DC (mLn nm) 405 1 406 := Or.inl ⟨1, (kL_law_11 (nm := nm)).at 9 rfl, by decide, rfl⟩
theorem dL_law_406 {nm : String} : DI (mLn nm) 406 (.iadd) 1 407 := ⟨(kL_law_11 (nm := nm)).at 10 rfl, rfl⟩
theorem dL_law_407 {nm : String} : DI (mLn nm) 407 (.iaload) 1 408 := ⟨(kL_law_11 (nm := nm)).at 11 rfl, rfl⟩
theorem dL_law_408 {nm : String} : DI (mLn nm) 408 (.invokevirtual 44) 3 411 := ⟨(kL_law_11 (nm := nm)).at 12 rfl, rfl⟩
theorem dL_law_411 {nm : String} : DI (mLn nm) 411 (.pop) 1 412 := ⟨(kL_law_11 (nm := nm)).at 13 rfl, rfl⟩
theorem dL_law_412 {nm : String} : DB (mLn nm) 412 (.goto (1060)) (1060) 415 1472 := ⟨(kL_law_11 (nm := nm)).at 14 rfl, rfl, rfl⟩
theorem dL_law_415 {nm : String} : DLa (mLn nm) 415 1 416 := Or.inl ⟨1, (kL_law_11 (nm := nm)).at 15 rfl, rfl, rfl⟩
theorem dL_law_416 {nm : String} : DLa (mLn nm) 416 0 417 := Or.inl ⟨0, (kL_law_12 (nm := nm)).at 0 rfl, rfl, rfl⟩
theorem dL_law_417 {nm : String} : DLi (mLn nm) 417 3 418 := Or.inl ⟨3, (kL_law_12 (nm := nm)).at 1 rfl, rfl, rfl⟩
theorem dL_law_418 {nm : String} : DC (mLn nm) 418 1 419 := Or.inl ⟨1, (kL_law_12 (nm := nm)).at 2 rfl, by decide, rfl⟩
theorem dL_law_419 {nm : String} : DI (mLn nm) 419 (.iadd) 1 420 := ⟨(kL_law_12 (nm := nm)).at 3 rfl, rfl⟩
theorem dL_law_420 {nm : String} : DI (mLn nm) 420 (.iaload) 1 421 := ⟨(kL_law_12 (nm := nm)).at 4 rfl, rfl⟩
theorem dL_law_421 {nm : String} : DI (mLn nm) 421 (.invokevirtual 45) 3 424 := ⟨(kL_law_12 (nm := nm)).at 5 rfl, rfl⟩
theorem dL_law_424 {nm : String} : DI (mLn nm) 424 (.pop2) 1 425 := ⟨(kL_law_12 (nm := nm)).at 6 rfl, rfl⟩
theorem dL_law_425 {nm : String} : DLa (mLn nm) 425 2 426 := Or.inl ⟨2, (kL_law_12 (nm := nm)).at 7 rfl, rfl, rfl⟩
theorem dL_law_426 {nm : String} : DLa (mLn nm) 426 0 427 := Or.inl ⟨0, (kL_law_12 (nm := nm)).at 8 rfl, rfl, rfl⟩
theorem dL_law_427 {nm : String} : DLi (mLn nm) 427 3 428 := Or.inl ⟨3, (kL_law_12 (nm := nm)).at 9 rfl, rfl, rfl⟩
theorem dL_law_428 {nm : String} : DC (mLn nm) 428 1 429 := Or.inl ⟨1, (kL_law_12 (nm := nm)).at 10 rfl, by decide, rfl⟩
theorem dL_law_429 {nm : String} : DI (mLn nm) 429 (.iadd) 1 430 := ⟨(kL_law_12 (nm := nm)).at 11 rfl, rfl⟩
theorem dL_law_430 {nm : String} : DI (mLn nm) 430 (.iaload) 1 431 := ⟨(kL_law_12 (nm := nm)).at 12 rfl, rfl⟩
theorem dL_law_431 {nm : String} : DI (mLn nm) 431 (.invokevirtual 49) 3 434 := ⟨(kL_law_12 (nm := nm)).at 13 rfl, rfl⟩
theorem dL_law_434 {nm : String} : DI (mLn nm) 434 (.pop2) 1 435 := ⟨(kL_law_12 (nm := nm)).at 14 rfl, rfl⟩
theorem dL_law_435 {nm : String} : DB (mLn nm) 435 (.goto (1037)) (1037) 438 1472 := ⟨(kL_law_12 (nm := nm)).at 15 rfl, rfl, rfl⟩
theorem dL_law_438 {nm : String} : DLa (mLn nm) 438 1 439 := Or.inl ⟨1, (kL_law_13 (nm := nm)).at 0 rfl, rfl, rfl⟩
theorem dL_law_439 {nm : String} : DLa (mLn nm) 439 0 440 := Or.inl ⟨0, (kL_law_13 (nm := nm)).at 1 rfl, rfl, rfl⟩
theorem dL_law_440 {nm : String} : DLi (mLn nm) 440 3 441 := Or.inl ⟨3, (kL_law_13 (nm := nm)).at 2 rfl, rfl, rfl⟩
theorem dL_law_441 {nm : String} : DC (mLn nm) 441 1 442 := Or.inl ⟨1, (kL_law_13 (nm := nm)).at 3 rfl, by decide, rfl⟩
theorem dL_law_442 {nm : String} : DI (mLn nm) 442 (.iadd) 1 443 := ⟨(kL_law_13 (nm := nm)).at 4 rfl, rfl⟩
theorem dL_law_443 {nm : String} : DI (mLn nm) 443 (.iaload) 1 444 := ⟨(kL_law_13 (nm := nm)).at 5 rfl, rfl⟩
theorem dL_law_444 {nm : String} : DLa (mLn nm) 444 0 445 := Or.inl ⟨0, (kL_law_13 (nm := nm)).at 6 rfl, rfl, rfl⟩
theorem dL_law_445 {nm : String} : DLi (mLn nm) 445 3 446 := Or.inl ⟨3, (kL_law_13 (nm := nm)).at 7 rfl, rfl, rfl⟩
theorem dL_law_446 {nm : String} : DC (mLn nm) 446 2 447 := Or.inl ⟨2, (kL_law_13 (nm := nm)).at 8 rfl, by decide, rfl⟩
theorem dL_law_447 {nm : String} : DI (mLn nm) 447 (.iadd) 1 448 := ⟨(kL_law_13 (nm := nm)).at 9 rfl, rfl⟩
theorem dL_law_448 {nm : String} : DI (mLn nm) 448 (.iaload) 1 449 := ⟨(kL_law_13 (nm := nm)).at 10 rfl, rfl⟩
theorem dL_law_449 {nm : String} : DLa (mLn nm) 449 0 450 := Or.inl ⟨0, (kL_law_13 (nm := nm)).at 11 rfl, rfl, rfl⟩
theorem dL_law_450 {nm : String} : DLi (mLn nm) 450 3 451 := Or.inl ⟨3, (kL_law_13 (nm := nm)).at 12 rfl, rfl, rfl⟩
theorem dL_law_451 {nm : String} : DC (mLn nm) 451 3 452 := Or.inl ⟨3, (kL_law_13 (nm := nm)).at 13 rfl, by decide, rfl⟩
theorem dL_law_452 {nm : String} : DI (mLn nm) 452 (.iadd) 1 453 := ⟨(kL_law_13 (nm := nm)).at 14 rfl, rfl⟩
theorem dL_law_453 {nm : String} : DI (mLn nm) 453 (.iaload) 1 454 := ⟨(kL_law_13 (nm := nm)).at 15 rfl, rfl⟩
theorem dL_law_454 {nm : String} : DLa (mLn nm) 454 0 455 := Or.inl ⟨0, (kL_law_14 (nm := nm)).at 0 rfl, rfl, rfl⟩
theorem dL_law_455 {nm : String} : DLi (mLn nm) 455 3 456 := Or.inl ⟨3, (kL_law_14 (nm := nm)).at 1 rfl, rfl, rfl⟩
theorem dL_law_456 {nm : String} : DC (mLn nm) 456 4 457 := Or.inl ⟨4, (kL_law_14 (nm := nm)).at 2 rfl, by decide, rfl⟩
theorem dL_law_457 {nm : String} : DI (mLn nm) 457 (.iadd) 1 458 := ⟨(kL_law_14 (nm := nm)).at 3 rfl, rfl⟩
theorem dL_law_458 {nm : String} : DI (mLn nm) 458 (.iaload) 1 459 := ⟨(kL_law_14 (nm := nm)).at 4 rfl, rfl⟩
theorem dL_law_459 {nm : String} : DI (mLn nm) 459 (.invokevirtual 50) 3 462 := ⟨(kL_law_14 (nm := nm)).at 5 rfl, rfl⟩
theorem dL_law_462 {nm : String} : DI (mLn nm) 462 (.pop) 1 463 := ⟨(kL_law_14 (nm := nm)).at 6 rfl, rfl⟩
theorem dL_law_463 {nm : String} : DLa (mLn nm) 463 2 464 := Or.inl ⟨2, (kL_law_14 (nm := nm)).at 7 rfl, rfl, rfl⟩
theorem dL_law_464 {nm : String} : DLa (mLn nm) 464 0 465 := Or.inl ⟨0, (kL_law_14 (nm := nm)).at 8 rfl, rfl, rfl⟩
theorem dL_law_465 {nm : String} : DLi (mLn nm) 465 3 466 := Or.inl ⟨3, (kL_law_14 (nm := nm)).at 9 rfl, rfl, rfl⟩
theorem dL_law_466 {nm : String} : DC (mLn nm) 466 1 467 := Or.inl ⟨1, (kL_law_14 (nm := nm)).at 10 rfl, by decide, rfl⟩
theorem dL_law_467 {nm : String} : DI (mLn nm) 467 (.iadd) 1 468 := ⟨(kL_law_14 (nm := nm)).at 11 rfl, rfl⟩
theorem dL_law_468 {nm : String} : DI (mLn nm) 468 (.iaload) 1 469 := ⟨(kL_law_14 (nm := nm)).at 12 rfl, rfl⟩
theorem dL_law_469 {nm : String} : DLa (mLn nm) 469 0 470 := Or.inl ⟨0, (kL_law_14 (nm := nm)).at 13 rfl, rfl, rfl⟩
theorem dL_law_470 {nm : String} : DLi (mLn nm) 470 3 471 := Or.inl ⟨3, (kL_law_14 (nm := nm)).at 14 rfl, rfl, rfl⟩
theorem dL_law_471 {nm : String} : DC (mLn nm) 471 2 472 := Or.inl ⟨2, (kL_law_14 (nm := nm)).at 15 rfl, by decide, rfl⟩
theorem dL_law_472 {nm : String} : DI (mLn nm) 472 (.iadd) 1 473 := ⟨(kL_law_15 (nm := nm)).at 0 rfl, rfl⟩
theorem dL_law_473 {nm : String} : DI (mLn nm) 473 (.iaload) 1 474 := ⟨(kL_law_15 (nm := nm)).at 1 rfl, rfl⟩
theorem dL_law_474 {nm : String} : DLa (mLn nm) 474 0 475 := Or.inl ⟨0, (kL_law_15 (nm := nm)).at 2 rfl, rfl, rfl⟩
theorem dL_law_475 {nm : String} : DLi (mLn nm) 475 3 476 := Or.inl ⟨3, (kL_law_15 (nm := nm)).at 3 rfl, rfl, rfl⟩
theorem dL_law_476 {nm : String} : DC (mLn nm) 476 3 477 := Or.inl ⟨3, (kL_law_15 (nm := nm)).at 4 rfl, by decide, rfl⟩
theorem dL_law_477 {nm : String} : DI (mLn nm) 477 (.iadd) 1 478 := ⟨(kL_law_15 (nm := nm)).at 5 rfl, rfl⟩
theorem dL_law_478 {nm : String} : DI (mLn nm) 478 (.iaload) 1 479 := ⟨(kL_law_15 (nm := nm)).at 6 rfl, rfl⟩
theorem dL_law_479 {nm : String} : DLa (mLn nm) 479 0 480 := Or.inl ⟨0, (kL_law_15 (nm := nm)).at 7 rfl, rfl, rfl⟩
theorem dL_law_480 {nm : String} : DLi (mLn nm) 480 3 481 := Or.inl ⟨3, (kL_law_15 (nm := nm)).at 8 rfl, rfl, rfl⟩
theorem dL_law_481 {nm : String} : DC (mLn nm) 481 4 482 := Or.inl ⟨4, (kL_law_15 (nm := nm)).at 9 rfl, by decide, rfl⟩
theorem dL_law_482 {nm : String} : DI (mLn nm) 482 (.iadd) 1 483 := ⟨(kL_law_15 (nm := nm)).at 10 rfl, rfl⟩
theorem dL_law_483 {nm : String} : DI (mLn nm) 483 (.iaload) 1 484 := ⟨(kL_law_15 (nm := nm)).at 11 rfl, rfl⟩
theorem dL_law_484 {nm : String} : DI (mLn nm) 484 (.invokevirtual 54) 3 487 := ⟨(kL_law_15 (nm := nm)).at 12 rfl, rfl⟩
theorem dL_law_487 {nm : String} : DI (mLn nm) 487 (.pop) 1 488 := ⟨(kL_law_15 (nm := nm)).at 13 rfl, rfl⟩
theorem dL_law_488 {nm : String} : DB (mLn nm) 488 (.goto (984)) (984) 491 1472 := ⟨(kL_law_15 (nm := nm)).at 14 rfl, rfl, rfl⟩
theorem dL_law_491 {nm : String} : DLa (mLn nm) 491 1 492 := Or.inl ⟨1, (kL_law_15 (nm := nm)).at 15 rfl, rfl, rfl⟩
theorem dL_law_492 {nm : String} : DLa (mLn nm) 492 0 493 := Or.inl ⟨0, (kL_law_16 (nm := nm)).at 0 rfl, rfl, rfl⟩
theorem dL_law_493 {nm : String} : DLi (mLn nm) 493 3 494 := Or.inl ⟨3, (kL_law_16 (nm := nm)).at 1 rfl, rfl, rfl⟩
theorem dL_law_494 {nm : String} : DC (mLn nm) 494 1 495 := Or.inl ⟨1, (kL_law_16 (nm := nm)).at 2 rfl, by decide, rfl⟩
theorem dL_law_495 {nm : String} : DI (mLn nm) 495 (.iadd) 1 496 := ⟨(kL_law_16 (nm := nm)).at 3 rfl, rfl⟩
theorem dL_law_496 {nm : String} : DI (mLn nm) 496 (.iaload) 1 497 := ⟨(kL_law_16 (nm := nm)).at 4 rfl, rfl⟩
theorem dL_law_497 {nm : String} : DLa (mLn nm) 497 0 498 := Or.inl ⟨0, (kL_law_16 (nm := nm)).at 5 rfl, rfl, rfl⟩
theorem dL_law_498 {nm : String} : DLi (mLn nm) 498 3 499 := Or.inl ⟨3, (kL_law_16 (nm := nm)).at 6 rfl, rfl, rfl⟩
theorem dL_law_499 {nm : String} : DC (mLn nm) 499 2 500 := Or.inl ⟨2, (kL_law_16 (nm := nm)).at 7 rfl, by decide, rfl⟩
theorem dL_law_500 {nm : String} : DI (mLn nm) 500 (.iadd) 1 501 := ⟨(kL_law_16 (nm := nm)).at 8 rfl, rfl⟩
theorem dL_law_501 {nm : String} : DI (mLn nm) 501 (.iaload) 1 502 := ⟨(kL_law_16 (nm := nm)).at 9 rfl, rfl⟩
theorem dL_law_502 {nm : String} : DLa (mLn nm) 502 0 503 := Or.inl ⟨0, (kL_law_16 (nm := nm)).at 10 rfl, rfl, rfl⟩
theorem dL_law_503 {nm : String} : DLi (mLn nm) 503 3 504 := Or.inl ⟨3, (kL_law_16 (nm := nm)).at 11 rfl, rfl, rfl⟩
theorem dL_law_504 {nm : String} : DC (mLn nm) 504 3 505 := Or.inl ⟨3, (kL_law_16 (nm := nm)).at 12 rfl, by decide, rfl⟩
theorem dL_law_505 {nm : String} : DI (mLn nm) 505 (.iadd) 1 506 := ⟨(kL_law_16 (nm := nm)).at 13 rfl, rfl⟩
theorem dL_law_506 {nm : String} : DI (mLn nm) 506 (.iaload) 1 507 := ⟨(kL_law_16 (nm := nm)).at 14 rfl, rfl⟩
theorem dL_law_507 {nm : String} : DI (mLn nm) 507 (.invokevirtual 55) 3 510 := ⟨(kL_law_16 (nm := nm)).at 15 rfl, rfl⟩
theorem dL_law_510 {nm : String} : DI (mLn nm) 510 (.pop) 1 511 := ⟨(kL_law_17 (nm := nm)).at 0 rfl, rfl⟩
theorem dL_law_511 {nm : String} : DLa (mLn nm) 511 2 512 := Or.inl ⟨2, (kL_law_17 (nm := nm)).at 1 rfl, rfl, rfl⟩
theorem dL_law_512 {nm : String} : DLa (mLn nm) 512 0 513 := Or.inl ⟨0, (kL_law_17 (nm := nm)).at 2 rfl, rfl, rfl⟩
theorem dL_law_513 {nm : String} : DLi (mLn nm) 513 3 514 := Or.inl ⟨3, (kL_law_17 (nm := nm)).at 3 rfl, rfl, rfl⟩
theorem dL_law_514 {nm : String} : DC (mLn nm) 514 1 515 := Or.inl ⟨1, (kL_law_17 (nm := nm)).at 4 rfl, by decide, rfl⟩
theorem dL_law_515 {nm : String} : DI (mLn nm) 515 (.iadd) 1 516 := ⟨(kL_law_17 (nm := nm)).at 5 rfl, rfl⟩
theorem dL_law_516 {nm : String} : DI (mLn nm) 516 (.iaload) 1 517 := ⟨(kL_law_17 (nm := nm)).at 6 rfl, rfl⟩
theorem dL_law_517 {nm : String} : DLa (mLn nm) 517 0 518 := Or.inl ⟨0, (kL_law_17 (nm := nm)).at 7 rfl, rfl, rfl⟩
theorem dL_law_518 {nm : String} : DLi (mLn nm) 518 3 519 := Or.inl ⟨3, (kL_law_17 (nm := nm)).at 8 rfl, rfl, rfl⟩
theorem dL_law_519 {nm : String} : DC (mLn nm) 519 2 520 := Or.inl ⟨2, (kL_law_17 (nm := nm)).at 9 rfl, by decide, rfl⟩
theorem dL_law_520 {nm : String} : DI (mLn nm) 520 (.iadd) 1 521 := ⟨(kL_law_17 (nm := nm)).at 10 rfl, rfl⟩
theorem dL_law_521 {nm : String} : DI (mLn nm) 521 (.iaload) 1 522 := ⟨(kL_law_17 (nm := nm)).at 11 rfl, rfl⟩
theorem dL_law_522 {nm : String} : DLa (mLn nm) 522 0 523 := Or.inl ⟨0, (kL_law_17 (nm := nm)).at 12 rfl, rfl, rfl⟩
theorem dL_law_523 {nm : String} : DLi (mLn nm) 523 3 524 := Or.inl ⟨3, (kL_law_17 (nm := nm)).at 13 rfl, rfl, rfl⟩
theorem dL_law_524 {nm : String} : DC (mLn nm) 524 3 525 := Or.inl ⟨3, (kL_law_17 (nm := nm)).at 14 rfl, by decide, rfl⟩
theorem dL_law_525 {nm : String} : DI (mLn nm) 525 (.iadd) 1 526 := ⟨(kL_law_17 (nm := nm)).at 15 rfl, rfl⟩
theorem dL_law_526 {nm : String} : DI (mLn nm) 526 (.iaload) 1 527 := ⟨(kL_law_18 (nm := nm)).at 0 rfl, rfl⟩
theorem dL_law_527 {nm : String} : DI (mLn nm) 527 (.invokevirtual 58) 3 530 := ⟨(kL_law_18 (nm := nm)).at 1 rfl, rfl⟩
theorem dL_law_530 {nm : String} : DI (mLn nm) 530 (.pop) 1 531 := ⟨(kL_law_18 (nm := nm)).at 2 rfl, rfl⟩
theorem dL_law_531 {nm : String} : DB (mLn nm) 531 (.goto (941)) (941) 534 1472 := ⟨(kL_law_18 (nm := nm)).at 3 rfl, rfl, rfl⟩
theorem dL_law_534 {nm : String} : DLa (mLn nm) 534 1 535 := Or.inl ⟨1, (kL_law_18 (nm := nm)).at 4 rfl, rfl, rfl⟩
theorem dL_law_535 {nm : String} : DLa (mLn nm) 535 0 536 := Or.inl ⟨0, (kL_law_18 (nm := nm)).at 5 rfl, rfl, rfl⟩
theorem dL_law_536 {nm : String} : DLi (mLn nm) 536 3 537 := Or.inl ⟨3, (kL_law_18 (nm := nm)).at 6 rfl, rfl, rfl⟩
theorem dL_law_537 {nm : String} : DC (mLn nm) 537 1 538 := Or.inl ⟨1, (kL_law_18 (nm := nm)).at 7 rfl, by decide, rfl⟩
theorem dL_law_538 {nm : String} : DI (mLn nm) 538 (.iadd) 1 539 := ⟨(kL_law_18 (nm := nm)).at 8 rfl, rfl⟩
theorem dL_law_539 {nm : String} : DI (mLn nm) 539 (.iaload) 1 540 := ⟨(kL_law_18 (nm := nm)).at 9 rfl, rfl⟩
theorem dL_law_540 {nm : String} : DLa (mLn nm) 540 0 541 := Or.inl ⟨0, (kL_law_18 (nm := nm)).at 10 rfl, rfl, rfl⟩
theorem dL_law_541 {nm : String} : DLi (mLn nm) 541 3 542 := Or.inl ⟨3, (kL_law_18 (nm := nm)).at 11 rfl, rfl, rfl⟩
theorem dL_law_542 {nm : String} : DC (mLn nm) 542 2 543 := Or.inl ⟨2, (kL_law_18 (nm := nm)).at 12 rfl, by decide, rfl⟩
theorem dL_law_543 {nm : String} : DI (mLn nm) 543 (.iadd) 1 544 := ⟨(kL_law_18 (nm := nm)).at 13 rfl, rfl⟩
theorem dL_law_544 {nm : String} : DI (mLn nm) 544 (.iaload) 1 545 := ⟨(kL_law_18 (nm := nm)).at 14 rfl, rfl⟩
theorem dL_law_545 {nm : String} : DI (mLn nm) 545 (.invokevirtual 59) 3 548 := ⟨(kL_law_18 (nm := nm)).at 15 rfl, rfl⟩
theorem dL_law_548 {nm : String} : DI (mLn nm) 548 (.pop) 1 549 := ⟨(kL_law_19 (nm := nm)).at 0 rfl, rfl⟩
theorem dL_law_549 {nm : String} : DLa (mLn nm) 549 2 550 := Or.inl ⟨2, (kL_law_19 (nm := nm)).at 1 rfl, rfl, rfl⟩
theorem dL_law_550 {nm : String} : DLa (mLn nm) 550 0 551 := Or.inl ⟨0, (kL_law_19 (nm := nm)).at 2 rfl, rfl, rfl⟩
theorem dL_law_551 {nm : String} : DLi (mLn nm) 551 3 552 := Or.inl ⟨3, (kL_law_19 (nm := nm)).at 3 rfl, rfl, rfl⟩
theorem dL_law_552 {nm : String} : DC (mLn nm) 552 1 553 := Or.inl ⟨1, (kL_law_19 (nm := nm)).at 4 rfl, by decide, rfl⟩
theorem dL_law_553 {nm : String} : DI (mLn nm) 553 (.iadd) 1 554 := ⟨(kL_law_19 (nm := nm)).at 5 rfl, rfl⟩
theorem dL_law_554 {nm : String} : DI (mLn nm) 554 (.iaload) 1 555 := ⟨(kL_law_19 (nm := nm)).at 6 rfl, rfl⟩
theorem dL_law_555 {nm : String} : DLa (mLn nm) 555 0 556 := Or.inl ⟨0, (kL_law_19 (nm := nm)).at 7 rfl, rfl, rfl⟩
theorem dL_law_556 {nm : String} : DLi (mLn nm) 556 3 557 := Or.inl ⟨3, (kL_law_19 (nm := nm)).at 8 rfl, rfl, rfl⟩
theorem dL_law_557 {nm : String} : DC (mLn nm) 557 2 558 := Or.inl ⟨2, (kL_law_19 (nm := nm)).at 9 rfl, by decide, rfl⟩
theorem dL_law_558 {nm : String} : DI (mLn nm) 558 (.iadd) 1 559 := ⟨(kL_law_19 (nm := nm)).at 10 rfl, rfl⟩
theorem dL_law_559 {nm : String} : DI (mLn nm) 559 (.iaload) 1 560 := ⟨(kL_law_19 (nm := nm)).at 11 rfl, rfl⟩
theorem dL_law_560 {nm : String} : DI (mLn nm) 560 (.invokevirtual 62) 3 563 := ⟨(kL_law_19 (nm := nm)).at 12 rfl, rfl⟩
theorem dL_law_563 {nm : String} : DI (mLn nm) 563 (.pop) 1 564 := ⟨(kL_law_19 (nm := nm)).at 13 rfl, rfl⟩
theorem dL_law_564 {nm : String} : DB (mLn nm) 564 (.goto (908)) (908) 567 1472 := ⟨(kL_law_19 (nm := nm)).at 14 rfl, rfl, rfl⟩
theorem dL_law_567 {nm : String} : DLa (mLn nm) 567 1 568 := Or.inl ⟨1, (kL_law_19 (nm := nm)).at 15 rfl, rfl, rfl⟩
theorem dL_law_568 {nm : String} : DLa (mLn nm) 568 0 569 := Or.inl ⟨0, (kL_law_20 (nm := nm)).at 0 rfl, rfl, rfl⟩
theorem dL_law_569 {nm : String} : DLi (mLn nm) 569 3 570 := Or.inl ⟨3, (kL_law_20 (nm := nm)).at 1 rfl, rfl, rfl⟩
theorem dL_law_570 {nm : String} : DC (mLn nm) 570 1 571 := Or.inl ⟨1, (kL_law_20 (nm := nm)).at 2 rfl, by decide, rfl⟩
theorem dL_law_571 {nm : String} : DI (mLn nm) 571 (.iadd) 1 572 := ⟨(kL_law_20 (nm := nm)).at 3 rfl, rfl⟩
theorem dL_law_572 {nm : String} : DI (mLn nm) 572 (.iaload) 1 573 := ⟨(kL_law_20 (nm := nm)).at 4 rfl, rfl⟩
theorem dL_law_573 {nm : String} : DLa (mLn nm) 573 0 574 := Or.inl ⟨0, (kL_law_20 (nm := nm)).at 5 rfl, rfl, rfl⟩
theorem dL_law_574 {nm : String} : DLi (mLn nm) 574 3 575 := Or.inl ⟨3, (kL_law_20 (nm := nm)).at 6 rfl, rfl, rfl⟩
theorem dL_law_575 {nm : String} : DC (mLn nm) 575 2 576 := Or.inl ⟨2, (kL_law_20 (nm := nm)).at 7 rfl, by decide, rfl⟩
theorem dL_law_576 {nm : String} : DI (mLn nm) 576 (.iadd) 1 577 := ⟨(kL_law_20 (nm := nm)).at 8 rfl, rfl⟩
theorem dL_law_577 {nm : String} : DI (mLn nm) 577 (.iaload) 1 578 := ⟨(kL_law_20 (nm := nm)).at 9 rfl, rfl⟩
theorem dL_law_578 {nm : String} : DI (mLn nm) 578 (.invokevirtual 63) 3 581 := ⟨(kL_law_20 (nm := nm)).at 10 rfl, rfl⟩
theorem dL_law_581 {nm : String} : DI (mLn nm) 581 (.pop) 1 582 := ⟨(kL_law_20 (nm := nm)).at 11 rfl, rfl⟩
theorem dL_law_582 {nm : String} : DLa (mLn nm) 582 2 583 := Or.inl ⟨2, (kL_law_20 (nm := nm)).at 12 rfl, rfl, rfl⟩
theorem dL_law_583 {nm : String} : DLa (mLn nm) 583 0 584 := Or.inl ⟨0, (kL_law_20 (nm := nm)).at 13 rfl, rfl, rfl⟩
theorem dL_law_584 {nm : String} : DLi (mLn nm) 584 3 585 := Or.inl ⟨3, (kL_law_20 (nm := nm)).at 14 rfl, rfl, rfl⟩
theorem dL_law_585 {nm : String} : DC (mLn nm) 585 1 586 := Or.inl ⟨1, (kL_law_20 (nm := nm)).at 15 rfl, by decide, rfl⟩
theorem dL_law_586 {nm : String} : DI (mLn nm) 586 (.iadd) 1 587 := ⟨(kL_law_21 (nm := nm)).at 0 rfl, rfl⟩
theorem dL_law_587 {nm : String} : DI (mLn nm) 587 (.iaload) 1 588 := ⟨(kL_law_21 (nm := nm)).at 1 rfl, rfl⟩
theorem dL_law_588 {nm : String} : DLa (mLn nm) 588 0 589 := Or.inl ⟨0, (kL_law_21 (nm := nm)).at 2 rfl, rfl, rfl⟩
theorem dL_law_589 {nm : String} : DLi (mLn nm) 589 3 590 := Or.inl ⟨3, (kL_law_21 (nm := nm)).at 3 rfl, rfl, rfl⟩
theorem dL_law_590 {nm : String} : DC (mLn nm) 590 2 591 := Or.inl ⟨2, (kL_law_21 (nm := nm)).at 4 rfl, by decide, rfl⟩
theorem dL_law_591 {nm : String} : DI (mLn nm) 591 (.iadd) 1 592 := ⟨(kL_law_21 (nm := nm)).at 5 rfl, rfl⟩
theorem dL_law_592 {nm : String} : DI (mLn nm) 592 (.iaload) 1 593 := ⟨(kL_law_21 (nm := nm)).at 6 rfl, rfl⟩
theorem dL_law_593 {nm : String} : DI (mLn nm) 593 (.invokevirtual 66) 3 596 := ⟨(kL_law_21 (nm := nm)).at 7 rfl, rfl⟩
theorem dL_law_596 {nm : String} : DI (mLn nm) 596 (.pop) 1 597 := ⟨(kL_law_21 (nm := nm)).at 8 rfl, rfl⟩
theorem dL_law_597 {nm : String} : DB (mLn nm) 597 (.goto (875)) (875) 600 1472 := ⟨(kL_law_21 (nm := nm)).at 9 rfl, rfl, rfl⟩
theorem dL_law_600 {nm : String} : DLa (mLn nm) 600 1 601 := Or.inl ⟨1, (kL_law_21 (nm := nm)).at 10 rfl, rfl, rfl⟩
theorem dL_law_601 {nm : String} : DLa (mLn nm) 601 0 602 := Or.inl ⟨0, (kL_law_21 (nm := nm)).at 11 rfl, rfl, rfl⟩
theorem dL_law_602 {nm : String} : DLi (mLn nm) 602 3 603 := Or.inl ⟨3, (kL_law_21 (nm := nm)).at 12 rfl, rfl, rfl⟩
theorem dL_law_603 {nm : String} : DC (mLn nm) 603 1 604 := Or.inl ⟨1, (kL_law_21 (nm := nm)).at 13 rfl, by decide, rfl⟩
theorem dL_law_604 {nm : String} : DI (mLn nm) 604 (.iadd) 1 605 := ⟨(kL_law_21 (nm := nm)).at 14 rfl, rfl⟩
theorem dL_law_605 {nm : String} : DI (mLn nm) 605 (.iaload) 1 606 := ⟨(kL_law_21 (nm := nm)).at 15 rfl, rfl⟩
theorem dL_law_606 {nm : String} : DLa (mLn nm) 606 0 607 := Or.inl ⟨0, (kL_law_22 (nm := nm)).at 0 rfl, rfl, rfl⟩
theorem dL_law_607 {nm : String} : DLi (mLn nm) 607 3 608 := Or.inl ⟨3, (kL_law_22 (nm := nm)).at 1 rfl, rfl, rfl⟩
theorem dL_law_608 {nm : String} : DC (mLn nm) 608 2 609 := Or.inl ⟨2, (kL_law_22 (nm := nm)).at 2 rfl, by decide, rfl⟩
theorem dL_law_609 {nm : String} : DI (mLn nm) 609 (.iadd) 1 610 := ⟨(kL_law_22 (nm := nm)).at 3 rfl, rfl⟩
theorem dL_law_610 {nm : String} : DI (mLn nm) 610 (.iaload) 1 611 := ⟨(kL_law_22 (nm := nm)).at 4 rfl, rfl⟩
theorem dL_law_611 {nm : String} : DI (mLn nm) 611 (.invokevirtual 67) 3 614 := ⟨(kL_law_22 (nm := nm)).at 5 rfl, rfl⟩
theorem dL_law_614 {nm : String} : DI (mLn nm) 614 (.pop) 1 615 := ⟨(kL_law_22 (nm := nm)).at 6 rfl, rfl⟩
theorem dL_law_615 {nm : String} : DLa (mLn nm) 615 2 616 := Or.inl ⟨2, (kL_law_22 (nm := nm)).at 7 rfl, rfl, rfl⟩
theorem dL_law_616 {nm : String} : DLa (mLn nm) 616 0 617 := Or.inl ⟨0, (kL_law_22 (nm := nm)).at 8 rfl, rfl, rfl⟩
theorem dL_law_617 {nm : String} : DLi (mLn nm) 617 3 618 := Or.inl ⟨3, (kL_law_22 (nm := nm)).at 9 rfl, rfl, rfl⟩
theorem dL_law_618 {nm : String} : DC (mLn nm) 618 1 619 := Or.inl ⟨1, (kL_law_22 (nm := nm)).at 10 rfl, by decide, rfl⟩
theorem dL_law_619 {nm : String} : DI (mLn nm) 619 (.iadd) 1 620 := ⟨(kL_law_22 (nm := nm)).at 11 rfl, rfl⟩
theorem dL_law_620 {nm : String} : DI (mLn nm) 620 (.iaload) 1 621 := ⟨(kL_law_22 (nm := nm)).at 12 rfl, rfl⟩
theorem dL_law_621 {nm : String} : DLa (mLn nm) 621 0 622 := Or.inl ⟨0, (kL_law_22 (nm := nm)).at 13 rfl, rfl, rfl⟩
theorem dL_law_622 {nm : String} : DLi (mLn nm) 622 3 623 := Or.inl ⟨3, (kL_law_22 (nm := nm)).at 14 rfl, rfl, rfl⟩
theorem dL_law_623 {nm : String} : DC (mLn nm) 623 2 624 := Or.inl ⟨2, (kL_law_22 (nm := nm)).at 15 rfl, by decide, rfl⟩
theorem dL_law_624 {nm : String} : DI (mLn nm) 624 (.iadd) 1 625 := ⟨(kL_law_23 (nm := nm)).at 0 rfl, rfl⟩
theorem dL_law_625 {nm : String} : DI (mLn nm) 625 (.iaload) 1 626 := ⟨(kL_law_23 (nm := nm)).at 1 rfl, rfl⟩
theorem dL_law_626 {nm : String} : DI (mLn nm) 626 (.invokevirtual 70) 3 629 := ⟨(kL_law_23 (nm := nm)).at 2 rfl, rfl⟩
theorem dL_law_629 {nm : String} : DI (mLn nm) 629 (.pop) 1 630 := ⟨(kL_law_23 (nm := nm)).at 3 rfl, rfl⟩
theorem dL_law_630 {nm : String} : DB (mLn nm) 630 (.goto (842)) (842) 633 1472 := ⟨(kL_law_23 (nm := nm)).at 4 rfl, rfl, rfl⟩
theorem dL_law_633 {nm : String} : DLa (mLn nm) 633 1 634 := Or.inl ⟨1, (kL_law_23 (nm := nm)).at 5 rfl, rfl, rfl⟩
theorem dL_law_634 {nm : String} : DLa (mLn nm) 634 0 635 := Or.inl ⟨0, (kL_law_23 (nm := nm)).at 6 rfl, rfl, rfl⟩
theorem dL_law_635 {nm : String} : DLi (mLn nm) 635 3 636 := Or.inl ⟨3, (kL_law_23 (nm := nm)).at 7 rfl, rfl, rfl⟩
theorem dL_law_636 {nm : String} : DC (mLn nm) 636 1 637 := Or.inl ⟨1, (kL_law_23 (nm := nm)).at 8 rfl, by decide, rfl⟩
theorem dL_law_637 {nm : String} : DI (mLn nm) 637 (.iadd) 1 638 := ⟨(kL_law_23 (nm := nm)).at 9 rfl, rfl⟩
theorem dL_law_638 {nm : String} : DI (mLn nm) 638 (.iaload) 1 639 := ⟨(kL_law_23 (nm := nm)).at 10 rfl, rfl⟩
theorem dL_law_639 {nm : String} : DLa (mLn nm) 639 0 640 := Or.inl ⟨0, (kL_law_23 (nm := nm)).at 11 rfl, rfl, rfl⟩
theorem dL_law_640 {nm : String} : DLi (mLn nm) 640 3 641 := Or.inl ⟨3, (kL_law_23 (nm := nm)).at 12 rfl, rfl, rfl⟩
theorem dL_law_641 {nm : String} : DC (mLn nm) 641 2 642 := Or.inl ⟨2, (kL_law_23 (nm := nm)).at 13 rfl, by decide, rfl⟩
theorem dL_law_642 {nm : String} : DI (mLn nm) 642 (.iadd) 1 643 := ⟨(kL_law_23 (nm := nm)).at 14 rfl, rfl⟩
theorem dL_law_643 {nm : String} : DI (mLn nm) 643 (.iaload) 1 644 := ⟨(kL_law_23 (nm := nm)).at 15 rfl, rfl⟩
theorem dL_law_644 {nm : String} : DI (mLn nm) 644 (.invokevirtual 71) 3 647 := ⟨(kL_law_24 (nm := nm)).at 0 rfl, rfl⟩
theorem dL_law_647 {nm : String} : DLa (mLn nm) 647 2 648 := Or.inl ⟨2, (kL_law_24 (nm := nm)).at 1 rfl, rfl, rfl⟩
theorem dL_law_648 {nm : String} : DLa (mLn nm) 648 0 649 := Or.inl ⟨0, (kL_law_24 (nm := nm)).at 2 rfl, rfl, rfl⟩
theorem dL_law_649 {nm : String} : DLi (mLn nm) 649 3 650 := Or.inl ⟨3, (kL_law_24 (nm := nm)).at 3 rfl, rfl, rfl⟩
theorem dL_law_650 {nm : String} : DC (mLn nm) 650 1 651 := Or.inl ⟨1, (kL_law_24 (nm := nm)).at 4 rfl, by decide, rfl⟩
theorem dL_law_651 {nm : String} : DI (mLn nm) 651 (.iadd) 1 652 := ⟨(kL_law_24 (nm := nm)).at 5 rfl, rfl⟩
theorem dL_law_652 {nm : String} : DI (mLn nm) 652 (.iaload) 1 653 := ⟨(kL_law_24 (nm := nm)).at 6 rfl, rfl⟩
theorem dL_law_653 {nm : String} : DLa (mLn nm) 653 0 654 := Or.inl ⟨0, (kL_law_24 (nm := nm)).at 7 rfl, rfl, rfl⟩
theorem dL_law_654 {nm : String} : DLi (mLn nm) 654 3 655 := Or.inl ⟨3, (kL_law_24 (nm := nm)).at 8 rfl, rfl, rfl⟩
theorem dL_law_655 {nm : String} : DC (mLn nm) 655 2 656 := Or.inl ⟨2, (kL_law_24 (nm := nm)).at 9 rfl, by decide, rfl⟩
theorem dL_law_656 {nm : String} : DI (mLn nm) 656 (.iadd) 1 657 := ⟨(kL_law_24 (nm := nm)).at 10 rfl, rfl⟩
theorem dL_law_657 {nm : String} : DI (mLn nm) 657 (.iaload) 1 658 := ⟨(kL_law_24 (nm := nm)).at 11 rfl, rfl⟩
theorem dL_law_658 {nm : String} : DI (mLn nm) 658 (.invokevirtual 75) 3 661 := ⟨(kL_law_24 (nm := nm)).at 12 rfl, rfl⟩
theorem dL_law_661 {nm : String} : DI (mLn nm) 661 (.lcmp) 1 662 := ⟨(kL_law_24 (nm := nm)).at 13 rfl, rfl⟩
theorem dL_law_662 {nm : String} : DB (mLn nm) 662 (.ifCond .eq (810)) (810) 665 1472 := ⟨(kL_law_24 (nm := nm)).at 14 rfl, rfl, rfl⟩
theorem dL_law_665 {nm : String} : DC (mLn nm) 665 0 666 := Or.inl ⟨0, (kL_law_24 (nm := nm)).at 15 rfl, by decide, rfl⟩
theorem dL_law_666 {nm : String} : DRz (mLn nm) 666 := ⟨(kL_law_25 (nm := nm)).at 0 rfl, rfl⟩
theorem dL_law_667 {nm : String} : DLa (mLn nm) 667 1 668 := Or.inl ⟨1, (kL_law_25 (nm := nm)).at 1 rfl, rfl, rfl⟩
theorem dL_law_668 {nm : String} : DLa (mLn nm) 668 0 669 := Or.inl ⟨0, (kL_law_25 (nm := nm)).at 2 rfl, rfl, rfl⟩
theorem dL_law_669 {nm : String} : DLi (mLn nm) 669 3 670 := Or.inl ⟨3, (kL_law_25 (nm := nm)).at 3 rfl, rfl, rfl⟩
theorem dL_law_670 {nm : String} : DC (mLn nm) 670 1 671 := Or.inl ⟨1, (kL_law_25 (nm := nm)).at 4 rfl, by decide, rfl⟩
theorem dL_law_671 {nm : String} : DI (mLn nm) 671 (.iadd) 1 672 := ⟨(kL_law_25 (nm := nm)).at 5 rfl, rfl⟩
theorem dL_law_672 {nm : String} : DI (mLn nm) 672 (.iaload) 1 673 := ⟨(kL_law_25 (nm := nm)).at 6 rfl, rfl⟩
theorem dL_law_673 {nm : String} : DLa (mLn nm) 673 0 674 := Or.inl ⟨0, (kL_law_25 (nm := nm)).at 7 rfl, rfl, rfl⟩
theorem dL_law_674 {nm : String} : DLi (mLn nm) 674 3 675 := Or.inl ⟨3, (kL_law_25 (nm := nm)).at 8 rfl, rfl, rfl⟩
theorem dL_law_675 {nm : String} : DC (mLn nm) 675 2 676 := Or.inl ⟨2, (kL_law_25 (nm := nm)).at 9 rfl, by decide, rfl⟩
theorem dL_law_676 {nm : String} : DI (mLn nm) 676 (.iadd) 1 677 := ⟨(kL_law_25 (nm := nm)).at 10 rfl, rfl⟩
theorem dL_law_677 {nm : String} : DI (mLn nm) 677 (.iaload) 1 678 := ⟨(kL_law_25 (nm := nm)).at 11 rfl, rfl⟩
theorem dL_law_678 {nm : String} : DLa (mLn nm) 678 0 679 := Or.inl ⟨0, (kL_law_25 (nm := nm)).at 12 rfl, rfl, rfl⟩
theorem dL_law_679 {nm : String} : DLi (mLn nm) 679 3 680 := Or.inl ⟨3, (kL_law_25 (nm := nm)).at 13 rfl, rfl, rfl⟩
theorem dL_law_680 {nm : String} : DC (mLn nm) 680 3 681 := Or.inl ⟨3, (kL_law_25 (nm := nm)).at 14 rfl, by decide, rfl⟩
theorem dL_law_681 {nm : String} : DI (mLn nm) 681 (.iadd) 1 682 := ⟨(kL_law_25 (nm := nm)).at 15 rfl, rfl⟩
theorem dL_law_682 {nm : String} : DI (mLn nm) 682 (.iaload) 1 683 := ⟨(kL_law_26 (nm := nm)).at 0 rfl, rfl⟩
theorem dL_law_683 {nm : String} : DI (mLn nm) 683 (.invokevirtual 76) 3 686 := ⟨(kL_law_26 (nm := nm)).at 1 rfl, rfl⟩
theorem dL_law_686 {nm : String} : DI (mLn nm) 686 (.pop) 1 687 := ⟨(kL_law_26 (nm := nm)).at 2 rfl, rfl⟩
theorem dL_law_687 {nm : String} : DLa (mLn nm) 687 2 688 := Or.inl ⟨2, (kL_law_26 (nm := nm)).at 3 rfl, rfl, rfl⟩
theorem dL_law_688 {nm : String} : DLa (mLn nm) 688 0 689 := Or.inl ⟨0, (kL_law_26 (nm := nm)).at 4 rfl, rfl, rfl⟩
theorem dL_law_689 {nm : String} : DLi (mLn nm) 689 3 690 := Or.inl ⟨3, (kL_law_26 (nm := nm)).at 5 rfl, rfl, rfl⟩
theorem dL_law_690 {nm : String} : DC (mLn nm) 690 1 691 := Or.inl ⟨1, (kL_law_26 (nm := nm)).at 6 rfl, by decide, rfl⟩
theorem dL_law_691 {nm : String} : DI (mLn nm) 691 (.iadd) 1 692 := ⟨(kL_law_26 (nm := nm)).at 7 rfl, rfl⟩
theorem dL_law_692 {nm : String} : DI (mLn nm) 692 (.iaload) 1 693 := ⟨(kL_law_26 (nm := nm)).at 8 rfl, rfl⟩
theorem dL_law_693 {nm : String} : DLa (mLn nm) 693 0 694 := Or.inl ⟨0, (kL_law_26 (nm := nm)).at 9 rfl, rfl, rfl⟩
theorem dL_law_694 {nm : String} : DLi (mLn nm) 694 3 695 := Or.inl ⟨3, (kL_law_26 (nm := nm)).at 10 rfl, rfl, rfl⟩
theorem dL_law_695 {nm : String} : DC (mLn nm) 695 2 696 := Or.inl ⟨2, (kL_law_26 (nm := nm)).at 11 rfl, by decide, rfl⟩
theorem dL_law_696 {nm : String} : DI (mLn nm) 696 (.iadd) 1 697 := ⟨(kL_law_26 (nm := nm)).at 12 rfl, rfl⟩
theorem dL_law_697 {nm : String} : DI (mLn nm) 697 (.iaload) 1 698 := ⟨(kL_law_26 (nm := nm)).at 13 rfl, rfl⟩
theorem dL_law_698 {nm : String} : DLa (mLn nm) 698 0 699 := Or.inl ⟨0, (kL_law_26 (nm := nm)).at 14 rfl, rfl, rfl⟩
theorem dL_law_699 {nm : String} : DLi (mLn nm) 699 3 700 := Or.inl ⟨3, (kL_law_26 (nm := nm)).at 15 rfl, rfl, rfl⟩
theorem dL_law_700 {nm : String} : DC (mLn nm) 700 3 701 := Or.inl ⟨3, (kL_law_27 (nm := nm)).at 0 rfl, by decide, rfl⟩
theorem dL_law_701 {nm : String} : DI (mLn nm) 701 (.iadd) 1 702 := ⟨(kL_law_27 (nm := nm)).at 1 rfl, rfl⟩
theorem dL_law_702 {nm : String} : DI (mLn nm) 702 (.iaload) 1 703 := ⟨(kL_law_27 (nm := nm)).at 2 rfl, rfl⟩
theorem dL_law_703 {nm : String} : DI (mLn nm) 703 (.invokevirtual 79) 3 706 := ⟨(kL_law_27 (nm := nm)).at 3 rfl, rfl⟩
theorem dL_law_706 {nm : String} : DI (mLn nm) 706 (.pop) 1 707 := ⟨(kL_law_27 (nm := nm)).at 4 rfl, rfl⟩
theorem dL_law_707 {nm : String} : DB (mLn nm) 707 (.goto (765)) (765) 710 1472 := ⟨(kL_law_27 (nm := nm)).at 5 rfl, rfl, rfl⟩
theorem dL_law_710 {nm : String} : DLa (mLn nm) 710 1 711 := Or.inl ⟨1, (kL_law_27 (nm := nm)).at 6 rfl, rfl, rfl⟩
theorem dL_law_711 {nm : String} : DLa (mLn nm) 711 0 712 := Or.inl ⟨0, (kL_law_27 (nm := nm)).at 7 rfl, rfl, rfl⟩
theorem dL_law_712 {nm : String} : DLi (mLn nm) 712 3 713 := Or.inl ⟨3, (kL_law_27 (nm := nm)).at 8 rfl, rfl, rfl⟩
theorem dL_law_713 {nm : String} : DC (mLn nm) 713 1 714 := Or.inl ⟨1, (kL_law_27 (nm := nm)).at 9 rfl, by decide, rfl⟩
theorem dL_law_714 {nm : String} : DI (mLn nm) 714 (.iadd) 1 715 := ⟨(kL_law_27 (nm := nm)).at 10 rfl, rfl⟩
theorem dL_law_715 {nm : String} : DI (mLn nm) 715 (.iaload) 1 716 := ⟨(kL_law_27 (nm := nm)).at 11 rfl, rfl⟩
theorem dL_law_716 {nm : String} : DLa (mLn nm) 716 0 717 := Or.inl ⟨0, (kL_law_27 (nm := nm)).at 12 rfl, rfl, rfl⟩
theorem dL_law_717 {nm : String} : DLi (mLn nm) 717 3 718 := Or.inl ⟨3, (kL_law_27 (nm := nm)).at 13 rfl, rfl, rfl⟩
theorem dL_law_718 {nm : String} : DC (mLn nm) 718 2 719 := Or.inl ⟨2, (kL_law_27 (nm := nm)).at 14 rfl, by decide, rfl⟩
theorem dL_law_719 {nm : String} : DI (mLn nm) 719 (.iadd) 1 720 := ⟨(kL_law_27 (nm := nm)).at 15 rfl, rfl⟩
theorem dL_law_720 {nm : String} : DI (mLn nm) 720 (.iaload) 1 721 := ⟨(kL_law_28 (nm := nm)).at 0 rfl, rfl⟩
theorem dL_law_721 {nm : String} : DI (mLn nm) 721 (.invokevirtual 80) 3 724 := ⟨(kL_law_28 (nm := nm)).at 1 rfl, rfl⟩
theorem dL_law_724 {nm : String} : DI (mLn nm) 724 (.pop) 1 725 := ⟨(kL_law_28 (nm := nm)).at 2 rfl, rfl⟩
theorem dL_law_725 {nm : String} : DLa (mLn nm) 725 2 726 := Or.inl ⟨2, (kL_law_28 (nm := nm)).at 3 rfl, rfl, rfl⟩
theorem dL_law_726 {nm : String} : DLa (mLn nm) 726 0 727 := Or.inl ⟨0, (kL_law_28 (nm := nm)).at 4 rfl, rfl, rfl⟩
theorem dL_law_727 {nm : String} : DLi (mLn nm) 727 3 728 := Or.inl ⟨3, (kL_law_28 (nm := nm)).at 5 rfl, rfl, rfl⟩
theorem dL_law_728 {nm : String} : DC (mLn nm) 728 1 729 := Or.inl ⟨1, (kL_law_28 (nm := nm)).at 6 rfl, by decide, rfl⟩
theorem dL_law_729 {nm : String} : DI (mLn nm) 729 (.iadd) 1 730 := ⟨(kL_law_28 (nm := nm)).at 7 rfl, rfl⟩
theorem dL_law_730 {nm : String} : DI (mLn nm) 730 (.iaload) 1 731 := ⟨(kL_law_28 (nm := nm)).at 8 rfl, rfl⟩
theorem dL_law_731 {nm : String} : DLa (mLn nm) 731 0 732 := Or.inl ⟨0, (kL_law_28 (nm := nm)).at 9 rfl, rfl, rfl⟩
theorem dL_law_732 {nm : String} : DLi (mLn nm) 732 3 733 := Or.inl ⟨3, (kL_law_28 (nm := nm)).at 10 rfl, rfl, rfl⟩
theorem dL_law_733 {nm : String} : DC (mLn nm) 733 2 734 := Or.inl ⟨2, (kL_law_28 (nm := nm)).at 11 rfl, by decide, rfl⟩
theorem dL_law_734 {nm : String} : DI (mLn nm) 734 (.iadd) 1 735 := ⟨(kL_law_28 (nm := nm)).at 12 rfl, rfl⟩
theorem dL_law_735 {nm : String} : DI (mLn nm) 735 (.iaload) 1 736 := ⟨(kL_law_28 (nm := nm)).at 13 rfl, rfl⟩
theorem dL_law_736 {nm : String} : DI (mLn nm) 736 (.invokevirtual 83) 3 739 := ⟨(kL_law_28 (nm := nm)).at 14 rfl, rfl⟩
theorem dL_law_739 {nm : String} : DI (mLn nm) 739 (.pop) 1 740 := ⟨(kL_law_28 (nm := nm)).at 15 rfl, rfl⟩
theorem dL_law_740 {nm : String} : DB (mLn nm) 740 (.goto (732)) (732) 743 1472 := ⟨(kL_law_29 (nm := nm)).at 0 rfl, rfl, rfl⟩
theorem dL_law_743 {nm : String} : DLa (mLn nm) 743 1 744 := Or.inl ⟨1, (kL_law_29 (nm := nm)).at 1 rfl, rfl, rfl⟩
theorem dL_law_744 {nm : String} : DLa (mLn nm) 744 0 745 := Or.inl ⟨0, (kL_law_29 (nm := nm)).at 2 rfl, rfl, rfl⟩
theorem dL_law_745 {nm : String} : DLi (mLn nm) 745 3 746 := Or.inl ⟨3, (kL_law_29 (nm := nm)).at 3 rfl, rfl, rfl⟩
theorem dL_law_746 {nm : String} : DC (mLn nm) 746 1 747 := Or.inl ⟨1, (kL_law_29 (nm := nm)).at 4 rfl, by decide, rfl⟩
theorem dL_law_747 {nm : String} : DI (mLn nm) 747 (.iadd) 1 748 := ⟨(kL_law_29 (nm := nm)).at 5 rfl, rfl⟩
theorem dL_law_748 {nm : String} : DI (mLn nm) 748 (.iaload) 1 749 := ⟨(kL_law_29 (nm := nm)).at 6 rfl, rfl⟩
theorem dL_law_749 {nm : String} : DLa (mLn nm) 749 0 750 := Or.inl ⟨0, (kL_law_29 (nm := nm)).at 7 rfl, rfl, rfl⟩
theorem dL_law_750 {nm : String} : DLi (mLn nm) 750 3 751 := Or.inl ⟨3, (kL_law_29 (nm := nm)).at 8 rfl, rfl, rfl⟩
theorem dL_law_751 {nm : String} : DC (mLn nm) 751 2 752 := Or.inl ⟨2, (kL_law_29 (nm := nm)).at 9 rfl, by decide, rfl⟩
theorem dL_law_752 {nm : String} : DI (mLn nm) 752 (.iadd) 1 753 := ⟨(kL_law_29 (nm := nm)).at 10 rfl, rfl⟩
theorem dL_law_753 {nm : String} : DI (mLn nm) 753 (.iaload) 1 754 := ⟨(kL_law_29 (nm := nm)).at 11 rfl, rfl⟩
theorem dL_law_754 {nm : String} : DI (mLn nm) 754 (.invokevirtual 84) 3 757 := ⟨(kL_law_29 (nm := nm)).at 12 rfl, rfl⟩
theorem dL_law_757 {nm : String} : DI (mLn nm) 757 (.pop) 1 758 := ⟨(kL_law_29 (nm := nm)).at 13 rfl, rfl⟩
theorem dL_law_758 {nm : String} : DLa (mLn nm) 758 2 759 := Or.inl ⟨2, (kL_law_29 (nm := nm)).at 14 rfl, rfl, rfl⟩
theorem dL_law_759 {nm : String} : DLa (mLn nm) 759 0 760 := Or.inl ⟨0, (kL_law_29 (nm := nm)).at 15 rfl, rfl, rfl⟩
theorem dL_law_760 {nm : String} : DLi (mLn nm) 760 3 761 := Or.inl ⟨3, (kL_law_30 (nm := nm)).at 0 rfl, rfl, rfl⟩
theorem dL_law_761 {nm : String} : DC (mLn nm) 761 1 762 := Or.inl ⟨1, (kL_law_30 (nm := nm)).at 1 rfl, by decide, rfl⟩
theorem dL_law_762 {nm : String} : DI (mLn nm) 762 (.iadd) 1 763 := ⟨(kL_law_30 (nm := nm)).at 2 rfl, rfl⟩
theorem dL_law_763 {nm : String} : DI (mLn nm) 763 (.iaload) 1 764 := ⟨(kL_law_30 (nm := nm)).at 3 rfl, rfl⟩
theorem dL_law_764 {nm : String} : DLa (mLn nm) 764 0 765 := Or.inl ⟨0, (kL_law_30 (nm := nm)).at 4 rfl, rfl, rfl⟩
theorem dL_law_765 {nm : String} : DLi (mLn nm) 765 3 766 := Or.inl ⟨3, (kL_law_30 (nm := nm)).at 5 rfl, rfl, rfl⟩
theorem dL_law_766 {nm : String} : DC (mLn nm) 766 2 767 := Or.inl ⟨2, (kL_law_30 (nm := nm)).at 6 rfl, by decide, rfl⟩
theorem dL_law_767 {nm : String} : DI (mLn nm) 767 (.iadd) 1 768 := ⟨(kL_law_30 (nm := nm)).at 7 rfl, rfl⟩
theorem dL_law_768 {nm : String} : DI (mLn nm) 768 (.iaload) 1 769 := ⟨(kL_law_30 (nm := nm)).at 8 rfl, rfl⟩
theorem dL_law_769 {nm : String} : DI (mLn nm) 769 (.invokevirtual 87) 3 772 := ⟨(kL_law_30 (nm := nm)).at 9 rfl, rfl⟩
theorem dL_law_772 {nm : String} : DI (mLn nm) 772 (.pop) 1 773 := ⟨(kL_law_30 (nm := nm)).at 10 rfl, rfl⟩
theorem dL_law_773 {nm : String} : DB (mLn nm) 773 (.goto (699)) (699) 776 1472 := ⟨(kL_law_30 (nm := nm)).at 11 rfl, rfl, rfl⟩
theorem dL_law_776 {nm : String} : DLa (mLn nm) 776 1 777 := Or.inl ⟨1, (kL_law_30 (nm := nm)).at 12 rfl, rfl, rfl⟩
theorem dL_law_777 {nm : String} : DLa (mLn nm) 777 0 778 := Or.inl ⟨0, (kL_law_30 (nm := nm)).at 13 rfl, rfl, rfl⟩
theorem dL_law_778 {nm : String} : DLi (mLn nm) 778 3 779 := Or.inl ⟨3, (kL_law_30 (nm := nm)).at 14 rfl, rfl, rfl⟩
theorem dL_law_779 {nm : String} : DC (mLn nm) 779 1 780 := Or.inl ⟨1, (kL_law_30 (nm := nm)).at 15 rfl, by decide, rfl⟩
theorem dL_law_780 {nm : String} : DI (mLn nm) 780 (.iadd) 1 781 := ⟨(kL_law_31 (nm := nm)).at 0 rfl, rfl⟩
theorem dL_law_781 {nm : String} : DI (mLn nm) 781 (.iaload) 1 782 := ⟨(kL_law_31 (nm := nm)).at 1 rfl, rfl⟩
theorem dL_law_782 {nm : String} : DLa (mLn nm) 782 0 783 := Or.inl ⟨0, (kL_law_31 (nm := nm)).at 2 rfl, rfl, rfl⟩
theorem dL_law_783 {nm : String} : DLi (mLn nm) 783 3 784 := Or.inl ⟨3, (kL_law_31 (nm := nm)).at 3 rfl, rfl, rfl⟩
theorem dL_law_784 {nm : String} : DC (mLn nm) 784 2 785 := Or.inl ⟨2, (kL_law_31 (nm := nm)).at 4 rfl, by decide, rfl⟩
theorem dL_law_785 {nm : String} : DI (mLn nm) 785 (.iadd) 1 786 := ⟨(kL_law_31 (nm := nm)).at 5 rfl, rfl⟩
theorem dL_law_786 {nm : String} : DI (mLn nm) 786 (.iaload) 1 787 := ⟨(kL_law_31 (nm := nm)).at 6 rfl, rfl⟩
theorem dL_law_787 {nm : String} : DI (mLn nm) 787 (.invokevirtual 88) 3 790 := ⟨(kL_law_31 (nm := nm)).at 7 rfl, rfl⟩
theorem dL_law_790 {nm : String} : DI (mLn nm) 790 (.pop) 1 791 := ⟨(kL_law_31 (nm := nm)).at 8 rfl, rfl⟩
theorem dL_law_791 {nm : String} : DLa (mLn nm) 791 2 792 := Or.inl ⟨2, (kL_law_31 (nm := nm)).at 9 rfl, rfl, rfl⟩
theorem dL_law_792 {nm : String} : DLa (mLn nm) 792 0 793 := Or.inl ⟨0, (kL_law_31 (nm := nm)).at 10 rfl, rfl, rfl⟩
theorem dL_law_793 {nm : String} : DLi (mLn nm) 793 3 794 := Or.inl ⟨3, (kL_law_31 (nm := nm)).at 11 rfl, rfl, rfl⟩
theorem dL_law_794 {nm : String} : DC (mLn nm) 794 1 795 := Or.inl ⟨1, (kL_law_31 (nm := nm)).at 12 rfl, by decide, rfl⟩
theorem dL_law_795 {nm : String} : DI (mLn nm) 795 (.iadd) 1 796 := ⟨(kL_law_31 (nm := nm)).at 13 rfl, rfl⟩
theorem dL_law_796 {nm : String} : DI (mLn nm) 796 (.iaload) 1 797 := ⟨(kL_law_31 (nm := nm)).at 14 rfl, rfl⟩
theorem dL_law_797 {nm : String} : DLa (mLn nm) 797 0 798 := Or.inl ⟨0, (kL_law_31 (nm := nm)).at 15 rfl, rfl, rfl⟩
theorem dL_law_798 {nm : String} : DLi (mLn nm) 798 3 799 := Or.inl ⟨3, (kL_law_32 (nm := nm)).at 0 rfl, rfl, rfl⟩
theorem dL_law_799 {nm : String} : DC (mLn nm) 799 2 800 := Or.inl ⟨2, (kL_law_32 (nm := nm)).at 1 rfl, by decide, rfl⟩
theorem dL_law_800 {nm : String} : DI (mLn nm) 800 (.iadd) 1 801 := ⟨(kL_law_32 (nm := nm)).at 2 rfl, rfl⟩
theorem dL_law_801 {nm : String} : DI (mLn nm) 801 (.iaload) 1 802 := ⟨(kL_law_32 (nm := nm)).at 3 rfl, rfl⟩
theorem dL_law_802 {nm : String} : DI (mLn nm) 802 (.invokevirtual 91) 3 805 := ⟨(kL_law_32 (nm := nm)).at 4 rfl, rfl⟩
theorem dL_law_805 {nm : String} : DI (mLn nm) 805 (.pop) 1 806 := ⟨(kL_law_32 (nm := nm)).at 5 rfl, rfl⟩
theorem dL_law_806 {nm : String} : DB (mLn nm) 806 (.goto (666)) (666) 809 1472 := ⟨(kL_law_32 (nm := nm)).at 6 rfl, rfl, rfl⟩
theorem dL_law_809 {nm : String} : DLa (mLn nm) 809 1 810 := Or.inl ⟨1, (kL_law_32 (nm := nm)).at 7 rfl, rfl, rfl⟩
theorem dL_law_810 {nm : String} : DLa (mLn nm) 810 0 811 := Or.inl ⟨0, (kL_law_32 (nm := nm)).at 8 rfl, rfl, rfl⟩
theorem dL_law_811 {nm : String} : DLi (mLn nm) 811 3 812 := Or.inl ⟨3, (kL_law_32 (nm := nm)).at 9 rfl, rfl, rfl⟩
theorem dL_law_812 {nm : String} : DC (mLn nm) 812 1 813 := Or.inl ⟨1, (kL_law_32 (nm := nm)).at 10 rfl, by decide, rfl⟩
theorem dL_law_813 {nm : String} : DI (mLn nm) 813 (.iadd) 1 814 := ⟨(kL_law_32 (nm := nm)).at 11 rfl, rfl⟩
theorem dL_law_814 {nm : String} : DI (mLn nm) 814 (.iaload) 1 815 := ⟨(kL_law_32 (nm := nm)).at 12 rfl, rfl⟩
theorem dL_law_815 {nm : String} : DLa (mLn nm) 815 0 816 := Or.inl ⟨0, (kL_law_32 (nm := nm)).at 13 rfl, rfl, rfl⟩
theorem dL_law_816 {nm : String} : DLi (mLn nm) 816 3 817 := Or.inl ⟨3, (kL_law_32 (nm := nm)).at 14 rfl, rfl, rfl⟩
theorem dL_law_817 {nm : String} : DC (mLn nm) 817 2 818 := Or.inl ⟨2, (kL_law_32 (nm := nm)).at 15 rfl, by decide, rfl⟩
theorem dL_law_818 {nm : String} : DI (mLn nm) 818 (.iadd) 1 819 := ⟨(kL_law_33 (nm := nm)).at 0 rfl, rfl⟩
theorem dL_law_819 {nm : String} : DI (mLn nm) 819 (.iaload) 1 820 := ⟨(kL_law_33 (nm := nm)).at 1 rfl, rfl⟩
theorem dL_law_820 {nm : String} : DI (mLn nm) 820 (.invokevirtual 92) 3 823 := ⟨(kL_law_33 (nm := nm)).at 2 rfl, rfl⟩
theorem dL_law_823 {nm : String} : DI (mLn nm) 823 (.pop) 1 824 := ⟨(kL_law_33 (nm := nm)).at 3 rfl, rfl⟩
theorem dL_law_824 {nm : String} : DLa (mLn nm) 824 2 825 := Or.inl ⟨2, (kL_law_33 (nm := nm)).at 4 rfl, rfl, rfl⟩
theorem dL_law_825 {nm : String} : DLa (mLn nm) 825 0 826 := Or.inl ⟨0, (kL_law_33 (nm := nm)).at 5 rfl, rfl, rfl⟩
theorem dL_law_826 {nm : String} : DLi (mLn nm) 826 3 827 := Or.inl ⟨3, (kL_law_33 (nm := nm)).at 6 rfl, rfl, rfl⟩
theorem dL_law_827 {nm : String} : DC (mLn nm) 827 1 828 := Or.inl ⟨1, (kL_law_33 (nm := nm)).at 7 rfl, by decide, rfl⟩
theorem dL_law_828 {nm : String} : DI (mLn nm) 828 (.iadd) 1 829 := ⟨(kL_law_33 (nm := nm)).at 8 rfl, rfl⟩
theorem dL_law_829 {nm : String} : DI (mLn nm) 829 (.iaload) 1 830 := ⟨(kL_law_33 (nm := nm)).at 9 rfl, rfl⟩
theorem dL_law_830 {nm : String} : DLa (mLn nm) 830 0 831 := Or.inl ⟨0, (kL_law_33 (nm := nm)).at 10 rfl, rfl, rfl⟩
theorem dL_law_831 {nm : String} : DLi (mLn nm) 831 3 832 := Or.inl ⟨3, (kL_law_33 (nm := nm)).at 11 rfl, rfl, rfl⟩
theorem dL_law_832 {nm : String} : DC (mLn nm) 832 2 833 := Or.inl ⟨2, (kL_law_33 (nm := nm)).at 12 rfl, by decide, rfl⟩
theorem dL_law_833 {nm : String} : DI (mLn nm) 833 (.iadd) 1 834 := ⟨(kL_law_33 (nm := nm)).at 13 rfl, rfl⟩
theorem dL_law_834 {nm : String} : DI (mLn nm) 834 (.iaload) 1 835 := ⟨(kL_law_33 (nm := nm)).at 14 rfl, rfl⟩
theorem dL_law_835 {nm : String} : DI (mLn nm) 835 (.invokevirtual 95) 3 838 := ⟨(kL_law_33 (nm := nm)).at 15 rfl, rfl⟩
theorem dL_law_838 {nm : String} : DI (mLn nm) 838 (.pop) 1 839 := ⟨(kL_law_34 (nm := nm)).at 0 rfl, rfl⟩
theorem dL_law_839 {nm : String} : DB (mLn nm) 839 (.goto (633)) (633) 842 1472 := ⟨(kL_law_34 (nm := nm)).at 1 rfl, rfl, rfl⟩
theorem dL_law_842 {nm : String} : DLa (mLn nm) 842 1 843 := Or.inl ⟨1, (kL_law_34 (nm := nm)).at 2 rfl, rfl, rfl⟩
theorem dL_law_843 {nm : String} : DLa (mLn nm) 843 0 844 := Or.inl ⟨0, (kL_law_34 (nm := nm)).at 3 rfl, rfl, rfl⟩
theorem dL_law_844 {nm : String} : DLi (mLn nm) 844 3 845 := Or.inl ⟨3, (kL_law_34 (nm := nm)).at 4 rfl, rfl, rfl⟩
theorem dL_law_845 {nm : String} : DC (mLn nm) 845 1 846 := Or.inl ⟨1, (kL_law_34 (nm := nm)).at 5 rfl, by decide, rfl⟩
theorem dL_law_846 {nm : String} : DI (mLn nm) 846 (.iadd) 1 847 := ⟨(kL_law_34 (nm := nm)).at 6 rfl, rfl⟩
theorem dL_law_847 {nm : String} : DI (mLn nm) 847 (.iaload) 1 848 := ⟨(kL_law_34 (nm := nm)).at 7 rfl, rfl⟩
theorem dL_law_848 {nm : String} : DLa (mLn nm) 848 0 849 := Or.inl ⟨0, (kL_law_34 (nm := nm)).at 8 rfl, rfl, rfl⟩
theorem dL_law_849 {nm : String} : DLi (mLn nm) 849 3 850 := Or.inl ⟨3, (kL_law_34 (nm := nm)).at 9 rfl, rfl, rfl⟩
theorem dL_law_850 {nm : String} : DC (mLn nm) 850 2 851 := Or.inl ⟨2, (kL_law_34 (nm := nm)).at 10 rfl, by decide, rfl⟩
theorem dL_law_851 {nm : String} : DI (mLn nm) 851 (.iadd) 1 852 := ⟨(kL_law_34 (nm := nm)).at 11 rfl, rfl⟩
theorem dL_law_852 {nm : String} : DI (mLn nm) 852 (.iaload) 1 853 := ⟨(kL_law_34 (nm := nm)).at 12 rfl, rfl⟩
theorem dL_law_853 {nm : String} : DI (mLn nm) 853 (.invokevirtual 96) 3 856 := ⟨(kL_law_34 (nm := nm)).at 13 rfl, rfl⟩
theorem dL_law_856 {nm : String} : DI (mLn nm) 856 (.pop2) 1 857 := ⟨(kL_law_34 (nm := nm)).at 14 rfl, rfl⟩
theorem dL_law_857 {nm : String} : DLa (mLn nm) 857 2 858 := Or.inl ⟨2, (kL_law_34 (nm := nm)).at 15 rfl, rfl, rfl⟩
theorem dL_law_858 {nm : String} : DLa (mLn nm) 858 0 859 := Or.inl ⟨0, (kL_law_35 (nm := nm)).at 0 rfl, rfl, rfl⟩
theorem dL_law_859 {nm : String} : DLi (mLn nm) 859 3 860 := Or.inl ⟨3, (kL_law_35 (nm := nm)).at 1 rfl, rfl, rfl⟩
theorem dL_law_860 {nm : String} : DC (mLn nm) 860 1 861 := Or.inl ⟨1, (kL_law_35 (nm := nm)).at 2 rfl, by decide, rfl⟩
theorem dL_law_861 {nm : String} : DI (mLn nm) 861 (.iadd) 1 862 := ⟨(kL_law_35 (nm := nm)).at 3 rfl, rfl⟩
theorem dL_law_862 {nm : String} : DI (mLn nm) 862 (.iaload) 1 863 := ⟨(kL_law_35 (nm := nm)).at 4 rfl, rfl⟩
theorem dL_law_863 {nm : String} : DLa (mLn nm) 863 0 864 := Or.inl ⟨0, (kL_law_35 (nm := nm)).at 5 rfl, rfl, rfl⟩
theorem dL_law_864 {nm : String} : DLi (mLn nm) 864 3 865 := Or.inl ⟨3, (kL_law_35 (nm := nm)).at 6 rfl, rfl, rfl⟩
theorem dL_law_865 {nm : String} : DC (mLn nm) 865 2 866 := Or.inl ⟨2, (kL_law_35 (nm := nm)).at 7 rfl, by decide, rfl⟩
theorem dL_law_866 {nm : String} : DI (mLn nm) 866 (.iadd) 1 867 := ⟨(kL_law_35 (nm := nm)).at 8 rfl, rfl⟩
theorem dL_law_867 {nm : String} : DI (mLn nm) 867 (.iaload) 1 868 := ⟨(kL_law_35 (nm := nm)).at 9 rfl, rfl⟩
theorem dL_law_868 {nm : String} : DI (mLn nm) 868 (.invokevirtual 99) 3 871 := ⟨(kL_law_35 (nm := nm)).at 10 rfl, rfl⟩
theorem dL_law_871 {nm : String} : DI (mLn nm) 871 (.pop2) 1 872 := ⟨(kL_law_35 (nm := nm)).at 11 rfl, rfl⟩
theorem dL_law_872 {nm : String} : DB (mLn nm) 872 (.goto (600)) (600) 875 1472 := ⟨(kL_law_35 (nm := nm)).at 12 rfl, rfl, rfl⟩
theorem dL_law_875 {nm : String} : DLa (mLn nm) 875 1 876 := Or.inl ⟨1, (kL_law_35 (nm := nm)).at 13 rfl, rfl, rfl⟩
theorem dL_law_876 {nm : String} : DLa (mLn nm) 876 0 877 := Or.inl ⟨0, (kL_law_35 (nm := nm)).at 14 rfl, rfl, rfl⟩
theorem dL_law_877 {nm : String} : DLi (mLn nm) 877 3 878 := Or.inl ⟨3, (kL_law_35 (nm := nm)).at 15 rfl, rfl, rfl⟩
theorem dL_law_878 {nm : String} : DC (mLn nm) 878 1 879 := Or.inl ⟨1, (kL_law_36 (nm := nm)).at 0 rfl, by decide, rfl⟩
theorem dL_law_879 {nm : String} : DI (mLn nm) 879 (.iadd) 1 880 := ⟨(kL_law_36 (nm := nm)).at 1 rfl, rfl⟩
theorem dL_law_880 {nm : String} : DI (mLn nm) 880 (.iaload) 1 881 := ⟨(kL_law_36 (nm := nm)).at 2 rfl, rfl⟩
theorem dL_law_881 {nm : String} : DLa (mLn nm) 881 0 882 := Or.inl ⟨0, (kL_law_36 (nm := nm)).at 3 rfl, rfl, rfl⟩
theorem dL_law_882 {nm : String} : DLi (mLn nm) 882 3 883 := Or.inl ⟨3, (kL_law_36 (nm := nm)).at 4 rfl, rfl, rfl⟩
theorem dL_law_883 {nm : String} : DC (mLn nm) 883 2 884 := Or.inl ⟨2, (kL_law_36 (nm := nm)).at 5 rfl, by decide, rfl⟩
theorem dL_law_884 {nm : String} : DI (mLn nm) 884 (.iadd) 1 885 := ⟨(kL_law_36 (nm := nm)).at 6 rfl, rfl⟩
theorem dL_law_885 {nm : String} : DI (mLn nm) 885 (.iaload) 1 886 := ⟨(kL_law_36 (nm := nm)).at 7 rfl, rfl⟩
theorem dL_law_886 {nm : String} : DLa (mLn nm) 886 0 887 := Or.inl ⟨0, (kL_law_36 (nm := nm)).at 8 rfl, rfl, rfl⟩
theorem dL_law_887 {nm : String} : DLi (mLn nm) 887 3 888 := Or.inl ⟨3, (kL_law_36 (nm := nm)).at 9 rfl, rfl, rfl⟩
theorem dL_law_888 {nm : String} : DC (mLn nm) 888 3 889 := Or.inl ⟨3, (kL_law_36 (nm := nm)).at 10 rfl, by decide, rfl⟩
theorem dL_law_889 {nm : String} : DI (mLn nm) 889 (.iadd) 1 890 := ⟨(kL_law_36 (nm := nm)).at 11 rfl, rfl⟩
theorem dL_law_890 {nm : String} : DI (mLn nm) 890 (.iaload) 1 891 := ⟨(kL_law_36 (nm := nm)).at 12 rfl, rfl⟩
theorem dL_law_891 {nm : String} : DI (mLn nm) 891 (.invokevirtual 100) 3 894 := ⟨(kL_law_36 (nm := nm)).at 13 rfl, rfl⟩
theorem dL_law_894 {nm : String} : DI (mLn nm) 894 (.pop) 1 895 := ⟨(kL_law_36 (nm := nm)).at 14 rfl, rfl⟩
theorem dL_law_895 {nm : String} : DLa (mLn nm) 895 2 896 := Or.inl ⟨2, (kL_law_36 (nm := nm)).at 15 rfl, rfl, rfl⟩
theorem dL_law_896 {nm : String} : DLa (mLn nm) 896 0 897 := Or.inl ⟨0, (kL_law_37 (nm := nm)).at 0 rfl, rfl, rfl⟩
theorem dL_law_897 {nm : String} : DLi (mLn nm) 897 3 898 := Or.inl ⟨3, (kL_law_37 (nm := nm)).at 1 rfl, rfl, rfl⟩
theorem dL_law_898 {nm : String} : DC (mLn nm) 898 1 899 := Or.inl ⟨1, (kL_law_37 (nm := nm)).at 2 rfl, by decide, rfl⟩
theorem dL_law_899 {nm : String} : DI (mLn nm) 899 (.iadd) 1 900 := ⟨(kL_law_37 (nm := nm)).at 3 rfl, rfl⟩
theorem dL_law_900 {nm : String} : DI (mLn nm) 900 (.iaload) 1 901 := ⟨(kL_law_37 (nm := nm)).at 4 rfl, rfl⟩
theorem dL_law_901 {nm : String} : DLa (mLn nm) 901 0 902 := Or.inl ⟨0, (kL_law_37 (nm := nm)).at 5 rfl, rfl, rfl⟩
theorem dL_law_902 {nm : String} : DLi (mLn nm) 902 3 903 := Or.inl ⟨3, (kL_law_37 (nm := nm)).at 6 rfl, rfl, rfl⟩
theorem dL_law_903 {nm : String} : DC (mLn nm) 903 2 904 := Or.inl ⟨2, (kL_law_37 (nm := nm)).at 7 rfl, by decide, rfl⟩
theorem dL_law_904 {nm : String} : DI (mLn nm) 904 (.iadd) 1 905 := ⟨(kL_law_37 (nm := nm)).at 8 rfl, rfl⟩
theorem dL_law_905 {nm : String} : DI (mLn nm) 905 (.iaload) 1 906 := ⟨(kL_law_37 (nm := nm)).at 9 rfl, rfl⟩
theorem dL_law_906 {nm : String} : DLa (mLn nm) 906 0 907 := Or.inl ⟨0, (kL_law_37 (nm := nm)).at 10 rfl, rfl, rfl⟩
theorem dL_law_907 {nm : String} : DLi (mLn nm) 907 3 908 := Or.inl ⟨3, (kL_law_37 (nm := nm)).at 11 rfl, rfl, rfl⟩
theorem dL_law_908 {nm : String} : DC (mLn nm) 908 3 909 := Or.inl ⟨3, (kL_law_37 (nm := nm)).at 12 rfl, by decide, rfl⟩
theorem dL_law_909 {nm : String} : DI (mLn nm) 909 (.iadd) 1 910 := ⟨(kL_law_37 (nm := nm)).at 13 rfl, rfl⟩
theorem dL_law_910 {nm : String} : DI (mLn nm) 910 (.iaload) 1 911 := ⟨(kL_law_37 (nm := nm)).at 14 rfl, rfl⟩
theorem dL_law_911 {nm : String} : DI (mLn nm) 911 (.invokevirtual 103) 3 914 := ⟨(kL_law_37 (nm := nm)).at 15 rfl, rfl⟩
theorem dL_law_914 {nm : String} : DI (mLn nm) 914 (.pop) 1 915 := ⟨(kL_law_38 (nm := nm)).at 0 rfl, rfl⟩
theorem dL_law_915 {nm : String} : DB (mLn nm) 915 (.goto (557)) (557) 918 1472 := ⟨(kL_law_38 (nm := nm)).at 1 rfl, rfl, rfl⟩
theorem dL_law_918 {nm : String} : DLa (mLn nm) 918 1 919 := Or.inl ⟨1, (kL_law_38 (nm := nm)).at 2 rfl, rfl, rfl⟩
theorem dL_law_919 {nm : String} : DLa (mLn nm) 919 0 920 := Or.inl ⟨0, (kL_law_38 (nm := nm)).at 3 rfl, rfl, rfl⟩
theorem dL_law_920 {nm : String} : DLi (mLn nm) 920 3 921 := Or.inl ⟨3, (kL_law_38 (nm := nm)).at 4 rfl, rfl, rfl⟩
theorem dL_law_921 {nm : String} : DC (mLn nm) 921 1 922 := Or.inl ⟨1, (kL_law_38 (nm := nm)).at 5 rfl, by decide, rfl⟩
theorem dL_law_922 {nm : String} : DI (mLn nm) 922 (.iadd) 1 923 := ⟨(kL_law_38 (nm := nm)).at 6 rfl, rfl⟩
theorem dL_law_923 {nm : String} : DI (mLn nm) 923 (.iaload) 1 924 := ⟨(kL_law_38 (nm := nm)).at 7 rfl, rfl⟩
theorem dL_law_924 {nm : String} : DLa (mLn nm) 924 0 925 := Or.inl ⟨0, (kL_law_38 (nm := nm)).at 8 rfl, rfl, rfl⟩
theorem dL_law_925 {nm : String} : DLi (mLn nm) 925 3 926 := Or.inl ⟨3, (kL_law_38 (nm := nm)).at 9 rfl, rfl, rfl⟩
theorem dL_law_926 {nm : String} : DC (mLn nm) 926 2 927 := Or.inl ⟨2, (kL_law_38 (nm := nm)).at 10 rfl, by decide, rfl⟩
theorem dL_law_927 {nm : String} : DI (mLn nm) 927 (.iadd) 1 928 := ⟨(kL_law_38 (nm := nm)).at 11 rfl, rfl⟩
theorem dL_law_928 {nm : String} : DI (mLn nm) 928 (.iaload) 1 929 := ⟨(kL_law_38 (nm := nm)).at 12 rfl, rfl⟩
theorem dL_law_929 {nm : String} : DLa (mLn nm) 929 0 930 := Or.inl ⟨0, (kL_law_38 (nm := nm)).at 13 rfl, rfl, rfl⟩
theorem dL_law_930 {nm : String} : DLi (mLn nm) 930 3 931 := Or.inl ⟨3, (kL_law_38 (nm := nm)).at 14 rfl, rfl, rfl⟩
theorem dL_law_931 {nm : String} : DC (mLn nm) 931 3 932 := Or.inl ⟨3, (kL_law_38 (nm := nm)).at 15 rfl, by decide, rfl⟩
theorem dL_law_932 {nm : String} : DI (mLn nm) 932 (.iadd) 1 933 := ⟨(kL_law_39 (nm := nm)).at 0 rfl, rfl⟩
theorem dL_law_933 {nm : String} : DI (mLn nm) 933 (.iaload) 1 934 := ⟨(kL_law_39 (nm := nm)).at 1 rfl, rfl⟩
theorem dL_law_934 {nm : String} : DI (mLn nm) 934 (.invokevirtual 104) 3 937 := ⟨(kL_law_39 (nm := nm)).at 2 rfl, rfl⟩
theorem dL_law_937 {nm : String} : DI (mLn nm) 937 (.pop) 1 938 := ⟨(kL_law_39 (nm := nm)).at 3 rfl, rfl⟩
theorem dL_law_938 {nm : String} : DLa (mLn nm) 938 2 939 := Or.inl ⟨2, (kL_law_39 (nm := nm)).at 4 rfl, rfl, rfl⟩
theorem dL_law_939 {nm : String} : DLa (mLn nm) 939 0 940 := Or.inl ⟨0, (kL_law_39 (nm := nm)).at 5 rfl, rfl, rfl⟩
theorem dL_law_940 {nm : String} : DLi (mLn nm) 940 3 941 := Or.inl ⟨3, (kL_law_39 (nm := nm)).at 6 rfl, rfl, rfl⟩
theorem dL_law_941 {nm : String} : DC (mLn nm) 941 1 942 := Or.inl ⟨1, (kL_law_39 (nm := nm)).at 7 rfl, by decide, rfl⟩
theorem dL_law_942 {nm : String} : DI (mLn nm) 942 (.iadd) 1 943 := ⟨(kL_law_39 (nm := nm)).at 8 rfl, rfl⟩
theorem dL_law_943 {nm : String} : DI (mLn nm) 943 (.iaload) 1 944 := ⟨(kL_law_39 (nm := nm)).at 9 rfl, rfl⟩
theorem dL_law_944 {nm : String} : DLa (mLn nm) 944 0 945 := Or.inl ⟨0, (kL_law_39 (nm := nm)).at 10 rfl, rfl, rfl⟩
theorem dL_law_945 {nm : String} : DLi (mLn nm) 945 3 946 := Or.inl ⟨3, (kL_law_39 (nm := nm)).at 11 rfl, rfl, rfl⟩
theorem dL_law_946 {nm : String} : DC (mLn nm) 946 2 947 := Or.inl ⟨2, (kL_law_39 (nm := nm)).at 12 rfl, by decide, rfl⟩
theorem dL_law_947 {nm : String} : DI (mLn nm) 947 (.iadd) 1 948 := ⟨(kL_law_39 (nm := nm)).at 13 rfl, rfl⟩
theorem dL_law_948 {nm : String} : DI (mLn nm) 948 (.iaload) 1 949 := ⟨(kL_law_39 (nm := nm)).at 14 rfl, rfl⟩
theorem dL_law_949 {nm : String} : DLa (mLn nm) 949 0 950 := Or.inl ⟨0, (kL_law_39 (nm := nm)).at 15 rfl, rfl, rfl⟩
theorem dL_law_950 {nm : String} : DLi (mLn nm) 950 3 951 := Or.inl ⟨3, (kL_law_40 (nm := nm)).at 0 rfl, rfl, rfl⟩
theorem dL_law_951 {nm : String} : DC (mLn nm) 951 3 952 := Or.inl ⟨3, (kL_law_40 (nm := nm)).at 1 rfl, by decide, rfl⟩
theorem dL_law_952 {nm : String} : DI (mLn nm) 952 (.iadd) 1 953 := ⟨(kL_law_40 (nm := nm)).at 2 rfl, rfl⟩
theorem dL_law_953 {nm : String} : DI (mLn nm) 953 (.iaload) 1 954 := ⟨(kL_law_40 (nm := nm)).at 3 rfl, rfl⟩
theorem dL_law_954 {nm : String} : DI (mLn nm) 954 (.invokevirtual 107) 3 957 := ⟨(kL_law_40 (nm := nm)).at 4 rfl, rfl⟩
theorem dL_law_957 {nm : String} : DI (mLn nm) 957 (.pop) 1 958 := ⟨(kL_law_40 (nm := nm)).at 5 rfl, rfl⟩
theorem dL_law_958 {nm : String} : DB (mLn nm) 958 (.goto (514)) (514) 961 1472 := ⟨(kL_law_40 (nm := nm)).at 6 rfl, rfl, rfl⟩
theorem dL_law_961 {nm : String} : DLa (mLn nm) 961 1 962 := Or.inl ⟨1, (kL_law_40 (nm := nm)).at 7 rfl, rfl, rfl⟩
theorem dL_law_962 {nm : String} : DLa (mLn nm) 962 0 963 := Or.inl ⟨0, (kL_law_40 (nm := nm)).at 8 rfl, rfl, rfl⟩
theorem dL_law_963 {nm : String} : DLi (mLn nm) 963 3 964 := Or.inl ⟨3, (kL_law_40 (nm := nm)).at 9 rfl, rfl, rfl⟩
theorem dL_law_964 {nm : String} : DC (mLn nm) 964 1 965 := Or.inl ⟨1, (kL_law_40 (nm := nm)).at 10 rfl, by decide, rfl⟩
theorem dL_law_965 {nm : String} : DI (mLn nm) 965 (.iadd) 1 966 := ⟨(kL_law_40 (nm := nm)).at 11 rfl, rfl⟩
theorem dL_law_966 {nm : String} : DI (mLn nm) 966 (.iaload) 1 967 := ⟨(kL_law_40 (nm := nm)).at 12 rfl, rfl⟩
theorem dL_law_967 {nm : String} : DI (mLn nm) 967 (.invokevirtual 108) 3 970 := ⟨(kL_law_40 (nm := nm)).at 13 rfl, rfl⟩
theorem dL_law_970 {nm : String} : DI (mLn nm) 970 (.pop) 1 971 := ⟨(kL_law_40 (nm := nm)).at 14 rfl, rfl⟩
theorem dL_law_971 {nm : String} : DLa (mLn nm) 971 2 972 := Or.inl ⟨2, (kL_law_40 (nm := nm)).at 15 rfl, rfl, rfl⟩
theorem dL_law_972 {nm : String} : DLa (mLn nm) 972 0 973 := Or.inl ⟨0, (kL_law_41 (nm := nm)).at 0 rfl, rfl, rfl⟩
theorem dL_law_973 {nm : String} : DLi (mLn nm) 973 3 974 := Or.inl ⟨3, (kL_law_41 (nm := nm)).at 1 rfl, rfl, rfl⟩
theorem dL_law_974 {nm : String} : DC (mLn nm) 974 1 975 := Or.inl ⟨1, (kL_law_41 (nm := nm)).at 2 rfl, by decide, rfl⟩
theorem dL_law_975 {nm : String} : DI (mLn nm) 975 (.iadd) 1 976 := ⟨(kL_law_41 (nm := nm)).at 3 rfl, rfl⟩
theorem dL_law_976 {nm : String} : DI (mLn nm) 976 (.iaload) 1 977 := ⟨(kL_law_41 (nm := nm)).at 4 rfl, rfl⟩
theorem dL_law_977 {nm : String} : DI (mLn nm) 977 (.invokevirtual 111) 3 980 := ⟨(kL_law_41 (nm := nm)).at 5 rfl, rfl⟩
theorem dL_law_980 {nm : String} : DI (mLn nm) 980 (.pop) 1 981 := ⟨(kL_law_41 (nm := nm)).at 6 rfl, rfl⟩
theorem dL_law_981 {nm : String} : DB (mLn nm) 981 (.goto (491)) (491) 984 1472 := ⟨(kL_law_41 (nm := nm)).at 7 rfl, rfl, rfl⟩
theorem dL_law_984 {nm : String} : DLa (mLn nm) 984 1 985 := Or.inl ⟨1, (kL_law_41 (nm := nm)).at 8 rfl, rfl, rfl⟩
theorem dL_law_985 {nm : String} : DLa (mLn nm) 985 0 986 := Or.inl ⟨0, (kL_law_41 (nm := nm)).at 9 rfl, rfl, rfl⟩
theorem dL_law_986 {nm : String} : DLi (mLn nm) 986 3 987 := Or.inl ⟨3, (kL_law_41 (nm := nm)).at 10 rfl, rfl, rfl⟩
theorem dL_law_987 {nm : String} : DC (mLn nm) 987 1 988 := Or.inl ⟨1, (kL_law_41 (nm := nm)).at 11 rfl, by decide, rfl⟩
theorem dL_law_988 {nm : String} : DI (mLn nm) 988 (.iadd) 1 989 := ⟨(kL_law_41 (nm := nm)).at 12 rfl, rfl⟩
theorem dL_law_989 {nm : String} : DI (mLn nm) 989 (.iaload) 1 990 := ⟨(kL_law_41 (nm := nm)).at 13 rfl, rfl⟩
theorem dL_law_990 {nm : String} : DI (mLn nm) 990 (.invokevirtual 112) 3 993 := ⟨(kL_law_41 (nm := nm)).at 14 rfl, rfl⟩
theorem dL_law_993 {nm : String} : DI (mLn nm) 993 (.pop) 1 994 := ⟨(kL_law_41 (nm := nm)).at 15 rfl, rfl⟩
theorem dL_law_994 {nm : String} : DLa (mLn nm) 994 2 995 := Or.inl ⟨2, (kL_law_42 (nm := nm)).at 0 rfl, rfl, rfl⟩
theorem dL_law_995 {nm : String} : DLa (mLn nm) 995 0 996 := Or.inl ⟨0, (kL_law_42 (nm := nm)).at 1 rfl, rfl, rfl⟩
theorem dL_law_996 {nm : String} : DLi (mLn nm) 996 3 997 := Or.inl ⟨3, (kL_law_42 (nm := nm)).at 2 rfl, rfl, rfl⟩
theorem dL_law_997 {nm : String} : DC (mLn nm) 997 1 998 := Or.inl ⟨1, (kL_law_42 (nm := nm)).at 3 rfl, by decide, rfl⟩
theorem dL_law_998 {nm : String} : DI (mLn nm) 998 (.iadd) 1 999 := ⟨(kL_law_42 (nm := nm)).at 4 rfl, rfl⟩
theorem dL_law_999 {nm : String} : DI (mLn nm) 999 (.iaload) 1 1000 := ⟨(kL_law_42 (nm := nm)).at 5 rfl, rfl⟩
theorem dL_law_1000 {nm : String} : DI (mLn nm) 1000 (.invokevirtual 115) 3 1003 := ⟨(kL_law_42 (nm := nm)).at 6 rfl, rfl⟩
theorem dL_law_1003 {nm : String} : DI (mLn nm) 1003 (.pop) 1 1004 := ⟨(kL_law_42 (nm := nm)).at 7 rfl, rfl⟩
theorem dL_law_1004 {nm : String} : DB (mLn nm) 1004 (.goto (468)) (468) 1007 1472 := ⟨(kL_law_42 (nm := nm)).at 8 rfl, rfl, rfl⟩
theorem dL_law_1007 {nm : String} : DLa (mLn nm) 1007 1 1008 := Or.inl ⟨1, (kL_law_42 (nm := nm)).at 9 rfl, rfl, rfl⟩
theorem dL_law_1008 {nm : String} : DLa (mLn nm) 1008 0 1009 := Or.inl ⟨0, (kL_law_42 (nm := nm)).at 10 rfl, rfl, rfl⟩
theorem dL_law_1009 {nm : String} : DLi (mLn nm) 1009 3 1010 := Or.inl ⟨3, (kL_law_42 (nm := nm)).at 11 rfl, rfl, rfl⟩
theorem dL_law_1010 {nm : String} : DC (mLn nm) 1010 1 1011 := Or.inl ⟨1, (kL_law_42 (nm := nm)).at 12 rfl, by decide, rfl⟩
theorem dL_law_1011 {nm : String} : DI (mLn nm) 1011 (.iadd) 1 1012 := ⟨(kL_law_42 (nm := nm)).at 13 rfl, rfl⟩
theorem dL_law_1012 {nm : String} : DI (mLn nm) 1012 (.iaload) 1 1013 := ⟨(kL_law_42 (nm := nm)).at 14 rfl, rfl⟩
theorem dL_law_1013 {nm : String} : DI (mLn nm) 1013 (.invokevirtual 116) 3 1016 := ⟨(kL_law_42 (nm := nm)).at 15 rfl, rfl⟩
theorem dL_law_1016 {nm : String} : DI (mLn nm) 1016 (.pop) 1 1017 := ⟨(kL_law_43 (nm := nm)).at 0 rfl, rfl⟩
theorem dL_law_1017 {nm : String} : DLa (mLn nm) 1017 2 1018 := Or.inl ⟨2, (kL_law_43 (nm := nm)).at 1 rfl, rfl, rfl⟩
theorem dL_law_1018 {nm : String} : DLa (mLn nm) 1018 0 1019 := Or.inl ⟨0, (kL_law_43 (nm := nm)).at 2 rfl, rfl, rfl⟩
theorem dL_law_1019 {nm : String} : DLi (mLn nm) 1019 3 1020 := Or.inl ⟨3, (kL_law_43 (nm := nm)).at 3 rfl, rfl, rfl⟩
theorem dL_law_1020 {nm : String} : DC (mLn nm) 1020 1 1021 := Or.inl ⟨1, (kL_law_43 (nm := nm)).at 4 rfl, by decide, rfl⟩
theorem dL_law_1021 {nm : String} : DI (mLn nm) 1021 (.iadd) 1 1022 := ⟨(kL_law_43 (nm := nm)).at 5 rfl, rfl⟩
theorem dL_law_1022 {nm : String} : DI (mLn nm) 1022 (.iaload) 1 1023 := ⟨(kL_law_43 (nm := nm)).at 6 rfl, rfl⟩
theorem dL_law_1023 {nm : String} : DI (mLn nm) 1023 (.invokevirtual 119) 3 1026 := ⟨(kL_law_43 (nm := nm)).at 7 rfl, rfl⟩
theorem dL_law_1026 {nm : String} : DI (mLn nm) 1026 (.pop) 1 1027 := ⟨(kL_law_43 (nm := nm)).at 8 rfl, rfl⟩
theorem dL_law_1027 {nm : String} : DB (mLn nm) 1027 (.goto (445)) (445) 1030 1472 := ⟨(kL_law_43 (nm := nm)).at 9 rfl, rfl, rfl⟩
theorem dL_law_1030 {nm : String} : DLa (mLn nm) 1030 1 1031 := Or.inl ⟨1, (kL_law_43 (nm := nm)).at 10 rfl, rfl, rfl⟩
theorem dL_law_1031 {nm : String} : DI (mLn nm) 1031 (.invokevirtual 120) 3 1034 := ⟨(kL_law_43 (nm := nm)).at 11 rfl, rfl⟩
theorem dL_law_1034 {nm : String} : DI (mLn nm) 1034 (.pop) 1 1035 := ⟨(kL_law_43 (nm := nm)).at 12 rfl, rfl⟩
theorem dL_law_1035 {nm : String} : DLa (mLn nm) 1035 2 1036 := Or.inl ⟨2, (kL_law_43 (nm := nm)).at 13 rfl, rfl, rfl⟩
theorem dL_law_1036 {nm : String} : DI (mLn nm) 1036 (.invokevirtual 123) 3 1039 := ⟨(kL_law_43 (nm := nm)).at 14 rfl, rfl⟩
theorem dL_law_1039 {nm : String} : DI (mLn nm) 1039 (.pop) 1 1040 := ⟨(kL_law_43 (nm := nm)).at 15 rfl, rfl⟩
theorem dL_law_1040 {nm : String} : DB (mLn nm) 1040 (.goto (432)) (432) 1043 1472 := ⟨(kL_law_44 (nm := nm)).at 0 rfl, rfl, rfl⟩
theorem dL_law_1043 {nm : String} : DLa (mLn nm) 1043 1 1044 := Or.inl ⟨1, (kL_law_44 (nm := nm)).at 1 rfl, rfl, rfl⟩
theorem dL_law_1044 {nm : String} : DI (mLn nm) 1044 (.invokevirtual 124) 3 1047 := ⟨(kL_law_44 (nm := nm)).at 2 rfl, rfl⟩
theorem dL_law_1047 {nm : String} : DI (mLn nm) 1047 (.pop) 1 1048 := ⟨(kL_law_44 (nm := nm)).at 3 rfl, rfl⟩
theorem dL_law_1048 {nm : String} : DLa (mLn nm) 1048 2 1049 := Or.inl ⟨2, (kL_law_44 (nm := nm)).at 4 rfl, rfl, rfl⟩
theorem dL_law_1049 {nm : String} : DI (mLn nm) 1049 (.invokevirtual 127) 3 1052 := ⟨(kL_law_44 (nm := nm)).at 5 rfl, rfl⟩
theorem dL_law_1052 {nm : String} : DI (mLn nm) 1052 (.pop) 1 1053 := ⟨(kL_law_44 (nm := nm)).at 6 rfl, rfl⟩
theorem dL_law_1053 {nm : String} : DB (mLn nm) 1053 (.goto (419)) (419) 1056 1472 := ⟨(kL_law_44 (nm := nm)).at 7 rfl, rfl, rfl⟩
theorem dL_law_1056 {nm : String} : DLa (mLn nm) 1056 1 1057 := Or.inl ⟨1, (kL_law_44 (nm := nm)).at 8 rfl, rfl, rfl⟩
theorem dL_law_1057 {nm : String} : DI (mLn nm) 1057 (.invokevirtual 128) 3 1060 := ⟨(kL_law_44 (nm := nm)).at 9 rfl, rfl⟩
theorem dL_law_1060 {nm : String} : DI (mLn nm) 1060 (.pop) 1 1061 := ⟨(kL_law_44 (nm := nm)).at 10 rfl, rfl⟩
theorem dL_law_1061 {nm : String} : DLa (mLn nm) 1061 2 1062 := Or.inl ⟨2, (kL_law_44 (nm := nm)).at 11 rfl, rfl, rfl⟩
theorem dL_law_1062 {nm : String} : DI (mLn nm) 1062 (.invokevirtual 131) 3 1065 := ⟨(kL_law_44 (nm := nm)).at 12 rfl, rfl⟩
theorem dL_law_1065 {nm : String} : DI (mLn nm) 1065 (.pop) 1 1066 := ⟨(kL_law_44 (nm := nm)).at 13 rfl, rfl⟩
theorem dL_law_1066 {nm : String} : DB (mLn nm) 1066 (.goto (406)) (406) 1069 1472 := ⟨(kL_law_44 (nm := nm)).at 14 rfl, rfl, rfl⟩
theorem dL_law_1069 {nm : String} : DLa (mLn nm) 1069 1 1070 := Or.inl ⟨1, (kL_law_44 (nm := nm)).at 15 rfl, rfl, rfl⟩
theorem dL_law_1070 {nm : String} : DI (mLn nm) 1070 (.invokevirtual 132) 3 1073 := ⟨(kL_law_45 (nm := nm)).at 0 rfl, rfl⟩
theorem dL_law_1073 {nm : String} : DI (mLn nm) 1073 (.pop) 1 1074 := ⟨(kL_law_45 (nm := nm)).at 1 rfl, rfl⟩
theorem dL_law_1074 {nm : String} : DLa (mLn nm) 1074 2 1075 := Or.inl ⟨2, (kL_law_45 (nm := nm)).at 2 rfl, rfl, rfl⟩
theorem dL_law_1075 {nm : String} : DI (mLn nm) 1075 (.invokevirtual 135) 3 1078 := ⟨(kL_law_45 (nm := nm)).at 3 rfl, rfl⟩
theorem dL_law_1078 {nm : String} : DI (mLn nm) 1078 (.pop) 1 1079 := ⟨(kL_law_45 (nm := nm)).at 4 rfl, rfl⟩
theorem dL_law_1079 {nm : String} : DB (mLn nm) 1079 (.goto (393)) (393) 1082 1472 := ⟨(kL_law_45 (nm := nm)).at 5 rfl, rfl, rfl⟩
theorem dL_law_1082 {nm : String} : DLa (mLn nm) 1082 1 1083 := Or.inl ⟨1, (kL_law_45 (nm := nm)).at 6 rfl, rfl, rfl⟩
theorem dL_law_1083 {nm : String} : DLa (mLn nm) 1083 0 1084 := Or.inl ⟨0, (kL_law_45 (nm := nm)).at 7 rfl, rfl, rfl⟩
theorem dL_law_1084 {nm : String} : DLi (mLn nm) 1084 3 1085 := Or.inl ⟨3, (kL_law_45 (nm := nm)).at 8 rfl, rfl, rfl⟩
theorem dL_law_1085 {nm : String} : DC (mLn nm) 1085 1 1086 := Or.inl ⟨1, (kL_law_45 (nm := nm)).at 9 rfl, by decide, rfl⟩
theorem dL_law_1086 {nm : String} : DI (mLn nm) 1086 (.iadd) 1 1087 := ⟨(kL_law_45 (nm := nm)).at 10 rfl, rfl⟩
theorem dL_law_1087 {nm : String} : DI (mLn nm) 1087 (.iaload) 1 1088 := ⟨(kL_law_45 (nm := nm)).at 11 rfl, rfl⟩
theorem dL_law_1088 {nm : String} : DI (mLn nm) 1088 (.invokevirtual 136) 3 1091 := ⟨(kL_law_45 (nm := nm)).at 12 rfl, rfl⟩
theorem dL_law_1091 {nm : String} : DI (mLn nm) 1091 (.pop) 1 1092 := ⟨(kL_law_45 (nm := nm)).at 13 rfl, rfl⟩
theorem dL_law_1092 {nm : String} : DLa (mLn nm) 1092 2 1093 := Or.inl ⟨2, (kL_law_45 (nm := nm)).at 14 rfl, rfl, rfl⟩
theorem dL_law_1093 {nm : String} : DLa (mLn nm) 1093 0 1094 := Or.inl ⟨0, (kL_law_45 (nm := nm)).at 15 rfl, rfl, rfl⟩
theorem dL_law_1094 {nm : String} : DLi (mLn nm) 1094 3 1095 := Or.inl ⟨3, (kL_law_46 (nm := nm)).at 0 rfl, rfl, rfl⟩
theorem dL_law_1095 {nm : String} : DC (mLn nm) 1095 1 1096 := Or.inl ⟨1, (kL_law_46 (nm := nm)).at 1 rfl, by decide, rfl⟩
theorem dL_law_1096 {nm : String} : DI (mLn nm) 1096 (.iadd) 1 1097 := ⟨(kL_law_46 (nm := nm)).at 2 rfl, rfl⟩
theorem dL_law_1097 {nm : String} : DI (mLn nm) 1097 (.iaload) 1 1098 := ⟨(kL_law_46 (nm := nm)).at 3 rfl, rfl⟩
theorem dL_law_1098 {nm : String} : DI (mLn nm) 1098 (.invokevirtual 139) 3 1101 := ⟨(kL_law_46 (nm := nm)).at 4 rfl, rfl⟩
theorem dL_law_1101 {nm : String} : DI (mLn nm) 1101 (.pop) 1 1102 := ⟨(kL_law_46 (nm := nm)).at 5 rfl, rfl⟩
theorem dL_law_1102 {nm : String} : DB (mLn nm) 1102 (.goto (370)) (370) 1105 1472 := ⟨(kL_law_46 (nm := nm)).at 6 rfl, rfl, rfl⟩
theorem dL_law_1105 {nm : String} : DLa (mLn nm) 1105 1 1106 := Or.inl ⟨1, (kL_law_46 (nm := nm)).at 7 rfl, rfl, rfl⟩
theorem dL_law_1106 {nm : String} : DLa (mLn nm) 1106 0 1107 := Or.inl ⟨0, (kL_law_46 (nm := nm)).at 8 rfl, rfl, rfl⟩
theorem dL_law_1107 {nm : String} : DLi (mLn nm) 1107 3 1108 := Or.inl ⟨3, (kL_law_46 (nm := nm)).at 9 rfl, rfl, rfl⟩
theorem dL_law_1108 {nm : String} : DC (mLn nm) 1108 1 1109 := Or.inl ⟨1, (kL_law_46 (nm := nm)).at 10 rfl, by decide, rfl⟩
theorem dL_law_1109 {nm : String} : DI (mLn nm) 1109 (.iadd) 1 1110 := ⟨(kL_law_46 (nm := nm)).at 11 rfl, rfl⟩
theorem dL_law_1110 {nm : String} : DI (mLn nm) 1110 (.iaload) 1 1111 := ⟨(kL_law_46 (nm := nm)).at 12 rfl, rfl⟩
theorem dL_law_1111 {nm : String} : DLa (mLn nm) 1111 0 1112 := Or.inl ⟨0, (kL_law_46 (nm := nm)).at 13 rfl, rfl, rfl⟩
theorem dL_law_1112 {nm : String} : DLi (mLn nm) 1112 3 1113 := Or.inl ⟨3, (kL_law_46 (nm := nm)).at 14 rfl, rfl, rfl⟩
theorem dL_law_1113 {nm : String} : DC (mLn nm) 1113 2 1114 := Or.inl ⟨2, (kL_law_46 (nm := nm)).at 15 rfl, by decide, rfl⟩
theorem dL_law_1114 {nm : String} : DI (mLn nm) 1114 (.iadd) 1 1115 := ⟨(kL_law_47 (nm := nm)).at 0 rfl, rfl⟩
theorem dL_law_1115 {nm : String} : DI (mLn nm) 1115 (.iaload) 1 1116 := ⟨(kL_law_47 (nm := nm)).at 1 rfl, rfl⟩
theorem dL_law_1116 {nm : String} : DLa (mLn nm) 1116 0 1117 := Or.inl ⟨0, (kL_law_47 (nm := nm)).at 2 rfl, rfl, rfl⟩
theorem dL_law_1117 {nm : String} : DLi (mLn nm) 1117 3 1118 := Or.inl ⟨3, (kL_law_47 (nm := nm)).at 3 rfl, rfl, rfl⟩
theorem dL_law_1118 {nm : String} : DC (mLn nm) 1118 3 1119 := Or.inl ⟨3, (kL_law_47 (nm := nm)).at 4 rfl, by decide, rfl⟩
theorem dL_law_1119 {nm : String} : DI (mLn nm) 1119 (.iadd) 1 1120 := ⟨(kL_law_47 (nm := nm)).at 5 rfl, rfl⟩
theorem dL_law_1120 {nm : String} : DI (mLn nm) 1120 (.iaload) 1 1121 := ⟨(kL_law_47 (nm := nm)).at 6 rfl, rfl⟩
theorem dL_law_1121 {nm : String} : DI (mLn nm) 1121 (.invokevirtual 140) 3 1124 := ⟨(kL_law_47 (nm := nm)).at 7 rfl, rfl⟩
theorem dL_law_1124 {nm : String} : DI (mLn nm) 1124 (.pop) 1 1125 := ⟨(kL_law_47 (nm := nm)).at 8 rfl, rfl⟩
theorem dL_law_1125 {nm : String} : DLa (mLn nm) 1125 2 1126 := Or.inl ⟨2, (kL_law_47 (nm := nm)).at 9 rfl, rfl, rfl⟩
theorem dL_law_1126 {nm : String} : DLa (mLn nm) 1126 0 1127 := Or.inl ⟨0, (kL_law_47 (nm := nm)).at 10 rfl, rfl, rfl⟩
theorem dL_law_1127 {nm : String} : DLi (mLn nm) 1127 3 1128 := Or.inl ⟨3, (kL_law_47 (nm := nm)).at 11 rfl, rfl, rfl⟩
theorem dL_law_1128 {nm : String} : DC (mLn nm) 1128 1 1129 := Or.inl ⟨1, (kL_law_47 (nm := nm)).at 12 rfl, by decide, rfl⟩
theorem dL_law_1129 {nm : String} : DI (mLn nm) 1129 (.iadd) 1 1130 := ⟨(kL_law_47 (nm := nm)).at 13 rfl, rfl⟩
theorem dL_law_1130 {nm : String} : DI (mLn nm) 1130 (.iaload) 1 1131 := ⟨(kL_law_47 (nm := nm)).at 14 rfl, rfl⟩
theorem dL_law_1131 {nm : String} : DLa (mLn nm) 1131 0 1132 := Or.inl ⟨0, (kL_law_47 (nm := nm)).at 15 rfl, rfl, rfl⟩
theorem dL_law_1132 {nm : String} : DLi (mLn nm) 1132 3 1133 := Or.inl ⟨3, (kL_law_48 (nm := nm)).at 0 rfl, rfl, rfl⟩
theorem dL_law_1133 {nm : String} : DC (mLn nm) 1133 2 1134 := Or.inl ⟨2, (kL_law_48 (nm := nm)).at 1 rfl, by decide, rfl⟩
theorem dL_law_1134 {nm : String} : DI (mLn nm) 1134 (.iadd) 1 1135 := ⟨(kL_law_48 (nm := nm)).at 2 rfl, rfl⟩
theorem dL_law_1135 {nm : String} : DI (mLn nm) 1135 (.iaload) 1 1136 := ⟨(kL_law_48 (nm := nm)).at 3 rfl, rfl⟩
theorem dL_law_1136 {nm : String} : DLa (mLn nm) 1136 0 1137 := Or.inl ⟨0, (kL_law_48 (nm := nm)).at 4 rfl, rfl, rfl⟩
theorem dL_law_1137 {nm : String} : DLi (mLn nm) 1137 3 1138 := Or.inl ⟨3, (kL_law_48 (nm := nm)).at 5 rfl, rfl, rfl⟩
theorem dL_law_1138 {nm : String} : DC (mLn nm) 1138 3 1139 := Or.inl ⟨3, (kL_law_48 (nm := nm)).at 6 rfl, by decide, rfl⟩
theorem dL_law_1139 {nm : String} : DI (mLn nm) 1139 (.iadd) 1 1140 := ⟨(kL_law_48 (nm := nm)).at 7 rfl, rfl⟩
theorem dL_law_1140 {nm : String} : DI (mLn nm) 1140 (.iaload) 1 1141 := ⟨(kL_law_48 (nm := nm)).at 8 rfl, rfl⟩
theorem dL_law_1141 {nm : String} : DI (mLn nm) 1141 (.invokevirtual 143) 3 1144 := ⟨(kL_law_48 (nm := nm)).at 9 rfl, rfl⟩
theorem dL_law_1144 {nm : String} : DI (mLn nm) 1144 (.pop) 1 1145 := ⟨(kL_law_48 (nm := nm)).at 10 rfl, rfl⟩
theorem dL_law_1145 {nm : String} : DB (mLn nm) 1145 (.goto (327)) (327) 1148 1472 := ⟨(kL_law_48 (nm := nm)).at 11 rfl, rfl, rfl⟩
theorem dL_law_1148 {nm : String} : DLa (mLn nm) 1148 1 1149 := Or.inl ⟨1, (kL_law_48 (nm := nm)).at 12 rfl, rfl, rfl⟩
theorem dL_law_1149 {nm : String} : DLa (mLn nm) 1149 0 1150 := Or.inl ⟨0, (kL_law_48 (nm := nm)).at 13 rfl, rfl, rfl⟩
theorem dL_law_1150 {nm : String} : DLi (mLn nm) 1150 3 1151 := Or.inl ⟨3, (kL_law_48 (nm := nm)).at 14 rfl, rfl, rfl⟩
theorem dL_law_1151 {nm : String} : DC (mLn nm) 1151 1 1152 := Or.inl ⟨1, (kL_law_48 (nm := nm)).at 15 rfl, by decide, rfl⟩
theorem dL_law_1152 {nm : String} : DI (mLn nm) 1152 (.iadd) 1 1153 := ⟨(kL_law_49 (nm := nm)).at 0 rfl, rfl⟩
theorem dL_law_1153 {nm : String} : DI (mLn nm) 1153 (.iaload) 1 1154 := ⟨(kL_law_49 (nm := nm)).at 1 rfl, rfl⟩
theorem dL_law_1154 {nm : String} : DI (mLn nm) 1154 (.invokevirtual 144) 3 1157 := ⟨(kL_law_49 (nm := nm)).at 2 rfl, rfl⟩
theorem dL_law_1157 {nm : String} : DI (mLn nm) 1157 (.pop) 1 1158 := ⟨(kL_law_49 (nm := nm)).at 3 rfl, rfl⟩
theorem dL_law_1158 {nm : String} : DLa (mLn nm) 1158 2 1159 := Or.inl ⟨2, (kL_law_49 (nm := nm)).at 4 rfl, rfl, rfl⟩
theorem dL_law_1159 {nm : String} : DLa (mLn nm) 1159 0 1160 := Or.inl ⟨0, (kL_law_49 (nm := nm)).at 5 rfl, rfl, rfl⟩
theorem dL_law_1160 {nm : String} : DLi (mLn nm) 1160 3 1161 := Or.inl ⟨3, (kL_law_49 (nm := nm)).at 6 rfl, rfl, rfl⟩
theorem dL_law_1161 {nm : String} : DC (mLn nm) 1161 1 1162 := Or.inl ⟨1, (kL_law_49 (nm := nm)).at 7 rfl, by decide, rfl⟩
theorem dL_law_1162 {nm : String} : DI (mLn nm) 1162 (.iadd) 1 1163 := ⟨(kL_law_49 (nm := nm)).at 8 rfl, rfl⟩
theorem dL_law_1163 {nm : String} : DI (mLn nm) 1163 (.iaload) 1 1164 := ⟨(kL_law_49 (nm := nm)).at 9 rfl, rfl⟩
theorem dL_law_1164 {nm : String} : DI (mLn nm) 1164 (.invokevirtual 147) 3 1167 := ⟨(kL_law_49 (nm := nm)).at 10 rfl, rfl⟩
theorem dL_law_1167 {nm : String} : DI (mLn nm) 1167 (.pop) 1 1168 := ⟨(kL_law_49 (nm := nm)).at 11 rfl, rfl⟩
theorem dL_law_1168 {nm : String} : DB (mLn nm) 1168 (.goto (304)) (304) 1171 1472 := ⟨(kL_law_49 (nm := nm)).at 12 rfl, rfl, rfl⟩
theorem dL_law_1171 {nm : String} : DLa (mLn nm) 1171 1 1172 := Or.inl ⟨1, (kL_law_49 (nm := nm)).at 13 rfl, rfl, rfl⟩
theorem dL_law_1172 {nm : String} : DLa (mLn nm) 1172 0 1173 := Or.inl ⟨0, (kL_law_49 (nm := nm)).at 14 rfl, rfl, rfl⟩
theorem dL_law_1173 {nm : String} : DLi (mLn nm) 1173 3 1174 := Or.inl ⟨3, (kL_law_49 (nm := nm)).at 15 rfl, rfl, rfl⟩
theorem dL_law_1174 {nm : String} : DC (mLn nm) 1174 1 1175 := Or.inl ⟨1, (kL_law_50 (nm := nm)).at 0 rfl, by decide, rfl⟩
theorem dL_law_1175 {nm : String} : DI (mLn nm) 1175 (.iadd) 1 1176 := ⟨(kL_law_50 (nm := nm)).at 1 rfl, rfl⟩
theorem dL_law_1176 {nm : String} : DI (mLn nm) 1176 (.iaload) 1 1177 := ⟨(kL_law_50 (nm := nm)).at 2 rfl, rfl⟩
theorem dL_law_1177 {nm : String} : DLa (mLn nm) 1177 0 1178 := Or.inl ⟨0, (kL_law_50 (nm := nm)).at 3 rfl, rfl, rfl⟩
theorem dL_law_1178 {nm : String} : DLi (mLn nm) 1178 3 1179 := Or.inl ⟨3, (kL_law_50 (nm := nm)).at 4 rfl, rfl, rfl⟩
theorem dL_law_1179 {nm : String} : DC (mLn nm) 1179 2 1180 := Or.inl ⟨2, (kL_law_50 (nm := nm)).at 5 rfl, by decide, rfl⟩
theorem dL_law_1180 {nm : String} : DI (mLn nm) 1180 (.iadd) 1 1181 := ⟨(kL_law_50 (nm := nm)).at 6 rfl, rfl⟩
theorem dL_law_1181 {nm : String} : DI (mLn nm) 1181 (.iaload) 1 1182 := ⟨(kL_law_50 (nm := nm)).at 7 rfl, rfl⟩
theorem dL_law_1182 {nm : String} : DI (mLn nm) 1182 (.invokevirtual 148) 3 1185 := ⟨(kL_law_50 (nm := nm)).at 8 rfl, rfl⟩
theorem dL_law_1185 {nm : String} : DI (mLn nm) 1185 (.pop) 1 1186 := ⟨(kL_law_50 (nm := nm)).at 9 rfl, rfl⟩
theorem dL_law_1186 {nm : String} : DLa (mLn nm) 1186 2 1187 := Or.inl ⟨2, (kL_law_50 (nm := nm)).at 10 rfl, rfl, rfl⟩
theorem dL_law_1187 {nm : String} : DLa (mLn nm) 1187 0 1188 := Or.inl ⟨0, (kL_law_50 (nm := nm)).at 11 rfl, rfl, rfl⟩
theorem dL_law_1188 {nm : String} : DLi (mLn nm) 1188 3 1189 := Or.inl ⟨3, (kL_law_50 (nm := nm)).at 12 rfl, rfl, rfl⟩
theorem dL_law_1189 {nm : String} : DC (mLn nm) 1189 1 1190 := Or.inl ⟨1, (kL_law_50 (nm := nm)).at 13 rfl, by decide, rfl⟩
theorem dL_law_1190 {nm : String} : DI (mLn nm) 1190 (.iadd) 1 1191 := ⟨(kL_law_50 (nm := nm)).at 14 rfl, rfl⟩
theorem dL_law_1191 {nm : String} : DI (mLn nm) 1191 (.iaload) 1 1192 := ⟨(kL_law_50 (nm := nm)).at 15 rfl, rfl⟩
theorem dL_law_1192 {nm : String} : DLa (mLn nm) 1192 0 1193 := Or.inl ⟨0, (kL_law_51 (nm := nm)).at 0 rfl, rfl, rfl⟩
theorem dL_law_1193 {nm : String} : DLi (mLn nm) 1193 3 1194 := Or.inl ⟨3, (kL_law_51 (nm := nm)).at 1 rfl, rfl, rfl⟩
theorem dL_law_1194 {nm : String} : DC (mLn nm) 1194 2 1195 := Or.inl ⟨2, (kL_law_51 (nm := nm)).at 2 rfl, by decide, rfl⟩
theorem dL_law_1195 {nm : String} : DI (mLn nm) 1195 (.iadd) 1 1196 := ⟨(kL_law_51 (nm := nm)).at 3 rfl, rfl⟩
theorem dL_law_1196 {nm : String} : DI (mLn nm) 1196 (.iaload) 1 1197 := ⟨(kL_law_51 (nm := nm)).at 4 rfl, rfl⟩
theorem dL_law_1197 {nm : String} : DI (mLn nm) 1197 (.invokevirtual 151) 3 1200 := ⟨(kL_law_51 (nm := nm)).at 5 rfl, rfl⟩
theorem dL_law_1200 {nm : String} : DI (mLn nm) 1200 (.pop) 1 1201 := ⟨(kL_law_51 (nm := nm)).at 6 rfl, rfl⟩
theorem dL_law_1201 {nm : String} : DB (mLn nm) 1201 (.goto (271)) (271) 1204 1472 := ⟨(kL_law_51 (nm := nm)).at 7 rfl, rfl, rfl⟩
theorem dL_law_1204 {nm : String} : DLa (mLn nm) 1204 1 1205 := Or.inl ⟨1, (kL_law_51 (nm := nm)).at 8 rfl, rfl, rfl⟩
theorem dL_law_1205 {nm : String} : DLa (mLn nm) 1205 0 1206 := Or.inl ⟨0, (kL_law_51 (nm := nm)).at 9 rfl, rfl, rfl⟩
theorem dL_law_1206 {nm : String} : DLi (mLn nm) 1206 3 1207 := Or.inl ⟨3, (kL_law_51 (nm := nm)).at 10 rfl, rfl, rfl⟩
theorem dL_law_1207 {nm : String} : DC (mLn nm) 1207 1 1208 := Or.inl ⟨1, (kL_law_51 (nm := nm)).at 11 rfl, by decide, rfl⟩
theorem dL_law_1208 {nm : String} : DI (mLn nm) 1208 (.iadd) 1 1209 := ⟨(kL_law_51 (nm := nm)).at 12 rfl, rfl⟩
theorem dL_law_1209 {nm : String} : DI (mLn nm) 1209 (.iaload) 1 1210 := ⟨(kL_law_51 (nm := nm)).at 13 rfl, rfl⟩
theorem dL_law_1210 {nm : String} : DLa (mLn nm) 1210 0 1211 := Or.inl ⟨0, (kL_law_51 (nm := nm)).at 14 rfl, rfl, rfl⟩
theorem dL_law_1211 {nm : String} : DLi (mLn nm) 1211 3 1212 := Or.inl ⟨3, (kL_law_51 (nm := nm)).at 15 rfl, rfl, rfl⟩
theorem dL_law_1212 {nm : String} : DC (mLn nm) 1212 2 1213 := Or.inl ⟨2, (kL_law_52 (nm := nm)).at 0 rfl, by decide, rfl⟩
theorem dL_law_1213 {nm : String} : DI (mLn nm) 1213 (.iadd) 1 1214 := ⟨(kL_law_52 (nm := nm)).at 1 rfl, rfl⟩
theorem dL_law_1214 {nm : String} : DI (mLn nm) 1214 (.iaload) 1 1215 := ⟨(kL_law_52 (nm := nm)).at 2 rfl, rfl⟩
theorem dL_law_1215 {nm : String} : DLa (mLn nm) 1215 0 1216 := Or.inl ⟨0, (kL_law_52 (nm := nm)).at 3 rfl, rfl, rfl⟩
theorem dL_law_1216 {nm : String} : DLi (mLn nm) 1216 3 1217 := Or.inl ⟨3, (kL_law_52 (nm := nm)).at 4 rfl, rfl, rfl⟩
theorem dL_law_1217 {nm : String} : DC (mLn nm) 1217 3 1218 := Or.inl ⟨3, (kL_law_52 (nm := nm)).at 5 rfl, by decide, rfl⟩
theorem dL_law_1218 {nm : String} : DI (mLn nm) 1218 (.iadd) 1 1219 := ⟨(kL_law_52 (nm := nm)).at 6 rfl, rfl⟩
theorem dL_law_1219 {nm : String} : DI (mLn nm) 1219 (.iaload) 1 1220 := ⟨(kL_law_52 (nm := nm)).at 7 rfl, rfl⟩
theorem dL_law_1220 {nm : String} : DI (mLn nm) 1220 (.invokevirtual 152) 3 1223 := ⟨(kL_law_52 (nm := nm)).at 8 rfl, rfl⟩
theorem dL_law_1223 {nm : String} : DI (mLn nm) 1223 (.pop) 1 1224 := ⟨(kL_law_52 (nm := nm)).at 9 rfl, rfl⟩
theorem dL_law_1224 {nm : String} : DLa (mLn nm) 1224 2 1225 := Or.inl ⟨2, (kL_law_52 (nm := nm)).at 10 rfl, rfl, rfl⟩
theorem dL_law_1225 {nm : String} : DLa (mLn nm) 1225 0 1226 := Or.inl ⟨0, (kL_law_52 (nm := nm)).at 11 rfl, rfl, rfl⟩
theorem dL_law_1226 {nm : String} : DLi (mLn nm) 1226 3 1227 := Or.inl ⟨3, (kL_law_52 (nm := nm)).at 12 rfl, rfl, rfl⟩
theorem dL_law_1227 {nm : String} : DC (mLn nm) 1227 1 1228 := Or.inl ⟨1, (kL_law_52 (nm := nm)).at 13 rfl, by decide, rfl⟩
theorem dL_law_1228 {nm : String} : DI (mLn nm) 1228 (.iadd) 1 1229 := ⟨(kL_law_52 (nm := nm)).at 14 rfl, rfl⟩
theorem dL_law_1229 {nm : String} : DI (mLn nm) 1229 (.iaload) 1 1230 := ⟨(kL_law_52 (nm := nm)).at 15 rfl, rfl⟩
theorem dL_law_1230 {nm : String} : DLa (mLn nm) 1230 0 1231 := Or.inl ⟨0, (kL_law_53 (nm := nm)).at 0 rfl, rfl, rfl⟩
theorem dL_law_1231 {nm : String} : DLi (mLn nm) 1231 3 1232 := Or.inl ⟨3, (kL_law_53 (nm := nm)).at 1 rfl, rfl, rfl⟩
theorem dL_law_1232 {nm : String} : DC (mLn nm) 1232 2 1233 := Or.inl ⟨2, (kL_law_53 (nm := nm)).at 2 rfl, by decide, rfl⟩
theorem dL_law_1233 {nm : String} : DI (mLn nm) 1233 (.iadd) 1 1234 := ⟨(kL_law_53 (nm := nm)).at 3 rfl, rfl⟩
theorem dL_law_1234 {nm : String} : DI (mLn nm) 1234 (.iaload) 1 1235 := ⟨(kL_law_53 (nm := nm)).at 4 rfl, rfl⟩
theorem dL_law_1235 {nm : String} : DLa (mLn nm) 1235 0 1236 := Or.inl ⟨0, (kL_law_53 (nm := nm)).at 5 rfl, rfl, rfl⟩
theorem dL_law_1236 {nm : String} : DLi (mLn nm) 1236 3 1237 := Or.inl ⟨3, (kL_law_53 (nm := nm)).at 6 rfl, rfl, rfl⟩
theorem dL_law_1237 {nm : String} : DC (mLn nm) 1237 3 1238 := Or.inl ⟨3, (kL_law_53 (nm := nm)).at 7 rfl, by decide, rfl⟩
theorem dL_law_1238 {nm : String} : DI (mLn nm) 1238 (.iadd) 1 1239 := ⟨(kL_law_53 (nm := nm)).at 8 rfl, rfl⟩
theorem dL_law_1239 {nm : String} : DI (mLn nm) 1239 (.iaload) 1 1240 := ⟨(kL_law_53 (nm := nm)).at 9 rfl, rfl⟩
theorem dL_law_1240 {nm : String} : DI (mLn nm) 1240 (.invokevirtual 155) 3 1243 := ⟨(kL_law_53 (nm := nm)).at 10 rfl, rfl⟩
theorem dL_law_1243 {nm : String} : DI (mLn nm) 1243 (.pop) 1 1244 := ⟨(kL_law_53 (nm := nm)).at 11 rfl, rfl⟩
theorem dL_law_1244 {nm : String} : DB (mLn nm) 1244 (.goto (228)) (228) 1247 1472 := ⟨(kL_law_53 (nm := nm)).at 12 rfl, rfl, rfl⟩
theorem dL_law_1247 {nm : String} : DLa (mLn nm) 1247 1 1248 := Or.inl ⟨1, (kL_law_53 (nm := nm)).at 13 rfl, rfl, rfl⟩
theorem dL_law_1248 {nm : String} : DLa (mLn nm) 1248 0 1249 := Or.inl ⟨0, (kL_law_53 (nm := nm)).at 14 rfl, rfl, rfl⟩
theorem dL_law_1249 {nm : String} : DLi (mLn nm) 1249 3 1250 := Or.inl ⟨3, (kL_law_53 (nm := nm)).at 15 rfl, rfl, rfl⟩
theorem dL_law_1250 {nm : String} : DC (mLn nm) 1250 1 1251 := Or.inl ⟨1, (kL_law_54 (nm := nm)).at 0 rfl, by decide, rfl⟩
theorem dL_law_1251 {nm : String} : DI (mLn nm) 1251 (.iadd) 1 1252 := ⟨(kL_law_54 (nm := nm)).at 1 rfl, rfl⟩
theorem dL_law_1252 {nm : String} : DI (mLn nm) 1252 (.iaload) 1 1253 := ⟨(kL_law_54 (nm := nm)).at 2 rfl, rfl⟩
theorem dL_law_1253 {nm : String} : DLa (mLn nm) 1253 0 1254 := Or.inl ⟨0, (kL_law_54 (nm := nm)).at 3 rfl, rfl, rfl⟩
theorem dL_law_1254 {nm : String} : DLi (mLn nm) 1254 3 1255 := Or.inl ⟨3, (kL_law_54 (nm := nm)).at 4 rfl, rfl, rfl⟩
theorem dL_law_1255 {nm : String} : DC (mLn nm) 1255 2 1256 := Or.inl ⟨2, (kL_law_54 (nm := nm)).at 5 rfl, by decide, rfl⟩
theorem dL_law_1256 {nm : String} : DI (mLn nm) 1256 (.iadd) 1 1257 := ⟨(kL_law_54 (nm := nm)).at 6 rfl, rfl⟩
theorem dL_law_1257 {nm : String} : DI (mLn nm) 1257 (.iaload) 1 1258 := ⟨(kL_law_54 (nm := nm)).at 7 rfl, rfl⟩
theorem dL_law_1258 {nm : String} : DLa (mLn nm) 1258 0 1259 := Or.inl ⟨0, (kL_law_54 (nm := nm)).at 8 rfl, rfl, rfl⟩
theorem dL_law_1259 {nm : String} : DLi (mLn nm) 1259 3 1260 := Or.inl ⟨3, (kL_law_54 (nm := nm)).at 9 rfl, rfl, rfl⟩
theorem dL_law_1260 {nm : String} : DC (mLn nm) 1260 3 1261 := Or.inl ⟨3, (kL_law_54 (nm := nm)).at 10 rfl, by decide, rfl⟩
theorem dL_law_1261 {nm : String} : DI (mLn nm) 1261 (.iadd) 1 1262 := ⟨(kL_law_54 (nm := nm)).at 11 rfl, rfl⟩
theorem dL_law_1262 {nm : String} : DI (mLn nm) 1262 (.iaload) 1 1263 := ⟨(kL_law_54 (nm := nm)).at 12 rfl, rfl⟩
theorem dL_law_1263 {nm : String} : DI (mLn nm) 1263 (.i2l) 1 1264 := ⟨(kL_law_54 (nm := nm)).at 13 rfl, rfl⟩
theorem dL_law_1264 {nm : String} : DC (mLn nm) 1264 32 1266 := Or.inr (Or.inl ⟨32, (kL_law_54 (nm := nm)).at 14 rfl, by decide, rfl⟩)
theorem dL_law_1266 {nm : String} : DI (mLn nm) 1266 (.lshl) 1 1267 := ⟨(kL_law_54 (nm := nm)).at 15 rfl, rfl⟩
theorem dL_law_1267 {nm : String} : DLa (mLn nm) 1267 0 1268 := Or.inl ⟨0, (kL_law_55 (nm := nm)).at 0 rfl, rfl, rfl⟩
theorem dL_law_1268 {nm : String} : DLi (mLn nm) 1268 3 1269 := Or.inl ⟨3, (kL_law_55 (nm := nm)).at 1 rfl, rfl, rfl⟩
theorem dL_law_1269 {nm : String} : DC (mLn nm) 1269 4 1270 := Or.inl ⟨4, (kL_law_55 (nm := nm)).at 2 rfl, by decide, rfl⟩
theorem dL_law_1270 {nm : String} : DI (mLn nm) 1270 (.iadd) 1 1271 := ⟨(kL_law_55 (nm := nm)).at 3 rfl, rfl⟩
theorem dL_law_1271 {nm : String} : DI (mLn nm) 1271 (.iaload) 1 1272 := ⟨(kL_law_55 (nm := nm)).at 4 rfl, rfl⟩
theorem dL_law_1272 {nm : String} : DI (mLn nm) 1272 (.i2l) 1 1273 := ⟨(kL_law_55 (nm := nm)).at 5 rfl, rfl⟩
theorem dL_law_1273 {nm : String} : DCL (mLn nm) 1273 4294967295 1276 := Or.inr ⟨156, (kL_law_55 (nm := nm)).at 6 rfl, (tq7 13 rfl rfl), rfl⟩
theorem dL_law_1276 {nm : String} : DI (mLn nm) 1276 (.land) 1 1277 := ⟨(kL_law_55 (nm := nm)).at 7 rfl, rfl⟩
theorem dL_law_1277 {nm : String} : DI (mLn nm) 1277 (.lor) 1 1278 := ⟨(kL_law_55 (nm := nm)).at 8 rfl, rfl⟩
theorem dL_law_1278 {nm : String} : DI (mLn nm) 1278 (.invokevirtual 158) 3 1281 := ⟨(kL_law_55 (nm := nm)).at 9 rfl, rfl⟩
theorem dL_law_1281 {nm : String} : DI (mLn nm) 1281 (.pop) 1 1282 := ⟨(kL_law_55 (nm := nm)).at 10 rfl, rfl⟩
theorem dL_law_1282 {nm : String} : DLa (mLn nm) 1282 2 1283 := Or.inl ⟨2, (kL_law_55 (nm := nm)).at 11 rfl, rfl, rfl⟩
theorem dL_law_1283 {nm : String} : DLa (mLn nm) 1283 0 1284 := Or.inl ⟨0, (kL_law_55 (nm := nm)).at 12 rfl, rfl, rfl⟩
theorem dL_law_1284 {nm : String} : DLi (mLn nm) 1284 3 1285 := Or.inl ⟨3, (kL_law_55 (nm := nm)).at 13 rfl, rfl, rfl⟩
theorem dL_law_1285 {nm : String} : DC (mLn nm) 1285 1 1286 := Or.inl ⟨1, (kL_law_55 (nm := nm)).at 14 rfl, by decide, rfl⟩
theorem dL_law_1286 {nm : String} : DI (mLn nm) 1286 (.iadd) 1 1287 := ⟨(kL_law_55 (nm := nm)).at 15 rfl, rfl⟩
theorem dL_law_1287 {nm : String} : DI (mLn nm) 1287 (.iaload) 1 1288 := ⟨(kL_law_56 (nm := nm)).at 0 rfl, rfl⟩
theorem dL_law_1288 {nm : String} : DLa (mLn nm) 1288 0 1289 := Or.inl ⟨0, (kL_law_56 (nm := nm)).at 1 rfl, rfl, rfl⟩
theorem dL_law_1289 {nm : String} : DLi (mLn nm) 1289 3 1290 := Or.inl ⟨3, (kL_law_56 (nm := nm)).at 2 rfl, rfl, rfl⟩
theorem dL_law_1290 {nm : String} : DC (mLn nm) 1290 2 1291 := Or.inl ⟨2, (kL_law_56 (nm := nm)).at 3 rfl, by decide, rfl⟩
theorem dL_law_1291 {nm : String} : DI (mLn nm) 1291 (.iadd) 1 1292 := ⟨(kL_law_56 (nm := nm)).at 4 rfl, rfl⟩
theorem dL_law_1292 {nm : String} : DI (mLn nm) 1292 (.iaload) 1 1293 := ⟨(kL_law_56 (nm := nm)).at 5 rfl, rfl⟩
theorem dL_law_1293 {nm : String} : DLa (mLn nm) 1293 0 1294 := Or.inl ⟨0, (kL_law_56 (nm := nm)).at 6 rfl, rfl, rfl⟩
theorem dL_law_1294 {nm : String} : DLi (mLn nm) 1294 3 1295 := Or.inl ⟨3, (kL_law_56 (nm := nm)).at 7 rfl, rfl, rfl⟩
theorem dL_law_1295 {nm : String} : DC (mLn nm) 1295 3 1296 := Or.inl ⟨3, (kL_law_56 (nm := nm)).at 8 rfl, by decide, rfl⟩
theorem dL_law_1296 {nm : String} : DI (mLn nm) 1296 (.iadd) 1 1297 := ⟨(kL_law_56 (nm := nm)).at 9 rfl, rfl⟩
theorem dL_law_1297 {nm : String} : DI (mLn nm) 1297 (.iaload) 1 1298 := ⟨(kL_law_56 (nm := nm)).at 10 rfl, rfl⟩
theorem dL_law_1298 {nm : String} : DI (mLn nm) 1298 (.i2l) 1 1299 := ⟨(kL_law_56 (nm := nm)).at 11 rfl, rfl⟩
theorem dL_law_1299 {nm : String} : DC (mLn nm) 1299 32 1301 := Or.inr (Or.inl ⟨32, (kL_law_56 (nm := nm)).at 12 rfl, by decide, rfl⟩)
theorem dL_law_1301 {nm : String} : DI (mLn nm) 1301 (.lshl) 1 1302 := ⟨(kL_law_56 (nm := nm)).at 13 rfl, rfl⟩
theorem dL_law_1302 {nm : String} : DLa (mLn nm) 1302 0 1303 := Or.inl ⟨0, (kL_law_56 (nm := nm)).at 14 rfl, rfl, rfl⟩
theorem dL_law_1303 {nm : String} : DLi (mLn nm) 1303 3 1304 := Or.inl ⟨3, (kL_law_56 (nm := nm)).at 15 rfl, rfl, rfl⟩
theorem dL_law_1304 {nm : String} : DC (mLn nm) 1304 4 1305 := Or.inl ⟨4, (kL_law_57 (nm := nm)).at 0 rfl, by decide, rfl⟩
theorem dL_law_1305 {nm : String} : DI (mLn nm) 1305 (.iadd) 1 1306 := ⟨(kL_law_57 (nm := nm)).at 1 rfl, rfl⟩
theorem dL_law_1306 {nm : String} : DI (mLn nm) 1306 (.iaload) 1 1307 := ⟨(kL_law_57 (nm := nm)).at 2 rfl, rfl⟩
theorem dL_law_1307 {nm : String} : DI (mLn nm) 1307 (.i2l) 1 1308 := ⟨(kL_law_57 (nm := nm)).at 3 rfl, rfl⟩
theorem dL_law_1308 {nm : String} : DCL (mLn nm) 1308 4294967295 1311 := Or.inr ⟨156, (kL_law_57 (nm := nm)).at 4 rfl, (tq7 13 rfl rfl), rfl⟩
theorem dL_law_1311 {nm : String} : DI (mLn nm) 1311 (.land) 1 1312 := ⟨(kL_law_57 (nm := nm)).at 5 rfl, rfl⟩
theorem dL_law_1312 {nm : String} : DI (mLn nm) 1312 (.lor) 1 1313 := ⟨(kL_law_57 (nm := nm)).at 6 rfl, rfl⟩
theorem dL_law_1313 {nm : String} : DI (mLn nm) 1313 (.invokevirtual 162) 3 1316 := ⟨(kL_law_57 (nm := nm)).at 7 rfl, rfl⟩
theorem dL_law_1316 {nm : String} : DI (mLn nm) 1316 (.pop) 1 1317 := ⟨(kL_law_57 (nm := nm)).at 8 rfl, rfl⟩
theorem dL_law_1317 {nm : String} : DB (mLn nm) 1317 (.goto (155)) (155) 1320 1472 := ⟨(kL_law_57 (nm := nm)).at 9 rfl, rfl, rfl⟩
theorem dL_law_1320 {nm : String} : DLa (mLn nm) 1320 1 1321 := Or.inl ⟨1, (kL_law_57 (nm := nm)).at 10 rfl, rfl, rfl⟩
theorem dL_law_1321 {nm : String} : DLa (mLn nm) 1321 0 1322 := Or.inl ⟨0, (kL_law_57 (nm := nm)).at 11 rfl, rfl, rfl⟩
theorem dL_law_1322 {nm : String} : DLi (mLn nm) 1322 3 1323 := Or.inl ⟨3, (kL_law_57 (nm := nm)).at 12 rfl, rfl, rfl⟩
theorem dL_law_1323 {nm : String} : DC (mLn nm) 1323 1 1324 := Or.inl ⟨1, (kL_law_57 (nm := nm)).at 13 rfl, by decide, rfl⟩
theorem dL_law_1324 {nm : String} : DI (mLn nm) 1324 (.iadd) 1 1325 := ⟨(kL_law_57 (nm := nm)).at 14 rfl, rfl⟩
theorem dL_law_1325 {nm : String} : DI (mLn nm) 1325 (.iaload) 1 1326 := ⟨(kL_law_57 (nm := nm)).at 15 rfl, rfl⟩
theorem dL_law_1326 {nm : String} : DLa (mLn nm) 1326 0 1327 := Or.inl ⟨0, (kL_law_58 (nm := nm)).at 0 rfl, rfl, rfl⟩
theorem dL_law_1327 {nm : String} : DLi (mLn nm) 1327 3 1328 := Or.inl ⟨3, (kL_law_58 (nm := nm)).at 1 rfl, rfl, rfl⟩
theorem dL_law_1328 {nm : String} : DC (mLn nm) 1328 2 1329 := Or.inl ⟨2, (kL_law_58 (nm := nm)).at 2 rfl, by decide, rfl⟩
theorem dL_law_1329 {nm : String} : DI (mLn nm) 1329 (.iadd) 1 1330 := ⟨(kL_law_58 (nm := nm)).at 3 rfl, rfl⟩
theorem dL_law_1330 {nm : String} : DI (mLn nm) 1330 (.iaload) 1 1331 := ⟨(kL_law_58 (nm := nm)).at 4 rfl, rfl⟩
theorem dL_law_1331 {nm : String} : DI (mLn nm) 1331 (.invokevirtual 163) 3 1334 := ⟨(kL_law_58 (nm := nm)).at 5 rfl, rfl⟩
theorem dL_law_1334 {nm : String} : DI (mLn nm) 1334 (.pop2) 1 1335 := ⟨(kL_law_58 (nm := nm)).at 6 rfl, rfl⟩
theorem dL_law_1335 {nm : String} : DLa (mLn nm) 1335 2 1336 := Or.inl ⟨2, (kL_law_58 (nm := nm)).at 7 rfl, rfl, rfl⟩
theorem dL_law_1336 {nm : String} : DLa (mLn nm) 1336 0 1337 := Or.inl ⟨0, (kL_law_58 (nm := nm)).at 8 rfl, rfl, rfl⟩
theorem dL_law_1337 {nm : String} : DLi (mLn nm) 1337 3 1338 := Or.inl ⟨3, (kL_law_58 (nm := nm)).at 9 rfl, rfl, rfl⟩
theorem dL_law_1338 {nm : String} : DC (mLn nm) 1338 1 1339 := Or.inl ⟨1, (kL_law_58 (nm := nm)).at 10 rfl, by decide, rfl⟩
theorem dL_law_1339 {nm : String} : DI (mLn nm) 1339 (.iadd) 1 1340 := ⟨(kL_law_58 (nm := nm)).at 11 rfl, rfl⟩
theorem dL_law_1340 {nm : String} : DI (mLn nm) 1340 (.iaload) 1 1341 := ⟨(kL_law_58 (nm := nm)).at 12 rfl, rfl⟩
theorem dL_law_1341 {nm : String} : DLa (mLn nm) 1341 0 1342 := Or.inl ⟨0, (kL_law_58 (nm := nm)).at 13 rfl, rfl, rfl⟩
theorem dL_law_1342 {nm : String} : DLi (mLn nm) 1342 3 1343 := Or.inl ⟨3, (kL_law_58 (nm := nm)).at 14 rfl, rfl, rfl⟩
theorem dL_law_1343 {nm : String} : DC (mLn nm) 1343 2 1344 := Or.inl ⟨2, (kL_law_58 (nm := nm)).at 15 rfl, by decide, rfl⟩
theorem dL_law_1344 {nm : String} : DI (mLn nm) 1344 (.iadd) 1 1345 := ⟨(kL_law_59 (nm := nm)).at 0 rfl, rfl⟩
theorem dL_law_1345 {nm : String} : DI (mLn nm) 1345 (.iaload) 1 1346 := ⟨(kL_law_59 (nm := nm)).at 1 rfl, rfl⟩
theorem dL_law_1346 {nm : String} : DI (mLn nm) 1346 (.invokevirtual 166) 3 1349 := ⟨(kL_law_59 (nm := nm)).at 2 rfl, rfl⟩
theorem dL_law_1349 {nm : String} : DI (mLn nm) 1349 (.pop2) 1 1350 := ⟨(kL_law_59 (nm := nm)).at 3 rfl, rfl⟩
theorem dL_law_1350 {nm : String} : DB (mLn nm) 1350 (.goto (122)) (122) 1353 1472 := ⟨(kL_law_59 (nm := nm)).at 4 rfl, rfl, rfl⟩
theorem dL_law_1353 {nm : String} : DLa (mLn nm) 1353 1 1354 := Or.inl ⟨1, (kL_law_59 (nm := nm)).at 5 rfl, rfl, rfl⟩
theorem dL_law_1354 {nm : String} : DLa (mLn nm) 1354 0 1355 := Or.inl ⟨0, (kL_law_59 (nm := nm)).at 6 rfl, rfl, rfl⟩
theorem dL_law_1355 {nm : String} : DLi (mLn nm) 1355 3 1356 := Or.inl ⟨3, (kL_law_59 (nm := nm)).at 7 rfl, rfl, rfl⟩
theorem dL_law_1356 {nm : String} : DC (mLn nm) 1356 1 1357 := Or.inl ⟨1, (kL_law_59 (nm := nm)).at 8 rfl, by decide, rfl⟩
theorem dL_law_1357 {nm : String} : DI (mLn nm) 1357 (.iadd) 1 1358 := ⟨(kL_law_59 (nm := nm)).at 9 rfl, rfl⟩
theorem dL_law_1358 {nm : String} : DI (mLn nm) 1358 (.iaload) 1 1359 := ⟨(kL_law_59 (nm := nm)).at 10 rfl, rfl⟩
theorem dL_law_1359 {nm : String} : DLa (mLn nm) 1359 0 1360 := Or.inl ⟨0, (kL_law_59 (nm := nm)).at 11 rfl, rfl, rfl⟩
theorem dL_law_1360 {nm : String} : DLi (mLn nm) 1360 3 1361 := Or.inl ⟨3, (kL_law_59 (nm := nm)).at 12 rfl, rfl, rfl⟩
theorem dL_law_1361 {nm : String} : DC (mLn nm) 1361 2 1362 := Or.inl ⟨2, (kL_law_59 (nm := nm)).at 13 rfl, by decide, rfl⟩
theorem dL_law_1362 {nm : String} : DI (mLn nm) 1362 (.iadd) 1 1363 := ⟨(kL_law_59 (nm := nm)).at 14 rfl, rfl⟩
theorem dL_law_1363 {nm : String} : DI (mLn nm) 1363 (.iaload) 1 1364 := ⟨(kL_law_59 (nm := nm)).at 15 rfl, rfl⟩
theorem dL_law_1364 {nm : String} : DLa (mLn nm) 1364 0 1365 := Or.inl ⟨0, (kL_law_60 (nm := nm)).at 0 rfl, rfl, rfl⟩
theorem dL_law_1365 {nm : String} : DLi (mLn nm) 1365 3 1366 := Or.inl ⟨3, (kL_law_60 (nm := nm)).at 1 rfl, rfl, rfl⟩
theorem dL_law_1366 {nm : String} : DC (mLn nm) 1366 3 1367 := Or.inl ⟨3, (kL_law_60 (nm := nm)).at 2 rfl, by decide, rfl⟩
theorem dL_law_1367 {nm : String} : DI (mLn nm) 1367 (.iadd) 1 1368 := ⟨(kL_law_60 (nm := nm)).at 3 rfl, rfl⟩
theorem dL_law_1368 {nm : String} : DI (mLn nm) 1368 (.iaload) 1 1369 := ⟨(kL_law_60 (nm := nm)).at 4 rfl, rfl⟩
theorem dL_law_1369 {nm : String} : DLa (mLn nm) 1369 0 1370 := Or.inl ⟨0, (kL_law_60 (nm := nm)).at 5 rfl, rfl, rfl⟩
theorem dL_law_1370 {nm : String} : DLi (mLn nm) 1370 3 1371 := Or.inl ⟨3, (kL_law_60 (nm := nm)).at 6 rfl, rfl, rfl⟩
theorem dL_law_1371 {nm : String} : DC (mLn nm) 1371 4 1372 := Or.inl ⟨4, (kL_law_60 (nm := nm)).at 7 rfl, by decide, rfl⟩
theorem dL_law_1372 {nm : String} : DI (mLn nm) 1372 (.iadd) 1 1373 := ⟨(kL_law_60 (nm := nm)).at 8 rfl, rfl⟩
theorem dL_law_1373 {nm : String} : DI (mLn nm) 1373 (.iaload) 1 1374 := ⟨(kL_law_60 (nm := nm)).at 9 rfl, rfl⟩
theorem dL_law_1374 {nm : String} : DLa (mLn nm) 1374 0 1375 := Or.inl ⟨0, (kL_law_60 (nm := nm)).at 10 rfl, rfl, rfl⟩
theorem dL_law_1375 {nm : String} : DLi (mLn nm) 1375 3 1376 := Or.inl ⟨3, (kL_law_60 (nm := nm)).at 11 rfl, rfl, rfl⟩
theorem dL_law_1376 {nm : String} : DC (mLn nm) 1376 5 1377 := Or.inl ⟨5, (kL_law_60 (nm := nm)).at 12 rfl, by decide, rfl⟩
theorem dL_law_1377 {nm : String} : DI (mLn nm) 1377 (.iadd) 1 1378 := ⟨(kL_law_60 (nm := nm)).at 13 rfl, rfl⟩
theorem dL_law_1378 {nm : String} : DI (mLn nm) 1378 (.iaload) 1 1379 := ⟨(kL_law_60 (nm := nm)).at 14 rfl, rfl⟩
theorem dL_law_1379 {nm : String} : DI (mLn nm) 1379 (.invokevirtual 167) 3 1382 := ⟨(kL_law_60 (nm := nm)).at 15 rfl, rfl⟩
theorem dL_law_1382 {nm : String} : DI (mLn nm) 1382 (.pop) 1 1383 := ⟨(kL_law_61 (nm := nm)).at 0 rfl, rfl⟩
theorem dL_law_1383 {nm : String} : DLa (mLn nm) 1383 2 1384 := Or.inl ⟨2, (kL_law_61 (nm := nm)).at 1 rfl, rfl, rfl⟩
theorem dL_law_1384 {nm : String} : DLa (mLn nm) 1384 0 1385 := Or.inl ⟨0, (kL_law_61 (nm := nm)).at 2 rfl, rfl, rfl⟩
theorem dL_law_1385 {nm : String} : DLi (mLn nm) 1385 3 1386 := Or.inl ⟨3, (kL_law_61 (nm := nm)).at 3 rfl, rfl, rfl⟩
theorem dL_law_1386 {nm : String} : DC (mLn nm) 1386 1 1387 := Or.inl ⟨1, (kL_law_61 (nm := nm)).at 4 rfl, by decide, rfl⟩
theorem dL_law_1387 {nm : String} : DI (mLn nm) 1387 (.iadd) 1 1388 := ⟨(kL_law_61 (nm := nm)).at 5 rfl, rfl⟩
theorem dL_law_1388 {nm : String} : DI (mLn nm) 1388 (.iaload) 1 1389 := ⟨(kL_law_61 (nm := nm)).at 6 rfl, rfl⟩
theorem dL_law_1389 {nm : String} : DLa (mLn nm) 1389 0 1390 := Or.inl ⟨0, (kL_law_61 (nm := nm)).at 7 rfl, rfl, rfl⟩
theorem dL_law_1390 {nm : String} : DLi (mLn nm) 1390 3 1391 := Or.inl ⟨3, (kL_law_61 (nm := nm)).at 8 rfl, rfl, rfl⟩
theorem dL_law_1391 {nm : String} : DC (mLn nm) 1391 2 1392 := Or.inl ⟨2, (kL_law_61 (nm := nm)).at 9 rfl, by decide, rfl⟩
theorem dL_law_1392 {nm : String} : DI (mLn nm) 1392 (.iadd) 1 1393 := ⟨(kL_law_61 (nm := nm)).at 10 rfl, rfl⟩
theorem dL_law_1393 {nm : String} : DI (mLn nm) 1393 (.iaload) 1 1394 := ⟨(kL_law_61 (nm := nm)).at 11 rfl, rfl⟩
theorem dL_law_1394 {nm : String} : DLa (mLn nm) 1394 0 1395 := Or.inl ⟨0, (kL_law_61 (nm := nm)).at 12 rfl, rfl, rfl⟩
theorem dL_law_1395 {nm : String} : DLi (mLn nm) 1395 3 1396 := Or.inl ⟨3, (kL_law_61 (nm := nm)).at 13 rfl, rfl, rfl⟩
theorem dL_law_1396 {nm : String} : DC (mLn nm) 1396 3 1397 := Or.inl ⟨3, (kL_law_61 (nm := nm)).at 14 rfl, by decide, rfl⟩
theorem dL_law_1397 {nm : String} : DI (mLn nm) 1397 (.iadd) 1 1398 := ⟨(kL_law_61 (nm := nm)).at 15 rfl, rfl⟩
theorem dL_law_1398 {nm : String} : DI (mLn nm) 1398 (.iaload) 1 1399 := ⟨(kL_law_62 (nm := nm)).at 0 rfl, rfl⟩
theorem dL_law_1399 {nm : String} : DLa (mLn nm) 1399 0 1400 := Or.inl ⟨0, (kL_law_62 (nm := nm)).at 1 rfl, rfl, rfl⟩
theorem dL_law_1400 {nm : String} : DLi (mLn nm) 1400 3 1401 := Or.inl ⟨3, (kL_law_62 (nm := nm)).at 2 rfl, rfl, rfl⟩
theorem dL_law_1401 {nm : String} : DC (mLn nm) 1401 4 1402 := Or.inl ⟨4, (kL_law_62 (nm := nm)).at 3 rfl, by decide, rfl⟩
theorem dL_law_1402 {nm : String} : DI (mLn nm) 1402 (.iadd) 1 1403 := ⟨(kL_law_62 (nm := nm)).at 4 rfl, rfl⟩
theorem dL_law_1403 {nm : String} : DI (mLn nm) 1403 (.iaload) 1 1404 := ⟨(kL_law_62 (nm := nm)).at 5 rfl, rfl⟩
theorem dL_law_1404 {nm : String} : DLa (mLn nm) 1404 0 1405 := Or.inl ⟨0, (kL_law_62 (nm := nm)).at 6 rfl, rfl, rfl⟩
theorem dL_law_1405 {nm : String} : DLi (mLn nm) 1405 3 1406 := Or.inl ⟨3, (kL_law_62 (nm := nm)).at 7 rfl, rfl, rfl⟩
theorem dL_law_1406 {nm : String} : DC (mLn nm) 1406 5 1407 := Or.inl ⟨5, (kL_law_62 (nm := nm)).at 8 rfl, by decide, rfl⟩
theorem dL_law_1407 {nm : String} : DI (mLn nm) 1407 (.iadd) 1 1408 := ⟨(kL_law_62 (nm := nm)).at 9 rfl, rfl⟩
theorem dL_law_1408 {nm : String} : DI (mLn nm) 1408 (.iaload) 1 1409 := ⟨(kL_law_62 (nm := nm)).at 10 rfl, rfl⟩
theorem dL_law_1409 {nm : String} : DI (mLn nm) 1409 (.invokevirtual 171) 3 1412 := ⟨(kL_law_62 (nm := nm)).at 11 rfl, rfl⟩
theorem dL_law_1412 {nm : String} : DI (mLn nm) 1412 (.pop) 1 1413 := ⟨(kL_law_62 (nm := nm)).at 12 rfl, rfl⟩
theorem dL_law_1413 {nm : String} : DB (mLn nm) 1413 (.goto (59)) (59) 1416 1472 := ⟨(kL_law_62 (nm := nm)).at 13 rfl, rfl, rfl⟩
theorem dL_law_1416 {nm : String} : DLa (mLn nm) 1416 1 1417 := Or.inl ⟨1, (kL_law_62 (nm := nm)).at 14 rfl, rfl, rfl⟩
theorem dL_law_1417 {nm : String} : DLa (mLn nm) 1417 0 1418 := Or.inl ⟨0, (kL_law_62 (nm := nm)).at 15 rfl, rfl, rfl⟩
theorem dL_law_1418 {nm : String} : DLi (mLn nm) 1418 3 1419 := Or.inl ⟨3, (kL_law_63 (nm := nm)).at 0 rfl, rfl, rfl⟩
theorem dL_law_1419 {nm : String} : DC (mLn nm) 1419 1 1420 := Or.inl ⟨1, (kL_law_63 (nm := nm)).at 1 rfl, by decide, rfl⟩
theorem dL_law_1420 {nm : String} : DI (mLn nm) 1420 (.iadd) 1 1421 := ⟨(kL_law_63 (nm := nm)).at 2 rfl, rfl⟩
theorem dL_law_1421 {nm : String} : DI (mLn nm) 1421 (.iaload) 1 1422 := ⟨(kL_law_63 (nm := nm)).at 3 rfl, rfl⟩
theorem dL_law_1422 {nm : String} : DLa (mLn nm) 1422 0 1423 := Or.inl ⟨0, (kL_law_63 (nm := nm)).at 4 rfl, rfl, rfl⟩
theorem dL_law_1423 {nm : String} : DLi (mLn nm) 1423 3 1424 := Or.inl ⟨3, (kL_law_63 (nm := nm)).at 5 rfl, rfl, rfl⟩
theorem dL_law_1424 {nm : String} : DC (mLn nm) 1424 2 1425 := Or.inl ⟨2, (kL_law_63 (nm := nm)).at 6 rfl, by decide, rfl⟩
theorem dL_law_1425 {nm : String} : DI (mLn nm) 1425 (.iadd) 1 1426 := ⟨(kL_law_63 (nm := nm)).at 7 rfl, rfl⟩
theorem dL_law_1426 {nm : String} : DI (mLn nm) 1426 (.iaload) 1 1427 := ⟨(kL_law_63 (nm := nm)).at 8 rfl, rfl⟩
theorem dL_law_1427 {nm : String} : DI (mLn nm) 1427 (.invokevirtual 172) 3 1430 := ⟨(kL_law_63 (nm := nm)).at 9 rfl, rfl⟩
theorem dL_law_1430 {nm : String} : DI (mLn nm) 1430 (.pop) 1 1431 := ⟨(kL_law_63 (nm := nm)).at 10 rfl, rfl⟩
theorem dL_law_1431 {nm : String} : DLa (mLn nm) 1431 2 1432 := Or.inl ⟨2, (kL_law_63 (nm := nm)).at 11 rfl, rfl, rfl⟩
theorem dL_law_1432 {nm : String} : DLa (mLn nm) 1432 0 1433 := Or.inl ⟨0, (kL_law_63 (nm := nm)).at 12 rfl, rfl, rfl⟩
theorem dL_law_1433 {nm : String} : DLi (mLn nm) 1433 3 1434 := Or.inl ⟨3, (kL_law_63 (nm := nm)).at 13 rfl, rfl, rfl⟩
theorem dL_law_1434 {nm : String} : DC (mLn nm) 1434 1 1435 := Or.inl ⟨1, (kL_law_63 (nm := nm)).at 14 rfl, by decide, rfl⟩
theorem dL_law_1435 {nm : String} : DI (mLn nm) 1435 (.iadd) 1 1436 := ⟨(kL_law_63 (nm := nm)).at 15 rfl, rfl⟩
theorem dL_law_1436 {nm : String} : DI (mLn nm) 1436 (.iaload) 1 1437 := ⟨(kL_law_64 (nm := nm)).at 0 rfl, rfl⟩
theorem dL_law_1437 {nm : String} : DLa (mLn nm) 1437 0 1438 := Or.inl ⟨0, (kL_law_64 (nm := nm)).at 1 rfl, rfl, rfl⟩
theorem dL_law_1438 {nm : String} : DLi (mLn nm) 1438 3 1439 := Or.inl ⟨3, (kL_law_64 (nm := nm)).at 2 rfl, rfl, rfl⟩
theorem dL_law_1439 {nm : String} : DC (mLn nm) 1439 2 1440 := Or.inl ⟨2, (kL_law_64 (nm := nm)).at 3 rfl, by decide, rfl⟩
theorem dL_law_1440 {nm : String} : DI (mLn nm) 1440 (.iadd) 1 1441 := ⟨(kL_law_64 (nm := nm)).at 4 rfl, rfl⟩
theorem dL_law_1441 {nm : String} : DI (mLn nm) 1441 (.iaload) 1 1442 := ⟨(kL_law_64 (nm := nm)).at 5 rfl, rfl⟩
theorem dL_law_1442 {nm : String} : DI (mLn nm) 1442 (.invokevirtual 175) 3 1445 := ⟨(kL_law_64 (nm := nm)).at 6 rfl, rfl⟩
theorem dL_law_1445 {nm : String} : DI (mLn nm) 1445 (.pop) 1 1446 := ⟨(kL_law_64 (nm := nm)).at 7 rfl, rfl⟩
theorem dL_law_1446 {nm : String} : DB (mLn nm) 1446 (.goto (26)) (26) 1449 1472 := ⟨(kL_law_64 (nm := nm)).at 8 rfl, rfl, rfl⟩
theorem dL_law_1449 {nm : String} : DLa (mLn nm) 1449 1 1450 := Or.inl ⟨1, (kL_law_64 (nm := nm)).at 9 rfl, rfl, rfl⟩
theorem dL_law_1450 {nm : String} : DLa (mLn nm) 1450 0 1451 := Or.inl ⟨0, (kL_law_64 (nm := nm)).at 10 rfl, rfl, rfl⟩
theorem dL_law_1451 {nm : String} : DLi (mLn nm) 1451 3 1452 := Or.inl ⟨3, (kL_law_64 (nm := nm)).at 11 rfl, rfl, rfl⟩
theorem dL_law_1452 {nm : String} : DC (mLn nm) 1452 1 1453 := Or.inl ⟨1, (kL_law_64 (nm := nm)).at 12 rfl, by decide, rfl⟩
theorem dL_law_1453 {nm : String} : DI (mLn nm) 1453 (.iadd) 1 1454 := ⟨(kL_law_64 (nm := nm)).at 13 rfl, rfl⟩
theorem dL_law_1454 {nm : String} : DI (mLn nm) 1454 (.iaload) 1 1455 := ⟨(kL_law_64 (nm := nm)).at 14 rfl, rfl⟩
theorem dL_law_1455 {nm : String} : DI (mLn nm) 1455 (.invokevirtual 176) 3 1458 := ⟨(kL_law_64 (nm := nm)).at 15 rfl, rfl⟩
theorem dL_law_1458 {nm : String} : DI (mLn nm) 1458 (.pop) 1 1459 := ⟨(kL_law_65 (nm := nm)).at 0 rfl, rfl⟩
theorem dL_law_1459 {nm : String} : DLa (mLn nm) 1459 2 1460 := Or.inl ⟨2, (kL_law_65 (nm := nm)).at 1 rfl, rfl, rfl⟩
theorem dL_law_1460 {nm : String} : DLa (mLn nm) 1460 0 1461 := Or.inl ⟨0, (kL_law_65 (nm := nm)).at 2 rfl, rfl, rfl⟩
theorem dL_law_1461 {nm : String} : DLi (mLn nm) 1461 3 1462 := Or.inl ⟨3, (kL_law_65 (nm := nm)).at 3 rfl, rfl, rfl⟩
theorem dL_law_1462 {nm : String} : DC (mLn nm) 1462 1 1463 := Or.inl ⟨1, (kL_law_65 (nm := nm)).at 4 rfl, by decide, rfl⟩
theorem dL_law_1463 {nm : String} : DI (mLn nm) 1463 (.iadd) 1 1464 := ⟨(kL_law_65 (nm := nm)).at 5 rfl, rfl⟩
theorem dL_law_1464 {nm : String} : DI (mLn nm) 1464 (.iaload) 1 1465 := ⟨(kL_law_65 (nm := nm)).at 6 rfl, rfl⟩
theorem dL_law_1465 {nm : String} : DI (mLn nm) 1465 (.invokevirtual 179) 3 1468 := ⟨(kL_law_65 (nm := nm)).at 7 rfl, rfl⟩
theorem dL_law_1468 {nm : String} : DI (mLn nm) 1468 (.pop) 1 1469 := ⟨(kL_law_65 (nm := nm)).at 8 rfl, rfl⟩
theorem dL_law_1469 {nm : String} : DB (mLn nm) 1469 (.goto (3)) (3) 1472 1472 := ⟨(kL_law_65 (nm := nm)).at 9 rfl, rfl, rfl⟩
theorem dL_law_1472 {nm : String} : DIN (mLn nm) 1472 3 6 1475 := ⟨Nat.le_of_ble_eq_true rfl, 6, (kL_law_65 (nm := nm)).at 10 rfl, rfl, rfl⟩
theorem dL_law_1475 {nm : String} : DB (mLn nm) 1475 (.goto (-1457)) (-1457) 1478 18 := ⟨(kL_law_65 (nm := nm)).at 11 rfl, rfl, rfl⟩
theorem dL_law_1478 {nm : String} : DC (mLn nm) 1478 1 1479 := Or.inl ⟨1, (kL_law_65 (nm := nm)).at 12 rfl, by decide, rfl⟩
theorem dL_law_1479 {nm : String} : DRz (mLn nm) 1479 := ⟨(kL_law_65 (nm := nm)).at 13 rfl, rfl⟩
