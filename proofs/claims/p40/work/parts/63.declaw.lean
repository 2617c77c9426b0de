def tL_law_0 : List (Nat × Instr × Nat) := [(0, .new 7, 3), (3, .dup, 1), (4, .invokespecial 9, 3), (7, .astore_n 1, 1), (8, .new 10, 3), (11, .dup, 1), (12, .invokespecial 12, 3), (15, .astore_n 2, 1), (16, .iconst 0, 1), (17, .istore_n 3, 1), (18, .iload_n 3, 1), (19, .aload_n 0, 1), (20, .arraylength, 1), (21, .bipush (6), 2), (23, .isub, 1), (24, .if_icmp .gt (1453), 3)]
theorem kL_law_0 {nm : String} : DEC (mLn nm) tL_law_0 := (show ∀ e ∈ tL_law_0, decode code e.1 = .ok e.2 from by decide +kernel)
def tL_law_1 : List (Nat × Instr × Nat) := [(27, .aload_n 0, 1), (28, .iload_n 3, 1), (29, .iaload, 1), (30, .bipush (63), 2), (32, .iand, 1), (33, .tableswitch (1438) (0) (38) #[171, 204, 247, 290, 323, 346, 359, 382, 405, 458, 501, 534, 567, 600, 633, 676, 709, 742, 775, 808, 841, 884, 927, 950, 973, 996, 1009, 1022, 1035, 1048, 1071, 1114, 1137, 1170, 1213, 1286, 1319, 1382, 1415], 171), (204, .aload_n 1, 1), (205, .aload_n 0, 1), (206, .iload_n 3, 1), (207, .iconst 1, 1), (208, .iadd, 1), (209, .iaload, 1), (210, .aload_n 0, 1), (211, .iload_n 3, 1), (212, .iconst 2, 1), (213, .iadd, 1)]
theorem kL_law_1 {nm : String} : DEC (mLn nm) tL_law_1 := (show ∀ e ∈ tL_law_1, decode code e.1 = .ok e.2 from by decide +kernel)
def tL_law_2 : List (Nat × Instr × Nat) := [(214, .iaload, 1), (215, .invokevirtual 13, 3), (218, .pop, 1), (219, .aload_n 2, 1), (220, .aload_n 0, 1), (221, .iload_n 3, 1), (222, .iconst 1, 1), (223, .iadd, 1), (224, .iaload, 1), (225, .aload_n 0, 1), (226, .iload_n 3, 1), (227, .iconst 2, 1), (228, .iadd, 1), (229, .iaload, 1), (230, .invokevirtual 17, 3), (233, .pop, 1)]
theorem kL_law_2 {nm : String} : DEC (mLn nm) tL_law_2 := (show ∀ e ∈ tL_law_2, decode code e.1 = .ok e.2 from by decide +kernel)
def tL_law_3 : List (Nat × Instr × Nat) := [(234, .goto (1237), 3), (237, .aload_n 1, 1), (238, .aload_n 0, 1), (239, .iload_n 3, 1), (240, .iconst 1, 1), (241, .iadd, 1), (242, .iaload, 1), (243, .aload_n 0, 1), (244, .iload_n 3, 1), (245, .iconst 2, 1), (246, .iadd, 1), (247, .iaload, 1), (248, .aload_n 0, 1), (249, .iload_n 3, 1), (250, .iconst 3, 1), (251, .iadd, 1)]
theorem kL_law_3 {nm : String} : DEC (mLn nm) tL_law_3 := (show ∀ e ∈ tL_law_3, decode code e.1 = .ok e.2 from by decide +kernel)
def tL_law_4 : List (Nat × Instr × Nat) := [(252, .iaload, 1), (253, .invokevirtual 18, 3), (256, .pop, 1), (257, .aload_n 2, 1), (258, .aload_n 0, 1), (259, .iload_n 3, 1), (260, .iconst 1, 1), (261, .iadd, 1), (262, .iaload, 1), (263, .aload_n 0, 1), (264, .iload_n 3, 1), (265, .iconst 2, 1), (266, .iadd, 1), (267, .iaload, 1), (268, .aload_n 0, 1), (269, .iload_n 3, 1)]
theorem kL_law_4 {nm : String} : DEC (mLn nm) tL_law_4 := (show ∀ e ∈ tL_law_4, decode code e.1 = .ok e.2 from by decide +kernel)
def tL_law_5 : List (Nat × Instr × Nat) := [(270, .iconst 3, 1), (271, .iadd, 1), (272, .iaload, 1), (273, .invokevirtual 22, 3), (276, .pop, 1), (277, .goto (1194), 3), (280, .aload_n 1, 1), (281, .aload_n 0, 1), (282, .iload_n 3, 1), (283, .iconst 1, 1), (284, .iadd, 1), (285, .iaload, 1), (286, .aload_n 0, 1), (287, .iload_n 3, 1), (288, .iconst 2, 1), (289, .iadd, 1)]
theorem kL_law_5 {nm : String} : DEC (mLn nm) tL_law_5 := (show ∀ e ∈ tL_law_5, decode code e.1 = .ok e.2 from by decide +kernel)
def tL_law_6 : List (Nat × Instr × Nat) := [(290, .iaload, 1), (291, .aload_n 0, 1), (292, .iload_n 3, 1), (293, .iconst 3, 1), (294, .iadd, 1), (295, .iaload, 1), (296, .invokevirtual 23, 3), (299, .pop, 1), (300, .aload_n 2, 1), (301, .aload_n 0, 1), (302, .iload_n 3, 1), (303, .iconst 1, 1), (304, .iadd, 1), (305, .iaload, 1), (306, .aload_n 0, 1), (307, .iload_n 3, 1)]
theorem kL_law_6 {nm : String} : DEC (mLn nm) tL_law_6 := (show ∀ e ∈ tL_law_6, decode code e.1 = .ok e.2 from by decide +kernel)
def tL_law_7 : List (Nat × Instr × Nat) := [(308, .iconst 2, 1), (309, .iadd, 1), (310, .iaload, 1), (311, .aload_n 0, 1), (312, .iload_n 3, 1), (313, .iconst 3, 1), (314, .iadd, 1), (315, .iaload, 1), (316, .invokevirtual 26, 3), (319, .pop, 1), (320, .goto (1151), 3), (323, .aload_n 1, 1), (324, .aload_n 0, 1), (325, .iload_n 3, 1), (326, .iconst 1, 1), (327, .iadd, 1)]
theorem kL_law_7 {nm : String} : DEC (mLn nm) tL_law_7 := (show ∀ e ∈ tL_law_7, decode code e.1 = .ok e.2 from by decide +kernel)
def tL_law_8 : List (Nat × Instr × Nat) := [(328, .iaload, 1), (329, .aload_n 0, 1), (330, .iload_n 3, 1), (331, .iconst 2, 1), (332, .iadd, 1), (333, .iaload, 1), (334, .invokevirtual 27, 3), (337, .pop, 1), (338, .aload_n 2, 1), (339, .aload_n 0, 1), (340, .iload_n 3, 1), (341, .iconst 1, 1), (342, .iadd, 1), (343, .iaload, 1), (344, .aload_n 0, 1), (345, .iload_n 3, 1)]
theorem kL_law_8 {nm : String} : DEC (mLn nm) tL_law_8 := (show ∀ e ∈ tL_law_8, decode code e.1 = .ok e.2 from by decide +kernel)
def tL_law_9 : List (Nat × Instr × Nat) := [(346, .iconst 2, 1), (347, .iadd, 1), (348, .iaload, 1), (349, .invokevirtual 30, 3), (352, .pop, 1), (353, .goto (1118), 3), (356, .aload_n 1, 1), (357, .aload_n 0, 1), (358, .iload_n 3, 1), (359, .iconst 1, 1), (360, .iadd, 1), (361, .iaload, 1), (362, .invokevirtual 31, 3), (365, .pop, 1), (366, .aload_n 2, 1), (367, .aload_n 0, 1)]
theorem kL_law_9 {nm : String} : DEC (mLn nm) tL_law_9 := (show ∀ e ∈ tL_law_9, decode code e.1 = .ok e.2 from by decide +kernel)
def tL_law_10 : List (Nat × Instr × Nat) := [(368, .iload_n 3, 1), (369, .iconst 1, 1), (370, .iadd, 1), (371, .iaload, 1), (372, .invokevirtual 35, 3), (375, .pop, 1), (376, .goto (1095), 3), (379, .aload_n 1, 1), (380, .invokevirtual 36, 3), (383, .pop, 1), (384, .aload_n 2, 1), (385, .invokevirtual 40, 3), (388, .pop, 1), (389, .goto (1082), 3), (392, .aload_n 1, 1), (393, .aload_n 0, 1)]
theorem kL_law_10 {nm : String} : DEC (mLn nm) tL_law_10 := (show ∀ e ∈ tL_law_10, decode code e.1 = .ok e.2 from by decide +kernel)
def tL_law_11 : List (Nat × Instr × Nat) := [(394, .iload_n 3, 1), (395, .iconst 1, 1), (396, .iadd, 1), (397, .iaload, 1), (398, .invokevirtual 41, 3), (401, .pop, 1), (402, .aload_n 2, 1), (403, .aload_n 0, 1), (404, .iload_n 3, 1), (405, .iconst 1, 1), (406, .iadd, 1), (407, .iaload, 1), (408, .invokevirtual 44, 3), (411, .pop, 1), (412, .goto (1059), 3), (415, .aload_n 1, 1)]
theorem kL_law_11 {nm : String} : DEC (mLn nm) tL_law_11 := (show ∀ e ∈ tL_law_11, decode code e.1 = .ok e.2 from by decide +kernel)
def tL_law_12 : List (Nat × Instr × Nat) := [(416, .aload_n 0, 1), (417, .iload_n 3, 1), (418, .iconst 1, 1), (419, .iadd, 1), (420, .iaload, 1), (421, .invokevirtual 45, 3), (424, .pop2, 1), (425, .aload_n 2, 1), (426, .aload_n 0, 1), (427, .iload_n 3, 1), (428, .iconst 1, 1), (429, .iadd, 1), (430, .iaload, 1), (431, .invokevirtual 49, 3), (434, .pop2, 1), (435, .goto (1036), 3)]
theorem kL_law_12 {nm : String} : DEC (mLn nm) tL_law_12 := (show ∀ e ∈ tL_law_12, decode code e.1 = .ok e.2 from by decide +kernel)
def tL_law_13 : List (Nat × Instr × Nat) := [(438, .aload_n 1, 1), (439, .aload_n 0, 1), (440, .iload_n 3, 1), (441, .iconst 1, 1), (442, .iadd, 1), (443, .iaload, 1), (444, .aload_n 0, 1), (445, .iload_n 3, 1), (446, .iconst 2, 1), (447, .iadd, 1), (448, .iaload, 1), (449, .aload_n 0, 1), (450, .iload_n 3, 1), (451, .iconst 3, 1), (452, .iadd, 1), (453, .iaload, 1)]
theorem kL_law_13 {nm : String} : DEC (mLn nm) tL_law_13 := (show ∀ e ∈ tL_law_13, decode code e.1 = .ok e.2 from by decide +kernel)
def tL_law_14 : List (Nat × Instr × Nat) := [(454, .aload_n 0, 1), (455, .iload_n 3, 1), (456, .iconst 4, 1), (457, .iadd, 1), (458, .iaload, 1), (459, .invokevirtual 50, 3), (462, .pop, 1), (463, .aload_n 2, 1), (464, .aload_n 0, 1), (465, .iload_n 3, 1), (466, .iconst 1, 1), (467, .iadd, 1), (468, .iaload, 1), (469, .aload_n 0, 1), (470, .iload_n 3, 1), (471, .iconst 2, 1)]
theorem kL_law_14 {nm : String} : DEC (mLn nm) tL_law_14 := (show ∀ e ∈ tL_law_14, decode code e.1 = .ok e.2 from by decide +kernel)
def tL_law_15 : List (Nat × Instr × Nat) := [(472, .iadd, 1), (473, .iaload, 1), (474, .aload_n 0, 1), (475, .iload_n 3, 1), (476, .iconst 3, 1), (477, .iadd, 1), (478, .iaload, 1), (479, .aload_n 0, 1), (480, .iload_n 3, 1), (481, .iconst 4, 1), (482, .iadd, 1), (483, .iaload, 1), (484, .invokevirtual 54, 3), (487, .pop, 1), (488, .goto (983), 3), (491, .aload_n 1, 1)]
theorem kL_law_15 {nm : String} : DEC (mLn nm) tL_law_15 := (show ∀ e ∈ tL_law_15, decode code e.1 = .ok e.2 from by decide +kernel)
def tL_law_16 : List (Nat × Instr × Nat) := [(492, .aload_n 0, 1), (493, .iload_n 3, 1), (494, .iconst 1, 1), (495, .iadd, 1), (496, .iaload, 1), (497, .aload_n 0, 1), (498, .iload_n 3, 1), (499, .iconst 2, 1), (500, .iadd, 1), (501, .iaload, 1), (502, .aload_n 0, 1), (503, .iload_n 3, 1), (504, .iconst 3, 1), (505, .iadd, 1), (506, .iaload, 1), (507, .invokevirtual 55, 3)]
theorem kL_law_16 {nm : String} : DEC (mLn nm) tL_law_16 := (show ∀ e ∈ tL_law_16, decode code e.1 = .ok e.2 from by decide +kernel)
def tL_law_17 : List (Nat × Instr × Nat) := [(510, .pop, 1), (511, .aload_n 2, 1), (512, .aload_n 0, 1), (513, .iload_n 3, 1), (514, .iconst 1, 1), (515, .iadd, 1), (516, .iaload, 1), (517, .aload_n 0, 1), (518, .iload_n 3, 1), (519, .iconst 2, 1), (520, .iadd, 1), (521, .iaload, 1), (522, .aload_n 0, 1), (523, .iload_n 3, 1), (524, .iconst 3, 1), (525, .iadd, 1)]
theorem kL_law_17 {nm : String} : DEC (mLn nm) tL_law_17 := (show ∀ e ∈ tL_law_17, decode code e.1 = .ok e.2 from by decide +kernel)
def tL_law_18 : List (Nat × Instr × Nat) := [(526, .iaload, 1), (527, .invokevirtual 58, 3), (530, .pop, 1), (531, .goto (940), 3), (534, .aload_n 1, 1), (535, .aload_n 0, 1), (536, .iload_n 3, 1), (537, .iconst 1, 1), (538, .iadd, 1), (539, .iaload, 1), (540, .aload_n 0, 1), (541, .iload_n 3, 1), (542, .iconst 2, 1), (543, .iadd, 1), (544, .iaload, 1), (545, .invokevirtual 59, 3)]
theorem kL_law_18 {nm : String} : DEC (mLn nm) tL_law_18 := (show ∀ e ∈ tL_law_18, decode code e.1 = .ok e.2 from by decide +kernel)
def tL_law_19 : List (Nat × Instr × Nat) := [(548, .pop, 1), (549, .aload_n 2, 1), (550, .aload_n 0, 1), (551, .iload_n 3, 1), (552, .iconst 1, 1), (553, .iadd, 1), (554, .iaload, 1), (555, .aload_n 0, 1), (556, .iload_n 3, 1), (557, .iconst 2, 1), (558, .iadd, 1), (559, .iaload, 1), (560, .invokevirtual 62, 3), (563, .pop, 1), (564, .goto (907), 3), (567, .aload_n 1, 1)]
theorem kL_law_19 {nm : String} : DEC (mLn nm) tL_law_19 := (show ∀ e ∈ tL_law_19, decode code e.1 = .ok e.2 from by decide +kernel)
def tL_law_20 : List (Nat × Instr × Nat) := [(568, .aload_n 0, 1), (569, .iload_n 3, 1), (570, .iconst 1, 1), (571, .iadd, 1), (572, .iaload, 1), (573, .aload_n 0, 1), (574, .iload_n 3, 1), (575, .iconst 2, 1), (576, .iadd, 1), (577, .iaload, 1), (578, .invokevirtual 63, 3), (581, .pop, 1), (582, .aload_n 2, 1), (583, .aload_n 0, 1), (584, .iload_n 3, 1), (585, .iconst 1, 1)]
theorem kL_law_20 {nm : String} : DEC (mLn nm) tL_law_20 := (show ∀ e ∈ tL_law_20, decode code e.1 = .ok e.2 from by decide +kernel)
def tL_law_21 : List (Nat × Instr × Nat) := [(586, .iadd, 1), (587, .iaload, 1), (588, .aload_n 0, 1), (589, .iload_n 3, 1), (590, .iconst 2, 1), (591, .iadd, 1), (592, .iaload, 1), (593, .invokevirtual 66, 3), (596, .pop, 1), (597, .goto (874), 3), (600, .aload_n 1, 1), (601, .aload_n 0, 1), (602, .iload_n 3, 1), (603, .iconst 1, 1), (604, .iadd, 1), (605, .iaload, 1)]
theorem kL_law_21 {nm : String} : DEC (mLn nm) tL_law_21 := (show ∀ e ∈ tL_law_21, decode code e.1 = .ok e.2 from by decide +kernel)
def tL_law_22 : List (Nat × Instr × Nat) := [(606, .aload_n 0, 1), (607, .iload_n 3, 1), (608, .iconst 2, 1), (609, .iadd, 1), (610, .iaload, 1), (611, .invokevirtual 67, 3), (614, .pop, 1), (615, .aload_n 2, 1), (616, .aload_n 0, 1), (617, .iload_n 3, 1), (618, .iconst 1, 1), (619, .iadd, 1), (620, .iaload, 1), (621, .aload_n 0, 1), (622, .iload_n 3, 1), (623, .iconst 2, 1)]
theorem kL_law_22 {nm : String} : DEC (mLn nm) tL_law_22 := (show ∀ e ∈ tL_law_22, decode code e.1 = .ok e.2 from by decide +kernel)
def tL_law_23 : List (Nat × Instr × Nat) := [(624, .iadd, 1), (625, .iaload, 1), (626, .invokevirtual 70, 3), (629, .pop, 1), (630, .goto (841), 3), (633, .aload_n 1, 1), (634, .aload_n 0, 1), (635, .iload_n 3, 1), (636, .iconst 1, 1), (637, .iadd, 1), (638, .iaload, 1), (639, .aload_n 0, 1), (640, .iload_n 3, 1), (641, .iconst 2, 1), (642, .iadd, 1), (643, .iaload, 1)]
theorem kL_law_23 {nm : String} : DEC (mLn nm) tL_law_23 := (show ∀ e ∈ tL_law_23, decode code e.1 = .ok e.2 from by decide +kernel)
def tL_law_24 : List (Nat × Instr × Nat) := [(644, .invokevirtual 71, 3), (647, .pop2, 1), (648, .aload_n 2, 1), (649, .aload_n 0, 1), (650, .iload_n 3, 1), (651, .iconst 1, 1), (652, .iadd, 1), (653, .iaload, 1), (654, .aload_n 0, 1), (655, .iload_n 3, 1), (656, .iconst 2, 1), (657, .iadd, 1), (658, .iaload, 1), (659, .invokevirtual 75, 3), (662, .pop2, 1), (663, .goto (808), 3)]
theorem kL_law_24 {nm : String} : DEC (mLn nm) tL_law_24 := (show ∀ e ∈ tL_law_24, decode code e.1 = .ok e.2 from by decide +kernel)
def tL_law_25 : List (Nat × Instr × Nat) := [(666, .aload_n 1, 1), (667, .aload_n 0, 1), (668, .iload_n 3, 1), (669, .iconst 1, 1), (670, .iadd, 1), (671, .iaload, 1), (672, .aload_n 0, 1), (673, .iload_n 3, 1), (674, .iconst 2, 1), (675, .iadd, 1), (676, .iaload, 1), (677, .aload_n 0, 1), (678, .iload_n 3, 1), (679, .iconst 3, 1), (680, .iadd, 1), (681, .iaload, 1)]
theorem kL_law_25 {nm : String} : DEC (mLn nm) tL_law_25 := (show ∀ e ∈ tL_law_25, decode code e.1 = .ok e.2 from by decide +kernel)
def tL_law_26 : List (Nat × Instr × Nat) := [(682, .invokevirtual 76, 3), (685, .pop, 1), (686, .aload_n 2, 1), (687, .aload_n 0, 1), (688, .iload_n 3, 1), (689, .iconst 1, 1), (690, .iadd, 1), (691, .iaload, 1), (692, .aload_n 0, 1), (693, .iload_n 3, 1), (694, .iconst 2, 1), (695, .iadd, 1), (696, .iaload, 1), (697, .aload_n 0, 1), (698, .iload_n 3, 1), (699, .iconst 3, 1)]
theorem kL_law_26 {nm : String} : DEC (mLn nm) tL_law_26 := (show ∀ e ∈ tL_law_26, decode code e.1 = .ok e.2 from by decide +kernel)
def tL_law_27 : List (Nat × Instr × Nat) := [(700, .iadd, 1), (701, .iaload, 1), (702, .invokevirtual 79, 3), (705, .pop, 1), (706, .goto (765), 3), (709, .aload_n 1, 1), (710, .aload_n 0, 1), (711, .iload_n 3, 1), (712, .iconst 1, 1), (713, .iadd, 1), (714, .iaload, 1), (715, .aload_n 0, 1), (716, .iload_n 3, 1), (717, .iconst 2, 1), (718, .iadd, 1), (719, .iaload, 1)]
theorem kL_law_27 {nm : String} : DEC (mLn nm) tL_law_27 := (show ∀ e ∈ tL_law_27, decode code e.1 = .ok e.2 from by decide +kernel)
def tL_law_28 : List (Nat × Instr × Nat) := [(720, .invokevirtual 80, 3), (723, .pop, 1), (724, .aload_n 2, 1), (725, .aload_n 0, 1), (726, .iload_n 3, 1), (727, .iconst 1, 1), (728, .iadd, 1), (729, .iaload, 1), (730, .aload_n 0, 1), (731, .iload_n 3, 1), (732, .iconst 2, 1), (733, .iadd, 1), (734, .iaload, 1), (735, .invokevirtual 83, 3), (738, .pop, 1), (739, .goto (732), 3)]
theorem kL_law_28 {nm : String} : DEC (mLn nm) tL_law_28 := (show ∀ e ∈ tL_law_28, decode code e.1 = .ok e.2 from by decide +kernel)
def tL_law_29 : List (Nat × Instr × Nat) := [(742, .aload_n 1, 1), (743, .aload_n 0, 1), (744, .iload_n 3, 1), (745, .iconst 1, 1), (746, .iadd, 1), (747, .iaload, 1), (748, .aload_n 0, 1), (749, .iload_n 3, 1), (750, .iconst 2, 1), (751, .iadd, 1), (752, .iaload, 1), (753, .invokevirtual 84, 3), (756, .pop, 1), (757, .aload_n 2, 1), (758, .aload_n 0, 1), (759, .iload_n 3, 1)]
theorem kL_law_29 {nm : String} : DEC (mLn nm) tL_law_29 := (show ∀ e ∈ tL_law_29, decode code e.1 = .ok e.2 from by decide +kernel)
def tL_law_30 : List (Nat × Instr × Nat) := [(760, .iconst 1, 1), (761, .iadd, 1), (762, .iaload, 1), (763, .aload_n 0, 1), (764, .iload_n 3, 1), (765, .iconst 2, 1), (766, .iadd, 1), (767, .iaload, 1), (768, .invokevirtual 87, 3), (771, .pop, 1), (772, .goto (699), 3), (775, .aload_n 1, 1), (776, .aload_n 0, 1), (777, .iload_n 3, 1), (778, .iconst 1, 1), (779, .iadd, 1)]
theorem kL_law_30 {nm : String} : DEC (mLn nm) tL_law_30 := (show ∀ e ∈ tL_law_30, decode code e.1 = .ok e.2 from by decide +kernel)
def tL_law_31 : List (Nat × Instr × Nat) := [(780, .iaload, 1), (781, .aload_n 0, 1), (782, .iload_n 3, 1), (783, .iconst 2, 1), (784, .iadd, 1), (785, .iaload, 1), (786, .invokevirtual 88, 3), (789, .pop, 1), (790, .aload_n 2, 1), (791, .aload_n 0, 1), (792, .iload_n 3, 1), (793, .iconst 1, 1), (794, .iadd, 1), (795, .iaload, 1), (796, .aload_n 0, 1), (797, .iload_n 3, 1)]
theorem kL_law_31 {nm : String} : DEC (mLn nm) tL_law_31 := (show ∀ e ∈ tL_law_31, decode code e.1 = .ok e.2 from by decide +kernel)
def tL_law_32 : List (Nat × Instr × Nat) := [(798, .iconst 2, 1), (799, .iadd, 1), (800, .iaload, 1), (801, .invokevirtual 91, 3), (804, .pop, 1), (805, .goto (666), 3), (808, .aload_n 1, 1), (809, .aload_n 0, 1), (810, .iload_n 3, 1), (811, .iconst 1, 1), (812, .iadd, 1), (813, .iaload, 1), (814, .aload_n 0, 1), (815, .iload_n 3, 1), (816, .iconst 2, 1), (817, .iadd, 1)]
theorem kL_law_32 {nm : String} : DEC (mLn nm) tL_law_32 := (show ∀ e ∈ tL_law_32, decode code e.1 = .ok e.2 from by decide +kernel)
def tL_law_33 : List (Nat × Instr × Nat) := [(818, .iaload, 1), (819, .invokevirtual 92, 3), (822, .pop, 1), (823, .aload_n 2, 1), (824, .aload_n 0, 1), (825, .iload_n 3, 1), (826, .iconst 1, 1), (827, .iadd, 1), (828, .iaload, 1), (829, .aload_n 0, 1), (830, .iload_n 3, 1), (831, .iconst 2, 1), (832, .iadd, 1), (833, .iaload, 1), (834, .invokevirtual 95, 3), (837, .pop, 1)]
theorem kL_law_33 {nm : String} : DEC (mLn nm) tL_law_33 := (show ∀ e ∈ tL_law_33, decode code e.1 = .ok e.2 from by decide +kernel)
def tL_law_34 : List (Nat × Instr × Nat) := [(838, .goto (633), 3), (841, .aload_n 1, 1), (842, .aload_n 0, 1), (843, .iload_n 3, 1), (844, .iconst 1, 1), (845, .iadd, 1), (846, .iaload, 1), (847, .aload_n 0, 1), (848, .iload_n 3, 1), (849, .iconst 2, 1), (850, .iadd, 1), (851, .iaload, 1), (852, .invokevirtual 96, 3), (855, .pop2, 1), (856, .aload_n 2, 1), (857, .aload_n 0, 1)]
theorem kL_law_34 {nm : String} : DEC (mLn nm) tL_law_34 := (show ∀ e ∈ tL_law_34, decode code e.1 = .ok e.2 from by decide +kernel)
def tL_law_35 : List (Nat × Instr × Nat) := [(858, .iload_n 3, 1), (859, .iconst 1, 1), (860, .iadd, 1), (861, .iaload, 1), (862, .aload_n 0, 1), (863, .iload_n 3, 1), (864, .iconst 2, 1), (865, .iadd, 1), (866, .iaload, 1), (867, .invokevirtual 99, 3), (870, .pop2, 1), (871, .goto (600), 3), (874, .aload_n 1, 1), (875, .aload_n 0, 1), (876, .iload_n 3, 1), (877, .iconst 1, 1)]
theorem kL_law_35 {nm : String} : DEC (mLn nm) tL_law_35 := (show ∀ e ∈ tL_law_35, decode code e.1 = .ok e.2 from by decide +kernel)
def tL_law_36 : List (Nat × Instr × Nat) := [(878, .iadd, 1), (879, .iaload, 1), (880, .aload_n 0, 1), (881, .iload_n 3, 1), (882, .iconst 2, 1), (883, .iadd, 1), (884, .iaload, 1), (885, .aload_n 0, 1), (886, .iload_n 3, 1), (887, .iconst 3, 1), (888, .iadd, 1), (889, .iaload, 1), (890, .invokevirtual 100, 3), (893, .pop, 1), (894, .aload_n 2, 1), (895, .aload_n 0, 1)]
theorem kL_law_36 {nm : String} : DEC (mLn nm) tL_law_36 := (show ∀ e ∈ tL_law_36, decode code e.1 = .ok e.2 from by decide +kernel)
def tL_law_37 : List (Nat × Instr × Nat) := [(896, .iload_n 3, 1), (897, .iconst 1, 1), (898, .iadd, 1), (899, .iaload, 1), (900, .aload_n 0, 1), (901, .iload_n 3, 1), (902, .iconst 2, 1), (903, .iadd, 1), (904, .iaload, 1), (905, .aload_n 0, 1), (906, .iload_n 3, 1), (907, .iconst 3, 1), (908, .iadd, 1), (909, .iaload, 1), (910, .invokevirtual 103, 3), (913, .pop, 1)]
theorem kL_law_37 {nm : String} : DEC (mLn nm) tL_law_37 := (show ∀ e ∈ tL_law_37, decode code e.1 = .ok e.2 from by decide +kernel)
def tL_law_38 : List (Nat × Instr × Nat) := [(914, .goto (557), 3), (917, .aload_n 1, 1), (918, .aload_n 0, 1), (919, .iload_n 3, 1), (920, .iconst 1, 1), (921, .iadd, 1), (922, .iaload, 1), (923, .aload_n 0, 1), (924, .iload_n 3, 1), (925, .iconst 2, 1), (926, .iadd, 1), (927, .iaload, 1), (928, .aload_n 0, 1), (929, .iload_n 3, 1), (930, .iconst 3, 1), (931, .iadd, 1)]
theorem kL_law_38 {nm : String} : DEC (mLn nm) tL_law_38 := (show ∀ e ∈ tL_law_38, decode code e.1 = .ok e.2 from by decide +kernel)
def tL_law_39 : List (Nat × Instr × Nat) := [(932, .iaload, 1), (933, .invokevirtual 104, 3), (936, .pop, 1), (937, .aload_n 2, 1), (938, .aload_n 0, 1), (939, .iload_n 3, 1), (940, .iconst 1, 1), (941, .iadd, 1), (942, .iaload, 1), (943, .aload_n 0, 1), (944, .iload_n 3, 1), (945, .iconst 2, 1), (946, .iadd, 1), (947, .iaload, 1), (948, .aload_n 0, 1), (949, .iload_n 3, 1)]
theorem kL_law_39 {nm : String} : DEC (mLn nm) tL_law_39 := (show ∀ e ∈ tL_law_39, decode code e.1 = .ok e.2 from by decide +kernel)
def tL_law_40 : List (Nat × Instr × Nat) := [(950, .iconst 3, 1), (951, .iadd, 1), (952, .iaload, 1), (953, .invokevirtual 107, 3), (956, .pop, 1), (957, .goto (514), 3), (960, .aload_n 1, 1), (961, .aload_n 0, 1), (962, .iload_n 3, 1), (963, .iconst 1, 1), (964, .iadd, 1), (965, .iaload, 1), (966, .invokevirtual 108, 3), (969, .pop, 1), (970, .aload_n 2, 1), (971, .aload_n 0, 1)]
theorem kL_law_40 {nm : String} : DEC (mLn nm) tL_law_40 := (show ∀ e ∈ tL_law_40, decode code e.1 = .ok e.2 from by decide +kernel)
def tL_law_41 : List (Nat × Instr × Nat) := [(972, .iload_n 3, 1), (973, .iconst 1, 1), (974, .iadd, 1), (975, .iaload, 1), (976, .invokevirtual 111, 3), (979, .pop, 1), (980, .goto (491), 3), (983, .aload_n 1, 1), (984, .aload_n 0, 1), (985, .iload_n 3, 1), (986, .iconst 1, 1), (987, .iadd, 1), (988, .iaload, 1), (989, .invokevirtual 112, 3), (992, .pop, 1), (993, .aload_n 2, 1)]
theorem kL_law_41 {nm : String} : DEC (mLn nm) tL_law_41 := (show ∀ e ∈ tL_law_41, decode code e.1 = .ok e.2 from by decide +kernel)
def tL_law_42 : List (Nat × Instr × Nat) := [(994, .aload_n 0, 1), (995, .iload_n 3, 1), (996, .iconst 1, 1), (997, .iadd, 1), (998, .iaload, 1), (999, .invokevirtual 115, 3), (1002, .pop, 1), (1003, .goto (468), 3), (1006, .aload_n 1, 1), (1007, .aload_n 0, 1), (1008, .iload_n 3, 1), (1009, .iconst 1, 1), (1010, .iadd, 1), (1011, .iaload, 1), (1012, .invokevirtual 116, 3), (1015, .pop, 1)]
theorem kL_law_42 {nm : String} : DEC (mLn nm) tL_law_42 := (show ∀ e ∈ tL_law_42, decode code e.1 = .ok e.2 from by decide +kernel)
def tL_law_43 : List (Nat × Instr × Nat) := [(1016, .aload_n 2, 1), (1017, .aload_n 0, 1), (1018, .iload_n 3, 1), (1019, .iconst 1, 1), (1020, .iadd, 1), (1021, .iaload, 1), (1022, .invokevirtual 119, 3), (1025, .pop, 1), (1026, .goto (445), 3), (1029, .aload_n 1, 1), (1030, .invokevirtual 120, 3), (1033, .pop, 1), (1034, .aload_n 2, 1), (1035, .invokevirtual 123, 3), (1038, .pop, 1), (1039, .goto (432), 3)]
theorem kL_law_43 {nm : String} : DEC (mLn nm) tL_law_43 := (show ∀ e ∈ tL_law_43, decode code e.1 = .ok e.2 from by decide +kernel)
def tL_law_44 : List (Nat × Instr × Nat) := [(1042, .aload_n 1, 1), (1043, .invokevirtual 124, 3), (1046, .pop, 1), (1047, .aload_n 2, 1), (1048, .invokevirtual 127, 3), (1051, .pop, 1), (1052, .goto (419), 3), (1055, .aload_n 1, 1), (1056, .invokevirtual 128, 3), (1059, .pop, 1), (1060, .aload_n 2, 1), (1061, .invokevirtual 131, 3), (1064, .pop, 1), (1065, .goto (406), 3), (1068, .aload_n 1, 1), (1069, .invokevirtual 132, 3)]
theorem kL_law_44 {nm : String} : DEC (mLn nm) tL_law_44 := (show ∀ e ∈ tL_law_44, decode code e.1 = .ok e.2 from by decide +kernel)
def tL_law_45 : List (Nat × Instr × Nat) := [(1072, .pop, 1), (1073, .aload_n 2, 1), (1074, .invokevirtual 135, 3), (1077, .pop, 1), (1078, .goto (393), 3), (1081, .aload_n 1, 1), (1082, .aload_n 0, 1), (1083, .iload_n 3, 1), (1084, .iconst 1, 1), (1085, .iadd, 1), (1086, .iaload, 1), (1087, .invokevirtual 136, 3), (1090, .pop, 1), (1091, .aload_n 2, 1), (1092, .aload_n 0, 1), (1093, .iload_n 3, 1)]
theorem kL_law_45 {nm : String} : DEC (mLn nm) tL_law_45 := (show ∀ e ∈ tL_law_45, decode code e.1 = .ok e.2 from by decide +kernel)
def tL_law_46 : List (Nat × Instr × Nat) := [(1094, .iconst 1, 1), (1095, .iadd, 1), (1096, .iaload, 1), (1097, .invokevirtual 139, 3), (1100, .pop, 1), (1101, .goto (370), 3), (1104, .aload_n 1, 1), (1105, .aload_n 0, 1), (1106, .iload_n 3, 1), (1107, .iconst 1, 1), (1108, .iadd, 1), (1109, .iaload, 1), (1110, .aload_n 0, 1), (1111, .iload_n 3, 1), (1112, .iconst 2, 1), (1113, .iadd, 1)]
theorem kL_law_46 {nm : String} : DEC (mLn nm) tL_law_46 := (show ∀ e ∈ tL_law_46, decode code e.1 = .ok e.2 from by decide +kernel)
def tL_law_47 : List (Nat × Instr × Nat) := [(1114, .iaload, 1), (1115, .aload_n 0, 1), (1116, .iload_n 3, 1), (1117, .iconst 3, 1), (1118, .iadd, 1), (1119, .iaload, 1), (1120, .invokevirtual 140, 3), (1123, .pop, 1), (1124, .aload_n 2, 1), (1125, .aload_n 0, 1), (1126, .iload_n 3, 1), (1127, .iconst 1, 1), (1128, .iadd, 1), (1129, .iaload, 1), (1130, .aload_n 0, 1), (1131, .iload_n 3, 1)]
theorem kL_law_47 {nm : String} : DEC (mLn nm) tL_law_47 := (show ∀ e ∈ tL_law_47, decode code e.1 = .ok e.2 from by decide +kernel)
def tL_law_48 : List (Nat × Instr × Nat) := [(1132, .iconst 2, 1), (1133, .iadd, 1), (1134, .iaload, 1), (1135, .aload_n 0, 1), (1136, .iload_n 3, 1), (1137, .iconst 3, 1), (1138, .iadd, 1), (1139, .iaload, 1), (1140, .invokevirtual 143, 3), (1143, .pop, 1), (1144, .goto (327), 3), (1147, .aload_n 1, 1), (1148, .aload_n 0, 1), (1149, .iload_n 3, 1), (1150, .iconst 1, 1), (1151, .iadd, 1)]
theorem kL_law_48 {nm : String} : DEC (mLn nm) tL_law_48 := (show ∀ e ∈ tL_law_48, decode code e.1 = .ok e.2 from by decide +kernel)
def tL_law_49 : List (Nat × Instr × Nat) := [(1152, .iaload, 1), (1153, .invokevirtual 144, 3), (1156, .pop, 1), (1157, .aload_n 2, 1), (1158, .aload_n 0, 1), (1159, .iload_n 3, 1), (1160, .iconst 1, 1), (1161, .iadd, 1), (1162, .iaload, 1), (1163, .invokevirtual 147, 3), (1166, .pop, 1), (1167, .goto (304), 3), (1170, .aload_n 1, 1), (1171, .aload_n 0, 1), (1172, .iload_n 3, 1), (1173, .iconst 1, 1)]
theorem kL_law_49 {nm : String} : DEC (mLn nm) tL_law_49 := (show ∀ e ∈ tL_law_49, decode code e.1 = .ok e.2 from by decide +kernel)
def tL_law_50 : List (Nat × Instr × Nat) := [(1174, .iadd, 1), (1175, .iaload, 1), (1176, .aload_n 0, 1), (1177, .iload_n 3, 1), (1178, .iconst 2, 1), (1179, .iadd, 1), (1180, .iaload, 1), (1181, .invokevirtual 148, 3), (1184, .pop, 1), (1185, .aload_n 2, 1), (1186, .aload_n 0, 1), (1187, .iload_n 3, 1), (1188, .iconst 1, 1), (1189, .iadd, 1), (1190, .iaload, 1), (1191, .aload_n 0, 1)]
theorem kL_law_50 {nm : String} : DEC (mLn nm) tL_law_50 := (show ∀ e ∈ tL_law_50, decode code e.1 = .ok e.2 from by decide +kernel)
def tL_law_51 : List (Nat × Instr × Nat) := [(1192, .iload_n 3, 1), (1193, .iconst 2, 1), (1194, .iadd, 1), (1195, .iaload, 1), (1196, .invokevirtual 151, 3), (1199, .pop, 1), (1200, .goto (271), 3), (1203, .aload_n 1, 1), (1204, .aload_n 0, 1), (1205, .iload_n 3, 1), (1206, .iconst 1, 1), (1207, .iadd, 1), (1208, .iaload, 1), (1209, .aload_n 0, 1), (1210, .iload_n 3, 1), (1211, .iconst 2, 1)]
theorem kL_law_51 {nm : String} : DEC (mLn nm) tL_law_51 := (show ∀ e ∈ tL_law_51, decode code e.1 = .ok e.2 from by decide +kernel)
def tL_law_52 : List (Nat × Instr × Nat) := [(1212, .iadd, 1), (1213, .iaload, 1), (1214, .aload_n 0, 1), (1215, .iload_n 3, 1), (1216, .iconst 3, 1), (1217, .iadd, 1), (1218, .iaload, 1), (1219, .invokevirtual 152, 3), (1222, .pop, 1), (1223, .aload_n 2, 1), (1224, .aload_n 0, 1), (1225, .iload_n 3, 1), (1226, .iconst 1, 1), (1227, .iadd, 1), (1228, .iaload, 1), (1229, .aload_n 0, 1)]
theorem kL_law_52 {nm : String} : DEC (mLn nm) tL_law_52 := (show ∀ e ∈ tL_law_52, decode code e.1 = .ok e.2 from by decide +kernel)
def tL_law_53 : List (Nat × Instr × Nat) := [(1230, .iload_n 3, 1), (1231, .iconst 2, 1), (1232, .iadd, 1), (1233, .iaload, 1), (1234, .aload_n 0, 1), (1235, .iload_n 3, 1), (1236, .iconst 3, 1), (1237, .iadd, 1), (1238, .iaload, 1), (1239, .invokevirtual 155, 3), (1242, .pop, 1), (1243, .goto (228), 3), (1246, .aload_n 1, 1), (1247, .aload_n 0, 1), (1248, .iload_n 3, 1), (1249, .iconst 1, 1)]
theorem kL_law_53 {nm : String} : DEC (mLn nm) tL_law_53 := (show ∀ e ∈ tL_law_53, decode code e.1 = .ok e.2 from by decide +kernel)
def tL_law_54 : List (Nat × Instr × Nat) := [(1250, .iadd, 1), (1251, .iaload, 1), (1252, .aload_n 0, 1), (1253, .iload_n 3, 1), (1254, .iconst 2, 1), (1255, .iadd, 1), (1256, .iaload, 1), (1257, .aload_n 0, 1), (1258, .iload_n 3, 1), (1259, .iconst 3, 1), (1260, .iadd, 1), (1261, .iaload, 1), (1262, .i2l, 1), (1263, .bipush (32), 2), (1265, .lshl, 1), (1266, .aload_n 0, 1)]
theorem kL_law_54 {nm : String} : DEC (mLn nm) tL_law_54 := (show ∀ e ∈ tL_law_54, decode code e.1 = .ok e.2 from by decide +kernel)
def tL_law_55 : List (Nat × Instr × Nat) := [(1267, .iload_n 3, 1), (1268, .iconst 4, 1), (1269, .iadd, 1), (1270, .iaload, 1), (1271, .i2l, 1), (1272, .ldc2_w 156, 3), (1275, .land, 1), (1276, .lor, 1), (1277, .invokevirtual 158, 3), (1280, .pop, 1), (1281, .aload_n 2, 1), (1282, .aload_n 0, 1), (1283, .iload_n 3, 1), (1284, .iconst 1, 1), (1285, .iadd, 1), (1286, .iaload, 1)]
theorem kL_law_55 {nm : String} : DEC (mLn nm) tL_law_55 := (show ∀ e ∈ tL_law_55, decode code e.1 = .ok e.2 from by decide +kernel)
def tL_law_56 : List (Nat × Instr × Nat) := [(1287, .aload_n 0, 1), (1288, .iload_n 3, 1), (1289, .iconst 2, 1), (1290, .iadd, 1), (1291, .iaload, 1), (1292, .aload_n 0, 1), (1293, .iload_n 3, 1), (1294, .iconst 3, 1), (1295, .iadd, 1), (1296, .iaload, 1), (1297, .i2l, 1), (1298, .bipush (32), 2), (1300, .lshl, 1), (1301, .aload_n 0, 1), (1302, .iload_n 3, 1), (1303, .iconst 4, 1)]
theorem kL_law_56 {nm : String} : DEC (mLn nm) tL_law_56 := (show ∀ e ∈ tL_law_56, decode code e.1 = .ok e.2 from by decide +kernel)
def tL_law_57 : List (Nat × Instr × Nat) := [(1304, .iadd, 1), (1305, .iaload, 1), (1306, .i2l, 1), (1307, .ldc2_w 156, 3), (1310, .land, 1), (1311, .lor, 1), (1312, .invokevirtual 162, 3), (1315, .pop, 1), (1316, .goto (155), 3), (1319, .aload_n 1, 1), (1320, .aload_n 0, 1), (1321, .iload_n 3, 1), (1322, .iconst 1, 1), (1323, .iadd, 1), (1324, .iaload, 1), (1325, .aload_n 0, 1)]
theorem kL_law_57 {nm : String} : DEC (mLn nm) tL_law_57 := (show ∀ e ∈ tL_law_57, decode code e.1 = .ok e.2 from by decide +kernel)
def tL_law_58 : List (Nat × Instr × Nat) := [(1326, .iload_n 3, 1), (1327, .iconst 2, 1), (1328, .iadd, 1), (1329, .iaload, 1), (1330, .invokevirtual 163, 3), (1333, .pop2, 1), (1334, .aload_n 2, 1), (1335, .aload_n 0, 1), (1336, .iload_n 3, 1), (1337, .iconst 1, 1), (1338, .iadd, 1), (1339, .iaload, 1), (1340, .aload_n 0, 1), (1341, .iload_n 3, 1), (1342, .iconst 2, 1), (1343, .iadd, 1)]
theorem kL_law_58 {nm : String} : DEC (mLn nm) tL_law_58 := (show ∀ e ∈ tL_law_58, decode code e.1 = .ok e.2 from by decide +kernel)
def tL_law_59 : List (Nat × Instr × Nat) := [(1344, .iaload, 1), (1345, .invokevirtual 166, 3), (1348, .pop2, 1), (1349, .goto (122), 3), (1352, .aload_n 1, 1), (1353, .aload_n 0, 1), (1354, .iload_n 3, 1), (1355, .iconst 1, 1), (1356, .iadd, 1), (1357, .iaload, 1), (1358, .aload_n 0, 1), (1359, .iload_n 3, 1), (1360, .iconst 2, 1), (1361, .iadd, 1), (1362, .iaload, 1), (1363, .aload_n 0, 1)]
theorem kL_law_59 {nm : String} : DEC (mLn nm) tL_law_59 := (show ∀ e ∈ tL_law_59, decode code e.1 = .ok e.2 from by decide +kernel)
def tL_law_60 : List (Nat × Instr × Nat) := [(1364, .iload_n 3, 1), (1365, .iconst 3, 1), (1366, .iadd, 1), (1367, .iaload, 1), (1368, .aload_n 0, 1), (1369, .iload_n 3, 1), (1370, .iconst 4, 1), (1371, .iadd, 1), (1372, .iaload, 1), (1373, .aload_n 0, 1), (1374, .iload_n 3, 1), (1375, .iconst 5, 1), (1376, .iadd, 1), (1377, .iaload, 1), (1378, .invokevirtual 167, 3), (1381, .pop, 1)]
theorem kL_law_60 {nm : String} : DEC (mLn nm) tL_law_60 := (show ∀ e ∈ tL_law_60, decode code e.1 = .ok e.2 from by decide +kernel)
def tL_law_61 : List (Nat × Instr × Nat) := [(1382, .aload_n 2, 1), (1383, .aload_n 0, 1), (1384, .iload_n 3, 1), (1385, .iconst 1, 1), (1386, .iadd, 1), (1387, .iaload, 1), (1388, .aload_n 0, 1), (1389, .iload_n 3, 1), (1390, .iconst 2, 1), (1391, .iadd, 1), (1392, .iaload, 1), (1393, .aload_n 0, 1), (1394, .iload_n 3, 1), (1395, .iconst 3, 1), (1396, .iadd, 1), (1397, .iaload, 1)]
theorem kL_law_61 {nm : String} : DEC (mLn nm) tL_law_61 := (show ∀ e ∈ tL_law_61, decode code e.1 = .ok e.2 from by decide +kernel)
def tL_law_62 : List (Nat × Instr × Nat) := [(1398, .aload_n 0, 1), (1399, .iload_n 3, 1), (1400, .iconst 4, 1), (1401, .iadd, 1), (1402, .iaload, 1), (1403, .aload_n 0, 1), (1404, .iload_n 3, 1), (1405, .iconst 5, 1), (1406, .iadd, 1), (1407, .iaload, 1), (1408, .invokevirtual 171, 3), (1411, .pop, 1), (1412, .goto (59), 3), (1415, .aload_n 1, 1), (1416, .aload_n 0, 1), (1417, .iload_n 3, 1)]
theorem kL_law_62 {nm : String} : DEC (mLn nm) tL_law_62 := (show ∀ e ∈ tL_law_62, decode code e.1 = .ok e.2 from by decide +kernel)
def tL_law_63 : List (Nat × Instr × Nat) := [(1418, .iconst 1, 1), (1419, .iadd, 1), (1420, .iaload, 1), (1421, .aload_n 0, 1), (1422, .iload_n 3, 1), (1423, .iconst 2, 1), (1424, .iadd, 1), (1425, .iaload, 1), (1426, .invokevirtual 172, 3), (1429, .pop, 1), (1430, .aload_n 2, 1), (1431, .aload_n 0, 1), (1432, .iload_n 3, 1), (1433, .iconst 1, 1), (1434, .iadd, 1), (1435, .iaload, 1)]
theorem kL_law_63 {nm : String} : DEC (mLn nm) tL_law_63 := (show ∀ e ∈ tL_law_63, decode code e.1 = .ok e.2 from by decide +kernel)
def tL_law_64 : List (Nat × Instr × Nat) := [(1436, .aload_n 0, 1), (1437, .iload_n 3, 1), (1438, .iconst 2, 1), (1439, .iadd, 1), (1440, .iaload, 1), (1441, .invokevirtual 175, 3), (1444, .pop, 1), (1445, .goto (26), 3), (1448, .aload_n 1, 1), (1449, .aload_n 0, 1), (1450, .iload_n 3, 1), (1451, .iconst 1, 1), (1452, .iadd, 1), (1453, .iaload, 1), (1454, .invokevirtual 176, 3), (1457, .aload_n 2, 1)]
theorem kL_law_64 {nm : String} : DEC (mLn nm) tL_law_64 := (show ∀ e ∈ tL_law_64, decode code e.1 = .ok e.2 from by decide +kernel)
def tL_law_65 : List (Nat × Instr × Nat) := [(1458, .aload_n 0, 1), (1459, .iload_n 3, 1), (1460, .iconst 1, 1), (1461, .iadd, 1), (1462, .iaload, 1), (1463, .invokevirtual 179, 3), (1466, .if_icmp .eq (5), 3), (1469, .iconst 0, 1), (1470, .ireturn, 1), (1471, .iinc 3 (6), 3), (1474, .goto (-1456), 3), (1477, .iconst 1, 1), (1478, .ireturn, 1)]
theorem kL_law_65 {nm : String} : DEC (mLn nm) tL_law_65 := (show ∀ e ∈ tL_law_65, decode code e.1 = .ok e.2 from by decide +kernel)
theorem dL_law_0 {nm : String} : DI (mLn nm) 0 (.new 7) 3 3 := ⟨(kL_law_0 (nm := nm)).at 0 rfl, rfl⟩
theorem dL_law_3 {nm : String} : DI (mLn nm) 3 (.dup) 1 4 := ⟨(kL_law_0 (nm := nm)).at 1 rfl, rfl⟩
theorem dL_law_4 {nm : String} : DI (mLn nm) 4 (.invokespecial 9) 3 7 := ⟨(kL_law_0 (nm := nm)).at 2 rfl, rfl⟩
theorem dL_law_7 {nm : String} : DSa (mLn nm) 7 1 8 := ⟨Nat.le_of_ble_eq_true rfl, Or.inl ⟨1, (kL_law_0 (nm := nm)).at 3 rfl, rfl, rfl⟩⟩
theorem dL_law_8 {nm : String} : DI (mLn nm) 8 (.new 10) 3 11 := ⟨(kL_law_0 (nm := nm)).at 4 rfl, rfl⟩
theorem dL_law_11 {nm : String} : DI (mLn nm) 11 (.dup) 1 12 := ⟨(kL_law_0 (nm := nm)).at 5 rfl, rfl⟩
theorem dL_law_12 {nm : String} : DI (mLn nm) 12 (.invokespecial 12) 3 15 := ⟨(kL_law_0 (nm := nm)).at 6 rfl, rfl⟩
theorem dL_law_15 {nm : String} : DSa (mLn nm) 15 2 16 := ⟨Nat.le_of_ble_eq_true rfl, Or.inl ⟨2, (kL_law_0 (nm := nm)).at 7 rfl, rfl, rfl⟩⟩
theorem dL_law_16 {nm : String} : DC (mLn nm) 16 0 17 := Or.inl ⟨0, (kL_law_0 (nm := nm)).at 8 rfl, by decide, rfl⟩
theorem dL_law_17 {nm : String} : DSi (mLn nm) 17 3 18 := ⟨Nat.le_of_ble_eq_true rfl, Or.inl ⟨3, (kL_law_0 (nm := nm)).at 9 rfl, rfl, rfl⟩⟩
theorem dL_law_18 {nm : String} : DLi (mLn nm) 18 3 19 := Or.inl ⟨3, (kL_law_0 (nm := nm)).at 10 rfl, rfl, rfl⟩
theorem dL_law_19 {nm : String} : DLa (mLn nm) 19 0 20 := Or.inl ⟨0, (kL_law_0 (nm := nm)).at 11 rfl, rfl, rfl⟩
theorem dL_law_20 {nm : String} : DI (mLn nm) 20 (.arraylength) 1 21 := ⟨(kL_law_0 (nm := nm)).at 12 rfl, rfl⟩
theorem dL_law_21 {nm : String} : DC (mLn nm) 21 6 23 := Or.inr (Or.inl ⟨6, (kL_law_0 (nm := nm)).at 13 rfl, by decide, rfl⟩)
theorem dL_law_23 {nm : String} : DI (mLn nm) 23 (.isub) 1 24 := ⟨(kL_law_0 (nm := nm)).at 14 rfl, rfl⟩
theorem dL_law_24 {nm : String} : DB (mLn nm) 24 (.if_icmp .gt (1453)) (1453) 27 1477 := ⟨(kL_law_0 (nm := nm)).at 15 rfl, rfl, rfl⟩
theorem dL_law_27 {nm : String} : DLa (mLn nm) 27 0 28 := Or.inl ⟨0, (kL_law_1 (nm := nm)).at 0 rfl, rfl, rfl⟩
theorem dL_law_28 {nm : String} : DLi (mLn nm) 28 3 29 := Or.inl ⟨3, (kL_law_1 (nm := nm)).at 1 rfl, rfl, rfl⟩
theorem dL_law_29 {nm : String} : DI (mLn nm) 29 (.iaload) 1 30 := ⟨(kL_law_1 (nm := nm)).at 2 rfl, rfl⟩
theorem dL_law_30 {nm : String} : DC (mLn nm) 30 63 32 := Or.inr (Or.inl ⟨63, (kL_law_1 (nm := nm)).at 3 rfl, by decide, rfl⟩)
theorem dL_law_32 {nm : String} : DI (mLn nm) 32 (.iand) 1 33 := ⟨(kL_law_1 (nm := nm)).at 4 rfl, rfl⟩
theorem dL_law_33 {nm : String} : decode (mLn nm).1 33 = .ok (.tableswitch (1438) (0) (38) #[171, 204, 247, 290, 323, 346, 359, 382, 405, 458, 501, 534, 567, 600, 633, 676, 709, 742, 775, 808, 841, 884, 927, 950, 973, 996, 1009, 1022, 1035, 1048, 1071, 1114, 1137, 1170, 1213, 1286, 1319, 1382, 1415], 171) := (kL_law_1 (nm := nm)).at 5 rfl
theorem dL_law_204 {nm : String} : DLa (mLn nm) 204 1 205 := Or.inl ⟨1, (kL_law_1 (nm := nm)).at 6 rfl, rfl, rfl⟩
theorem dL_law_205 {nm : String} : DLa (mLn nm) 205 0 206 := Or.inl ⟨0, (kL_law_1 (nm := nm)).at 7 rfl, rfl, rfl⟩
theorem dL_law_206 {nm : String} : DLi (mLn nm) 206 3 207 := Or.inl ⟨3, (kL_law_1 (nm := nm)).at 8 rfl, rfl, rfl⟩
theorem dL_law_207 {nm : String} : DC (mLn nm) 207 1 208 := Or.inl ⟨1, (kL_law_1 (nm := nm)).at 9 rfl, by decide, rfl⟩
theorem dL_law_208 {nm : String} : DI (mLn nm) 208 (.iadd) 1 209 := ⟨(kL_law_1 (nm := nm)).at 10 rfl, rfl⟩
theorem dL_law_209 {nm : String} : DI (mLn nm) 209 (.iaload) 1 210 := ⟨(kL_law_1 (nm := nm)).at 11 rfl, rfl⟩
theorem dL_law_210 {nm : String} : DLa (mLn nm) 210 0 211 := Or.inl ⟨0, (kL_law_1 (nm := nm)).at 12 rfl, rfl, rfl⟩
theorem dL_law_211 {nm : String} : DLi (mLn nm) 211 3 212 := Or.inl ⟨3, (kL_law_1 (nm := nm)).at 13 rfl, rfl, rfl⟩
theorem dL_law_212 {nm : String} : DC (mLn nm) 212 2 213 := Or.inl ⟨2, (kL_law_1 (nm := nm)).at 14 rfl, by decide, rfl⟩
theorem dL_law_213 {nm : String} : DI (mLn nm) 213 (.iadd) 1 214 := ⟨(kL_law_1 (nm := nm)).at 15 rfl, rfl⟩
theorem dL_law_214 {nm : String} : DI (mLn nm) 214 (.iaload) 1 215 := ⟨(kL_law_2 (nm := nm)).at 0 rfl, rfl⟩
theorem dL_law_215 {nm : String} : DI (mLn nm) 215 (.invokevirtual 13) 3 218 := ⟨(kL_law_2 (nm := nm)).at 1 rfl, rfl⟩
theorem dL_law_218 {nm : String} : DI (mLn nm) 218 (.pop) 1 219 := ⟨(kL_law_2 (nm := nm)).at 2 rfl, rfl⟩
theorem dL_law_219 {nm : String} : DLa (mLn nm) 219 2 220 := Or.inl ⟨2, (kL_law_2 (nm := nm)).at 3 rfl, rfl, rfl⟩
theorem dL_law_220 {nm : String} : DLa (mLn nm) 220 0 221 := Or.inl ⟨0, (kL_law_2 (nm := nm)).at 4 rfl, rfl, rfl⟩
theorem dL_law_221 {nm : String} : DLi (mLn nm) 221 3 222 := Or.inl ⟨3, (kL_law_2 (nm := nm)).at 5 rfl, rfl, rfl⟩
theorem dL_law_222 {nm : String} : DC (mLn nm) 222 1 223 := Or.inl ⟨1, (kL_law_2 (nm := nm)).at 6 rfl, by decide, rfl⟩
theorem dL_law_223 {nm : String} : DI (mLn nm) 223 (.iadd) 1 224 := ⟨(kL_law_2 (nm := nm)).at 7 rfl, rfl⟩
theorem dL_law_224 {nm : String} : DI (mLn nm) 224 (.iaload) 1 225 := ⟨(kL_law_2 (nm := nm)).at 8 rfl, rfl⟩
theorem dL_law_225 {nm : String} : DLa (mLn nm) 225 0 226 := Or.inl ⟨0, (kL_law_2 (nm := nm)).at 9 rfl, rfl, rfl⟩
theorem dL_law_226 {nm : String} : DLi (mLn nm) 226 3 227 := Or.inl ⟨3, (kL_law_2 (nm := nm)).at 10 rfl, rfl, rfl⟩
theorem dL_law_227 {nm : String} : DC (mLn nm) 227 2 228 := Or.inl ⟨2, (kL_law_2 (nm := nm)).at 11 rfl, by decide, rfl⟩
theorem dL_law_228 {nm : String} : DI (mLn nm) 228 (.iadd) 1 229 := ⟨(kL_law_2 (nm := nm)).at 12 rfl, rfl⟩
theorem dL_law_229 {nm : String} : DI (mLn nm) 229 (.iaload) 1 230 := ⟨(kL_law_2 (nm := nm)).at 13 rfl, rfl⟩
theorem dL_law_230 {nm : String} : DI (mLn nm) 230 (.invokevirtual 17) 3 233 := ⟨(kL_law_2 (nm := nm)).at 14 rfl, rfl⟩
theorem dL_law_233 {nm : String} : DI (mLn nm) 233 (.pop) 1 234 := ⟨(kL_law_2 (nm := nm)).at 15 rfl, rfl⟩
theorem dL_law_234 {nm : String} : DB (mLn nm) 234 (.goto (1237)) (1237) 237 1471 := ⟨(kL_law_3 (nm := nm)).at 0 rfl, rfl, rfl⟩
theorem dL_law_237 {nm : String} : DLa (mLn nm) 237 1 238 := Or.inl ⟨1, (kL_law_3 (nm := nm)).at 1 rfl, rfl, rfl⟩
theorem dL_law_238 {nm : String} : DLa (mLn nm) 238 0 239 := Or.inl ⟨0, (kL_law_3 (nm := nm)).at 2 rfl, rfl, rfl⟩
theorem dL_law_239 {nm : String} : DLi (mLn nm) 239 3 240 := Or.inl ⟨3, (kL_law_3 (nm := nm)).at 3 rfl, rfl, rfl⟩
theorem dL_law_240 {nm : String} : DC (mLn nm) 240 1 241 := Or.inl ⟨1, (kL_law_3 (nm := nm)).at 4 rfl, by decide, rfl⟩
theorem dL_law_241 {nm : String} : DI (mLn nm) 241 (.iadd) 1 242 := ⟨(kL_law_3 (nm := nm)).at 5 rfl, rfl⟩
theorem dL_law_242 {nm : String} : DI (mLn nm) 242 (.iaload) 1 243 := ⟨(kL_law_3 (nm := nm)).at 6 rfl, rfl⟩
theorem dL_law_243 {nm : String} : DLa (mLn nm) 243 0 244 := Or.inl ⟨0, (kL_law_3 (nm := nm)).at 7 rfl, rfl, rfl⟩
theorem dL_law_244 {nm : String} : DLi (mLn nm) 244 3 245 := Or.inl ⟨3, (kL_law_3 (nm := nm)).at 8 rfl, rfl, rfl⟩
theorem dL_law_245 {nm : String} : DC (mLn nm) 245 2 246 := Or.inl ⟨2, (kL_law_3 (nm := nm)).at 9 rfl, by decide, rfl⟩
theorem dL_law_246 {nm : String} : DI (mLn nm) 246 (.iadd) 1 247 := ⟨(kL_law_3 (nm := nm)).at 10 rfl, rfl⟩
theorem dL_law_247 {nm : String} : DI (mLn nm) 247 (.iaload) 1 248 := ⟨(kL_law_3 (nm := nm)).at 11 rfl, rfl⟩
theorem dL_law_248 {nm : String} : DLa (mLn nm) 248 0 249 := Or.inl ⟨0, (kL_law_3 (nm := nm)).at 12 rfl, rfl, rfl⟩
theorem dL_law_249 {nm : String} : DLi (mLn nm) 249 3 250 := Or.inl ⟨3, (kL_law_3 (nm := nm)).at 13 rfl, rfl, rfl⟩
theorem dL_law_250 {nm : String} : DC (mLn nm) 250 3 251 := Or.inl ⟨3, (kL_law_3 (nm := nm)).at 14 rfl, by decide, rfl⟩
theorem dL_law_251 {nm : String} : DI (mLn nm) 251 (.iadd) 1 252 := ⟨(kL_law_3 (nm := nm)).at 15 rfl, rfl⟩
theorem dL_law_252 {nm : String} : DI (mLn nm) 252 (.iaload) 1 253 := ⟨(kL_law_4 (nm := nm)).at 0 rfl, rfl⟩
theorem dL_law_253 {nm : String} : DI (mLn nm) 253 (.invokevirtual 18) 3 256 := ⟨(kL_law_4 (nm := nm)).at 1 rfl, rfl⟩
theorem dL_law_256 {nm : String} : DI (mLn nm) 256 (.pop) 1 257 := ⟨(kL_law_4 (nm := nm)).at 2 rfl, rfl⟩
theorem dL_law_257 {nm : String} : DLa (mLn nm) 257 2 258 := Or.inl ⟨2, (kL_law_4 (nm := nm)).at 3 rfl, rfl, rfl⟩
theorem dL_law_258 {nm : String} : DLa (mLn nm) 258 0 259 := Or.inl ⟨0, (kL_law_4 (nm := nm)).at 4 rfl, rfl, rfl⟩
theorem dL_law_259 {nm : String} : DLi (mLn nm) 259 3 260 := Or.inl ⟨3, (kL_law_4 (nm := nm)).at 5 rfl, rfl, rfl⟩
theorem dL_law_260 {nm : String} : DC (mLn nm) 260 1 261 := Or.inl ⟨1, (kL_law_4 (nm := nm)).at 6 rfl, by decide, rfl⟩
theorem dL_law_261 {nm : String} : DI (mLn nm) 261 (.iadd) 1 262 := ⟨(kL_law_4 (nm := nm)).at 7 rfl, rfl⟩
theorem dL_law_262 {nm : String} : DI (mLn nm) 262 (.iaload) 1 263 := ⟨(kL_law_4 (nm := nm)).at 8 rfl, rfl⟩
theorem dL_law_263 {nm : String} : DLa (mLn nm) 263 0 264 := Or.inl ⟨0, (kL_law_4 (nm := nm)).at 9 rfl, rfl, rfl⟩
theorem dL_law_264 {nm : String} : DLi (mLn nm) 264 3 265 := Or.inl ⟨3, (kL_law_4 (nm := nm)).at 10 rfl, rfl, rfl⟩
theorem dL_law_265 {nm : String} : DC (mLn nm) 265 2 266 := Or.inl ⟨2, (kL_law_4 (nm := nm)).at 11 rfl, by decide, rfl⟩
theorem dL_law_266 {nm : String} : DI (mLn nm) 266 (.iadd) 1 267 := ⟨(kL_law_4 (nm := nm)).at 12 rfl, rfl⟩
theorem dL_law_267 {nm : String} : DI (mLn nm) 267 (.iaload) 1 268 := ⟨(kL_law_4 (nm := nm)).at 13 rfl, rfl⟩
theorem dL_law_268 {nm : String} : DLa (mLn nm) 268 0 269 := Or.inl ⟨0, (kL_law_4 (nm := nm)).at 14 rfl, rfl, rfl⟩
theorem dL_law_269 {nm : String} : DLi (mLn nm) 269 3 270 := Or.inl ⟨3, (kL_law_4 (nm := nm)).at 15 rfl, rfl, rfl⟩
theorem dL_law_270 {nm : String} : DC (mLn nm) 270 3 271 := Or.inl ⟨3, (kL_law_5 (nm := nm)).at 0 rfl, by decide, rfl⟩
theorem dL_law_271 {nm : String} : DI (mLn nm) 271 (.iadd) 1 272 := ⟨(kL_law_5 (nm := nm)).at 1 rfl, rfl⟩
theorem dL_law_272 {nm : String} : DI (mLn nm) 272 (.iaload) 1 273 := ⟨(kL_law_5 (nm := nm)).at 2 rfl, rfl⟩
theorem dL_law_273 {nm : String} : DI (mLn nm) 273 (.invokevirtual 22) 3 276 := ⟨(kL_law_5 (nm := nm)).at 3 rfl, rfl⟩
theorem dL_law_276 {nm : String} : DI (mLn nm) 276 (.pop) 1 277 := ⟨(kL_law_5 (nm := nm)).at 4 rfl, rfl⟩
theorem dL_law_277 {nm : String} : DB (mLn nm) 277 (.goto (1194)) (1194) 280 1471 := ⟨(kL_law_5 (nm := nm)).at 5 rfl, rfl, rfl⟩
theorem dL_law_280 {nm : String} : DLa (mLn nm) 280 1 281 := Or.inl ⟨1, (kL_law_5 (nm := nm)).at 6 rfl, rfl, rfl⟩
theorem dL_law_281 {nm : String} : DLa (mLn nm) 281 0 282 := Or.inl ⟨0, (kL_law_5 (nm := nm)).at 7 rfl, rfl, rfl⟩
theorem dL_law_282 {nm : String} : DLi (mLn nm) 282 3 283 := Or.inl ⟨3, (kL_law_5 (nm := nm)).at 8 rfl, rfl, rfl⟩
theorem dL_law_283 {nm : String} : DC (mLn nm) 283 1 284 := Or.inl ⟨1, (kL_law_5 (nm := nm)).at 9 rfl, by decide, rfl⟩
theorem dL_law_284 {nm : String} : DI (mLn nm) 284 (.iadd) 1 285 := ⟨(kL_law_5 (nm := nm)).at 10 rfl, rfl⟩
theorem dL_law_285 {nm : String} : DI (mLn nm) 285 (.iaload) 1 286 := ⟨(kL_law_5 (nm := nm)).at 11 rfl, rfl⟩
theorem dL_law_286 {nm : String} : DLa (mLn nm) 286 0 287 := Or.inl ⟨0, (kL_law_5 (nm := nm)).at 12 rfl, rfl, rfl⟩
theorem dL_law_287 {nm : String} : DLi (mLn nm) 287 3 288 := Or.inl ⟨3, (kL_law_5 (nm := nm)).at 13 rfl, rfl, rfl⟩
theorem dL_law_288 {nm : String} : DC (mLn nm) 288 2 289 := Or.inl ⟨2, (kL_law_5 (nm := nm)).at 14 rfl, by decide, rfl⟩
theorem dL_law_289 {nm : String} : DI (mLn nm) 289 (.iadd) 1 290 := ⟨(kL_law_5 (nm := nm)).at 15 rfl, rfl⟩
theorem dL_law_290 {nm : String} : DI (mLn nm) 290 (.iaload) 1 291 := ⟨(kL_law_6 (nm := nm)).at 0 rfl, rfl⟩
theorem dL_law_291 {nm : String} : DLa (mLn nm) 291 0 292 := Or.inl ⟨0, (kL_law_6 (nm := nm)).at 1 rfl, rfl, rfl⟩
theorem dL_law_292 {nm : String} : DLi (mLn nm) 292 3 293 := Or.inl ⟨3, (kL_law_6 (nm := nm)).at 2 rfl, rfl, rfl⟩
theorem dL_law_293 {nm : String} : DC (mLn nm) 293 3 294 := Or.inl ⟨3, (kL_law_6 (nm := nm)).at 3 rfl, by decide, rfl⟩
theorem dL_law_294 {nm : String} : DI (mLn nm) 294 (.iadd) 1 295 := ⟨(kL_law_6 (nm := nm)).at 4 rfl, rfl⟩
theorem dL_law_295 {nm : String} : DI (mLn nm) 295 (.iaload) 1 296 := ⟨(kL_law_6 (nm := nm)).at 5 rfl, rfl⟩
theorem dL_law_296 {nm : String} : DI (mLn nm) 296 (.invokevirtual 23) 3 299 := ⟨(kL_law_6 (nm := nm)).at 6 rfl, rfl⟩
theorem dL_law_299 {nm : String} : DI (mLn nm) 299 (.pop) 1 300 := ⟨(kL_law_6 (nm := nm)).at 7 rfl, rfl⟩
theorem dL_law_300 {nm : String} : DLa (mLn nm) 300 2 301 := Or.inl ⟨2, (kL_law_6 (nm := nm)).at 8 rfl, rfl, rfl⟩
theorem dL_law_301 {nm : String} : DLa (mLn nm) 301 0 302 := Or.inl ⟨0, (kL_law_6 (nm := nm)).at 9 rfl, rfl, rfl⟩
theorem dL_law_302 {nm : String} : DLi (mLn nm) 302 3 303 := Or.inl ⟨3, (kL_law_6 (nm := nm)).at 10 rfl, rfl, rfl⟩
theorem dL_law_303 {nm : String} : DC (mLn nm) 303 1 304 := Or.inl ⟨1, (kL_law_6 (nm := nm)).at 11 rfl, by decide, rfl⟩
theorem dL_law_304 {nm : String} : DI (mLn nm) 304 (.iadd) 1 305 := ⟨(kL_law_6 (nm := nm)).at 12 rfl, rfl⟩
theorem dL_law_305 {nm : String} : DI (mLn nm) 305 (.iaload) 1 306 := ⟨(kL_law_6 (nm := nm)).at 13 rfl, rfl⟩
theorem dL_law_306 {nm : String} : DLa (mLn nm) 306 0 307 := Or.inl ⟨0, (kL_law_6 (nm := nm)).at 14 rfl, rfl, rfl⟩
theorem dL_law_307 {nm : String} : DLi (mLn nm) 307 3 308 := Or.inl ⟨3, (kL_law_6 (nm := nm)).at 15 rfl, rfl, rfl⟩
theorem dL_law_308 {nm : String} : DC (mLn nm) 308 2 309 := Or.inl ⟨2, (kL_law_7 (nm := nm)).at 0 rfl, by decide, rfl⟩
theorem dL_law_309 {nm : String} : DI (mLn nm) 309 (.iadd) 1 310 := ⟨(kL_law_7 (nm := nm)).at 1 rfl, rfl⟩
theorem dL_law_310 {nm : String} : DI (mLn nm) 310 (.iaload) 1 311 := ⟨(kL_law_7 (nm := nm)).at 2 rfl, rfl⟩
theorem dL_law_311 {nm : String} : DLa (mLn nm) 311 0 312 := Or.inl ⟨0, (kL_law_7 (nm := nm)).at 3 rfl, rfl, rfl⟩
theorem dL_law_312 {nm : String} : DLi (mLn nm) 312 3 313 := Or.inl ⟨3, (kL_law_7 (nm := nm)).at 4 rfl, rfl, rfl⟩
theorem dL_law_313 {nm : String} : DC (mLn nm) 313 3 314 := Or.inl ⟨3, (kL_law_7 (nm := nm)).at 5 rfl, by decide, rfl⟩
theorem dL_law_314 {nm : String} : DI (mLn nm) 314 (.iadd) 1 315 := ⟨(kL_law_7 (nm := nm)).at 6 rfl, rfl⟩
theorem dL_law_315 {nm : String} : DI (mLn nm) 315 (.iaload) 1 316 := ⟨(kL_law_7 (nm := nm)).at 7 rfl, rfl⟩
theorem dL_law_316 {nm : String} : DI (mLn nm) 316 (.invokevirtual 26) 3 319 := ⟨(kL_law_7 (nm := nm)).at 8 rfl, rfl⟩
theorem dL_law_319 {nm : String} : DI (mLn nm) 319 (.pop) 1 320 := ⟨(kL_law_7 (nm := nm)).at 9 rfl, rfl⟩
theorem dL_law_320 {nm : String} : DB (mLn nm) 320 (.goto (1151)) (1151) 323 1471 := ⟨(kL_law_7 (nm := nm)).at 10 rfl, rfl, rfl⟩
theorem dL_law_323 {nm : String} : DLa (mLn nm) 323 1 324 := Or.inl ⟨1, (kL_law_7 (nm := nm)).at 11 rfl, rfl, rfl⟩
theorem dL_law_324 {nm : String} : DLa (mLn nm) 324 0 325 := Or.inl ⟨0, (kL_law_7 (nm := nm)).at 12 rfl, rfl, rfl⟩
theorem dL_law_325 {nm : String} : DLi (mLn nm) 325 3 326 := Or.inl ⟨3, (kL_law_7 (nm := nm)).at 13 rfl, rfl, rfl⟩
theorem dL_law_326 {nm : String} : DC (mLn nm) 326 1 327 := Or.inl ⟨1, (kL_law_7 (nm := nm)).at 14 rfl, by decide, rfl⟩
theorem dL_law_327 {nm : String} : DI (mLn nm) 327 (.iadd) 1 328 := ⟨(kL_law_7 (nm := nm)).at 15 rfl, rfl⟩
theorem dL_law_328 {nm : String} : DI (mLn nm) 328 (.iaload) 1 329 := ⟨(kL_law_8 (nm := nm)).at 0 rfl, rfl⟩
theorem dL_law_329 {nm : String} : DLa (mLn nm) 329 0 330 := Or.inl ⟨0, (kL_law_8 (nm := nm)).at 1 rfl, rfl, rfl⟩
theorem dL_law_330 {nm : String} : DLi (mLn nm) 330 3 331 := Or.inl ⟨3, (kL_law_8 (nm := nm)).at 2 rfl, rfl, rfl⟩
theorem dL_law_331 {nm : String} : DC (mLn nm) 331 2 332 := Or.inl ⟨2, (kL_law_8 (nm := nm)).at 3 rfl, by decide, rfl⟩
theorem dL_law_332 {nm : String} : DI (mLn nm) 332 (.iadd) 1 333 := ⟨(kL_law_8 (nm := nm)).at 4 rfl, rfl⟩
theorem dL_law_333 {nm : String} : DI (mLn nm) 333 (.iaload) 1 334 := ⟨(kL_law_8 (nm := nm)).at 5 rfl, rfl⟩
theorem dL_law_334 {nm : String} : DI (mLn nm) 334 (.invokevirtual 27) 3 337 := ⟨(kL_law_8 (nm := nm)).at 6 rfl, rfl⟩
theorem dL_law_337 {nm : String} : DI (mLn nm) 337 (.pop) 1 338 := ⟨(kL_law_8 (nm := nm)).at 7 rfl, rfl⟩
theorem dL_law_338 {nm : String} : DLa (mLn nm) 338 2 339 := Or.inl ⟨2, (kL_law_8 (nm := nm)).at 8 rfl, rfl, rfl⟩
theorem dL_law_339 {nm : String} : DLa (mLn nm) 339 0 340 := Or.inl ⟨0, (kL_law_8 (nm := nm)).at 9 rfl, rfl, rfl⟩
theorem dL_law_340 {nm : String} : DLi (mLn nm) 340 3 341 := Or.inl ⟨3, (kL_law_8 (nm := nm)).at 10 rfl, rfl, rfl⟩
theorem dL_law_341 {nm : String} : DC (mLn nm) 341 1 342 := Or.inl ⟨1, (kL_law_8 (nm := nm)).at 11 rfl, by decide, rfl⟩
theorem dL_law_342 {nm : String} : DI (mLn nm) 342 (.iadd) 1 343 := ⟨(kL_law_8 (nm := nm)).at 12 rfl, rfl⟩
theorem dL_law_343 {nm : String} : DI (mLn nm) 343 (.iaload) 1 344 := ⟨(kL_law_8 (nm := nm)).at 13 rfl, rfl⟩
theorem dL_law_344 {nm : String} : DLa (mLn nm) 344 0 345 := Or.inl ⟨0, (kL_law_8 (nm := nm)).at 14 rfl, rfl, rfl⟩
theorem dL_law_345 {nm : String} : DLi (mLn nm) 345 3 346 := Or.inl ⟨3, (kL_law_8 (nm := nm)).at 15 rfl, rfl, rfl⟩
theorem dL_law_346 {nm : String} : DC (mLn nm) 346 2 347 := Or.inl ⟨2, (kL_law_9 (nm := nm)).at 0 rfl, by decide, rfl⟩
theorem dL_law_347 {nm : String} : DI (mLn nm) 347 (.iadd) 1 348 := ⟨(kL_law_9 (nm := nm)).at 1 rfl, rfl⟩
theorem dL_law_348 {nm : String} : DI (mLn nm) 348 (.iaload) 1 349 := ⟨(kL_law_9 (nm := nm)).at 2 rfl, rfl⟩
theorem dL_law_349 {nm : String} : DI (mLn nm) 349 (.invokevirtual 30) 3 352 := ⟨(kL_law_9 (nm := nm)).at 3 rfl, rfl⟩
theorem dL_law_352 {nm : String} : DI (mLn nm) 352 (.pop) 1 353 := ⟨(kL_law_9 (nm := nm)).at 4 rfl, rfl⟩
theorem dL_law_353 {nm : String} : DB (mLn nm) 353 (.goto (1118)) (1118) 356 1471 := ⟨(kL_law_9 (nm := nm)).at 5 rfl, rfl, rfl⟩
theorem dL_law_356 {nm : String} : DLa (mLn nm) 356 1 357 := Or.inl ⟨1, (kL_law_9 (nm := nm)).at 6 rfl, rfl, rfl⟩
theorem dL_law_357 {nm : String} : DLa (mLn nm) 357 0 358 := Or.inl ⟨0, (kL_law_9 (nm := nm)).at 7 rfl, rfl, rfl⟩
theorem dL_law_358 {nm : String} : DLi (mLn nm) 358 3 359 := Or.inl ⟨3, (kL_law_9 (nm := nm)).at 8 rfl, rfl, rfl⟩
theorem dL_law_359 {nm : String} : DC (mLn nm) 359 1 360 := Or.inl ⟨1, (kL_law_9 (nm := nm)).at 9 rfl, by decide, rfl⟩
theorem dL_law_360 {nm : String} : DI (mLn nm) 360 (.iadd) 1 361 := ⟨(kL_law_9 (nm := nm)).at 10 rfl, rfl⟩
theorem dL_law_361 {nm : String} : DI (mLn nm) 361 (.iaload) 1 362 := ⟨(kL_law_9 (nm := nm)).at 11 rfl, rfl⟩
theorem dL_law_362 {nm : String} : DI (mLn nm) 362 (.invokevirtual 31) 3 365 := ⟨(kL_law_9 (nm := nm)).at 12 rfl, rfl⟩
theorem dL_law_365 {nm : String} : DI (mLn nm) 365 (.pop) 1 366 := ⟨(kL_law_9 (nm := nm)).at 13 rfl, rfl⟩
theorem dL_law_366 {nm : String} : DLa (mLn nm) 366 2 367 := Or.inl ⟨2, (kL_law_9 (nm := nm)).at 14 rfl, rfl, rfl⟩
theorem dL_law_367 {nm : String} : DLa (mLn nm) 367 0 368 := Or.inl ⟨0, (kL_law_9 (nm := nm)).at 15 rfl, rfl, rfl⟩
theorem dL_law_368 {nm : String} : DLi (mLn nm) 368 3 369 := Or.inl ⟨3, (kL_law_10 (nm := nm)).at 0 rfl, rfl, rfl⟩
theorem dL_law_369 {nm : String} : DC (mLn nm) 369 1 370 := Or.inl ⟨1, (kL_law_10 (nm := nm)).at 1 rfl, by decide, rfl⟩
theorem dL_law_370 {nm : String} : DI (mLn nm) 370 (.iadd) 1 371 := ⟨(kL_law_10 (nm := nm)).at 2 rfl, rfl⟩
theorem dL_law_371 {nm : String} : DI (mLn nm) 371 (.iaload) 1 372 := ⟨(kL_law_10 (nm := nm)).at 3 rfl, rfl⟩
theorem dL_law_372 {nm : String} : DI (mLn nm) 372 (.invokevirtual 35) 3 375 := ⟨(kL_law_10 (nm := nm)).at 4 rfl, rfl⟩
theorem dL_law_375 {nm : String} : DI (mLn nm) 375 (.pop) 1 376 := ⟨(kL_law_10 (nm := nm)).at 5 rfl, rfl⟩
theorem dL_law_376 {nm : String} : DB (mLn nm) 376 (.goto (1095)) (1095) 379 1471 := ⟨(kL_law_10 (nm := nm)).at 6 rfl, rfl, rfl⟩
theorem dL_law_379 {nm : String} : DLa (mLn nm) 379 1 380 := Or.inl ⟨1, (kL_law_10 (nm := nm)).at 7 rfl, rfl, rfl⟩
theorem dL_law_380 {nm : String} : DI (mLn nm) 380 (.invokevirtual 36) 3 383 := ⟨(kL_law_10 (nm := nm)).at 8 rfl, rfl⟩
theorem dL_law_383 {nm : String} : DI (mLn nm) 383 (.pop) 1 384 := ⟨(kL_law_10 (nm := nm)).at 9 rfl, rfl⟩
theorem dL_law_384 {nm : String} : DLa (mLn nm) 384 2 385 := Or.inl ⟨2, (kL_law_10 (nm := nm)).at 10 rfl, rfl, rfl⟩
theorem dL_law_385 {nm : String} : DI (mLn nm) 385 (.invokevirtual 40) 3 388 := ⟨(kL_law_10 (nm := nm)).at 11 rfl, rfl⟩
theorem dL_law_388 {nm : String} : DI (mLn nm) 388 (.pop) 1 389 := ⟨(kL_law_10 (nm := nm)).at 12 rfl, rfl⟩
theorem dL_law_389 {nm : String} : DB (mLn nm) 389 (.goto (1082)) (1082) 392 1471 := ⟨(kL_law_10 (nm := nm)).at 13 rfl, rfl, rfl⟩
theorem dL_law_392 {nm : String} : DLa (mLn nm) 392 1 393 := Or.inl ⟨1, (kL_law_10 (nm := nm)).at 14 rfl, rfl, rfl⟩
theorem dL_law_393 {nm : String} : DLa (mLn nm) 393 0 394 := Or.inl ⟨0, (kL_law_10 (nm := nm)).at 15 rfl, rfl, rfl⟩
theorem dL_law_394 {nm : String} : DLi (mLn nm) 394 3 395 := Or.inl ⟨3, (kL_law_11 (nm := nm)).at 0 rfl, rfl, rfl⟩
theorem dL_law_395 {nm : String} : DC (mLn nm) 395 1 396 := Or.inl ⟨1, (kL_law_11 (nm := nm)).at 1 rfl, by decide, rfl⟩
theorem dL_law_396 {nm : String} : DI (mLn nm) 396 (.iadd) 1 397 := ⟨(kL_law_11 (nm := nm)).at 2 rfl, rfl⟩
theorem dL_law_397 {nm : String} : DI (mLn nm) 397 (.iaload) 1 398 := ⟨(kL_law_11 (nm := nm)).at 3 rfl, rfl⟩
theorem dL_law_398 {nm : String} : DI (mLn nm) 398 (.invokevirtual 41) 3 401 := ⟨(kL_law_11 (nm := nm)).at 4 rfl, rfl⟩
theorem dL_law_401 {nm : String} : DI (mLn nm) 401 (.pop) 1 402 := ⟨(kL_law_11 (nm := nm)).at 5 rfl, rfl⟩
theorem dL_law_402 {nm : String} : DLa (mLn nm) 402 2 403 := Or.inl ⟨2, (kL_law_11 (nm := nm)).at 6 rfl, rfl, rfl⟩
theorem dL_law_403 {nm : String} : DLa (mLn nm) 403 0 404 := Or.inl ⟨0, (kL_law_11 (nm := nm)).at 7 rfl, rfl, rfl⟩
theorem dL_law_404 {nm : String} : DLi (mLn nm) 404 3 405 := Or.inl ⟨3, (kL_law_11 (nm := nm)).at 8 rfl, rfl, rfl⟩
theorem dL_law_405 {nm : String} : DC (mLn nm) 405 1 406 := Or.inl ⟨1, (kL_law_11 (nm := nm)).at 9 rfl, by decide, rfl⟩
theorem dL_law_406 {nm : String} : DI (mLn nm) 406 (.iadd) 1 407 := ⟨(kL_law_11 (nm := nm)).at 10 rfl, rfl⟩
theorem dL_law_407 {nm : String} : DI (mLn nm) 407 (.iaload) 1 408 := ⟨(kL_law_11 (nm := nm)).at 11 rfl, rfl⟩
theorem dL_law_408 {nm : String} : DI (mLn nm) 408 (.invokevirtual 44) 3 411 := ⟨(kL_law_11 (nm := nm)).at 12 rfl, rfl⟩
theorem dL_law_411 {nm : String} : DI (mLn nm) 411 (.pop) 1 412 := ⟨(kL_law_11 (nm := nm)).at 13 rfl, rfl⟩
theorem dL_law_412 {nm : String} : DB (mLn nm) 412 (.goto (1059)) (1059) 415 1471 := ⟨(kL_law_11 (nm := nm)).at 14 rfl, rfl, rfl⟩
theorem dL_law_415 {nm : String} : DLa (mLn nm) 415 1 416 := Or.inl ⟨1, (kL_law_11 (nm := nm)).at 15 rfl, rfl, rfl⟩
theorem dL_law_416 {nm : String} : DLa (mLn nm) 416 0 417 := Or.inl ⟨0, (kL_law_12 (nm := nm)).at 0 rfl, rfl, rfl⟩
theorem dL_law_417 {nm : String} : DLi (mLn nm) 417 3 418 := Or.inl ⟨3, (kL_law_12 (nm := nm)).at 1 rfl, rfl, rfl⟩
theorem dL_law_418 {nm : String} : DC (mLn nm) 418 1 419 := Or.inl ⟨1, (kL_law_12 (nm := nm)).at 2 rfl, by decide, rfl⟩
theorem dL_law_419 {nm : String} : DI (mLn nm) 419 (.iadd) 1 420 := ⟨(kL_law_12 (nm := nm)).at 3 rfl, rfl⟩
theorem dL_law_420 {nm : String} : DI (mLn nm) 420 (.iaload) 1 421 := ⟨(kL_law_12 (nm := nm)).at 4 rfl, rfl⟩
theorem dL_law_421 {nm : String} : DI (mLn nm) 421 (.invokevirtual 45) 3 424 := ⟨(kL_law_12 (nm := nm)).at 5 rfl, rfl⟩
theorem dL_law_424 {nm : String} : DI (mLn nm) 424 (.pop2) 1 425 := ⟨(kL_law_12 (nm := nm)).at 6 rfl, rfl⟩
theorem dL_law_425 {nm : String} : DLa (mLn nm) 425 2 426 := Or.inl ⟨2, (kL_law_12 (nm := nm)).at 7 rfl, rfl, rfl⟩
theorem dL_law_426 {nm : String} : DLa (mLn nm) 426 0 427 := Or.inl ⟨0, (kL_law_12 (nm := nm)).at 8 rfl, rfl, rfl⟩
theorem dL_law_427 {nm : String} : DLi (mLn nm) 427 3 428 := Or.inl ⟨3, (kL_law_12 (nm := nm)).at 9 rfl, rfl, rfl⟩
theorem dL_law_428 {nm : String} : DC (mLn nm) 428 1 429 := Or.inl ⟨1, (kL_law_12 (nm := nm)).at 10 rfl, by decide, rfl⟩
theorem dL_law_429 {nm : String} : DI (mLn nm) 429 (.iadd) 1 430 := ⟨(kL_law_12 (nm := nm)).at 11 rfl, rfl⟩
theorem dL_law_430 {nm : String} : DI (mLn nm) 430 (.iaload) 1 431 := ⟨(kL_law_12 (nm := nm)).at 12 rfl, rfl⟩
theorem dL_law_431 {nm : String} : DI (mLn nm) 431 (.invokevirtual 49) 3 434 := ⟨(kL_law_12 (nm := nm)).at 13 rfl, rfl⟩
theorem dL_law_434 {nm : String} : DI (mLn nm) 434 (.pop2) 1 435 := ⟨(kL_law_12 (nm := nm)).at 14 rfl, rfl⟩
theorem dL_law_435 {nm : String} : DB (mLn nm) 435 (.goto (1036)) (1036) 438 1471 := ⟨(kL_law_12 (nm := nm)).at 15 rfl, rfl, rfl⟩
theorem dL_law_438 {nm : String} : DLa (mLn nm) 438 1 439 := Or.inl ⟨1, (kL_law_13 (nm := nm)).at 0 rfl, rfl, rfl⟩
theorem dL_law_439 {nm : String} : DLa (mLn nm) 439 0 440 := Or.inl ⟨0, (kL_law_13 (nm := nm)).at 1 rfl, rfl, rfl⟩
theorem dL_law_440 {nm : String} : DLi (mLn nm) 440 3 441 := Or.inl ⟨3, (kL_law_13 (nm := nm)).at 2 rfl, rfl, rfl⟩
theorem dL_law_441 {nm : String} : DC (mLn nm) 441 1 442 := Or.inl ⟨1, (kL_law_13 (nm := nm)).at 3 rfl, by decide, rfl⟩
theorem dL_law_442 {nm : String} : DI (mLn nm) 442 (.iadd) 1 443 := ⟨(kL_law_13 (nm := nm)).at 4 rfl, rfl⟩
theorem dL_law_443 {nm : String} : DI (mLn nm) 443 (.iaload) 1 444 := ⟨(kL_law_13 (nm := nm)).at 5 rfl, rfl⟩
theorem dL_law_444 {nm : String} : DLa (mLn nm) 444 0 445 := Or.inl ⟨0, (kL_law_13 (nm := nm)).at 6 rfl, rfl, rfl⟩
theorem dL_law_445 {nm : String} : DLi (mLn nm) 445 3 446 := Or.inl ⟨3, (kL_law_13 (nm := nm)).at 7 rfl, rfl, rfl⟩
theorem dL_law_446 {nm : String} : DC (mLn nm) 446 2 447 := Or.inl ⟨2, (kL_law_13 (nm := nm)).at 8 rfl, by decide, rfl⟩
theorem dL_law_447 {nm : String} : DI (mLn nm) 447 (.iadd) 1 448 := ⟨(kL_law_13 (nm := nm)).at 9 rfl, rfl⟩
theorem dL_law_448 {nm : String} : DI (mLn nm) 448 (.iaload) 1 449 := ⟨(kL_law_13 (nm := nm)).at 10 rfl, rfl⟩
theorem dL_law_449 {nm : String} : DLa (mLn nm) 449 0 450 := Or.inl ⟨0, (kL_law_13 (nm := nm)).at 11 rfl, rfl, rfl⟩
theorem dL_law_450 {nm : String} : DLi (mLn nm) 450 3 451 := Or.inl ⟨3, (kL_law_13 (nm := nm)).at 12 rfl, rfl, rfl⟩
theorem dL_law_451 {nm : String} : DC (mLn nm) 451 3 452 := Or.inl ⟨3, (kL_law_13 (nm := nm)).at 13 rfl, by decide, rfl⟩
theorem dL_law_452 {nm : String} : DI (mLn nm) 452 (.iadd) 1 453 := ⟨(kL_law_13 (nm := nm)).at 14 rfl, rfl⟩
theorem dL_law_453 {nm : String} : DI (mLn nm) 453 (.iaload) 1 454 := ⟨(kL_law_13 (nm := nm)).at 15 rfl, rfl⟩
theorem dL_law_454 {nm : String} : DLa (mLn nm) 454 0 455 := Or.inl ⟨0, (kL_law_14 (nm := nm)).at 0 rfl, rfl, rfl⟩
theorem dL_law_455 {nm : String} : DLi (mLn nm) 455 3 456 := Or.inl ⟨3, (kL_law_14 (nm := nm)).at 1 rfl, rfl, rfl⟩
theorem dL_law_456 {nm : String} : DC (mLn nm) 456 4 457 := Or.inl ⟨4, (kL_law_14 (nm := nm)).at 2 rfl, by decide, rfl⟩
theorem dL_law_457 {nm : String} : DI (mLn nm) 457 (.iadd) 1 458 := ⟨(kL_law_14 (nm := nm)).at 3 rfl, rfl⟩
theorem dL_law_458 {nm : String} : DI (mLn nm) 458 (.iaload) 1 459 := ⟨(kL_law_14 (nm := nm)).at 4 rfl, rfl⟩
theorem dL_law_459 {nm : String} : DI (mLn nm) 459 (.invokevirtual 50) 3 462 := ⟨(kL_law_14 (nm := nm)).at 5 rfl, rfl⟩
theorem dL_law_462 {nm : String} : DI (mLn nm) 462 (.pop) 1 463 := ⟨(kL_law_14 (nm := nm)).at 6 rfl, rfl⟩
theorem dL_law_463 {nm : String} : DLa (mLn nm) 463 2 464 := Or.inl ⟨2, (kL_law_14 (nm := nm)).at 7 rfl, rfl, rfl⟩
theorem dL_law_464 {nm : String} : DLa (mLn nm) 464 0 465 := Or.inl ⟨0, (kL_law_14 (nm := nm)).at 8 rfl, rfl, rfl⟩
theorem dL_law_465 {nm : String} : DLi (mLn nm) 465 3 466 := Or.inl ⟨3, (kL_law_14 (nm := nm)).at 9 rfl, rfl, rfl⟩
theorem dL_law_466 {nm : String} : DC (mLn nm) 466 1 467 := Or.inl ⟨1, (kL_law_14 (nm := nm)).at 10 rfl, by decide, rfl⟩
theorem dL_law_467 {nm : String} : DI (mLn nm) 467 (.iadd) 1 468 := ⟨(kL_law_14 (nm := nm)).at 11 rfl, rfl⟩
theorem dL_law_468 {nm : String} : DI (mLn nm) 468 (.iaload) 1 469 := ⟨(kL_law_14 (nm := nm)).at 12 rfl, rfl⟩
theorem dL_law_469 {nm : String} : DLa (mLn nm) 469 0 470 := Or.inl ⟨0, (kL_law_14 (nm := nm)).at 13 rfl, rfl, rfl⟩
theorem dL_law_470 {nm : String} : DLi (mLn nm) 470 3 471 := Or.inl ⟨3, (kL_law_14 (nm := nm)).at 14 rfl, rfl, rfl⟩
theorem dL_law_471 {nm : String} : DC (mLn nm) 471 2 472 := Or.inl ⟨2, (kL_law_14 (nm := nm)).at 15 rfl, by decide, rfl⟩
theorem dL_law_472 {nm : String} : DI (mLn nm) 472 (.iadd) 1 473 := ⟨(kL_law_15 (nm := nm)).at 0 rfl, rfl⟩
theorem dL_law_473 {nm : String} : DI (mLn nm) 473 (.iaload) 1 474 := ⟨(kL_law_15 (nm := nm)).at 1 rfl, rfl⟩
theorem dL_law_474 {nm : String} : DLa (mLn nm) 474 0 475 := Or.inl ⟨0, (kL_law_15 (nm := nm)).at 2 rfl, rfl, rfl⟩
theorem dL_law_475 {nm : String} : DLi (mLn nm) 475 3 476 := Or.inl ⟨3, (kL_law_15 (nm := nm)).at 3 rfl, rfl, rfl⟩
theorem dL_law_476 {nm : String} : DC (mLn nm) 476 3 477 := Or.inl ⟨3, (kL_law_15 (nm := nm)).at 4 rfl, by decide, rfl⟩
theorem dL_law_477 {nm : String} : DI (mLn nm) 477 (.iadd) 1 478 := ⟨(kL_law_15 (nm := nm)).at 5 rfl, rfl⟩
theorem dL_law_478 {nm : String} : DI (mLn nm) 478 (.iaload) 1 479 := ⟨(kL_law_15 (nm := nm)).at 6 rfl, rfl⟩
theorem dL_law_479 {nm : String} : DLa (mLn nm) 479 0 480 := Or.inl ⟨0, (kL_law_15 (nm := nm)).at 7 rfl, rfl, rfl⟩
theorem dL_law_480 {nm : String} : DLi (mLn nm) 480 3 481 := Or.inl ⟨3, (kL_law_15 (nm := nm)).at 8 rfl, rfl, rfl⟩
theorem dL_law_481 {nm : String} : DC (mLn nm) 481 4 482 := Or.inl ⟨4, (kL_law_15 (nm := nm)).at 9 rfl, by decide, rfl⟩
theorem dL_law_482 {nm : String} : DI (mLn nm) 482 (.iadd) 1 483 := ⟨(kL_law_15 (nm := nm)).at 10 rfl, rfl⟩
theorem dL_law_483 {nm : String} : DI (mLn nm) 483 (.iaload) 1 484 := ⟨(kL_law_15 (nm := nm)).at 11 rfl, rfl⟩
theorem dL_law_484 {nm : String} : DI (mLn nm) 484 (.invokevirtual 54) 3 487 := ⟨(kL_law_15 (nm := nm)).at 12 rfl, rfl⟩
theorem dL_law_487 {nm : String} : DI (mLn nm) 487 (.pop) 1 488 := ⟨(kL_law_15 (nm := nm)).at 13 rfl, rfl⟩
theorem dL_law_488 {nm : String} : DB (mLn nm) 488 (.goto (983)) (983) 491 1471 := ⟨(kL_law_15 (nm := nm)).at 14 rfl, rfl, rfl⟩
theorem dL_law_491 {nm : String} : DLa (mLn nm) 491 1 492 := Or.inl ⟨1, (kL_law_15 (nm := nm)).at 15 rfl, rfl, rfl⟩
theorem dL_law_492 {nm : String} : DLa (mLn nm) 492 0 493 := Or.inl ⟨0, (kL_law_16 (nm := nm)).at 0 rfl, rfl, rfl⟩
theorem dL_law_493 {nm : String} : DLi (mLn nm) 493 3 494 := Or.inl ⟨3, (kL_law_16 (nm := nm)).at 1 rfl, rfl, rfl⟩
theorem dL_law_494 {nm : String} : DC (mLn nm) 494 1 495 := Or.inl ⟨1, (kL_law_16 (nm := nm)).at 2 rfl, by decide, rfl⟩
theorem dL_law_495 {nm : String} : DI (mLn nm) 495 (.iadd) 1 496 := ⟨(kL_law_16 (nm := nm)).at 3 rfl, rfl⟩
theorem dL_law_496 {nm : String} : DI (mLn nm) 496 (.iaload) 1 497 := ⟨(kL_law_16 (nm := nm)).at 4 rfl, rfl⟩
theorem dL_law_497 {nm : String} : DLa (mLn nm) 497 0 498 := Or.inl ⟨0, (kL_law_16 (nm := nm)).at 5 rfl, rfl, rfl⟩
theorem dL_law_498 {nm : String} : DLi (mLn nm) 498 3 499 := Or.inl ⟨3, (kL_law_16 (nm := nm)).at 6 rfl, rfl, rfl⟩
theorem dL_law_499 {nm : String} : DC (mLn nm) 499 2 500 := Or.inl ⟨2, (kL_law_16 (nm := nm)).at 7 rfl, by decide, rfl⟩
theorem dL_law_500 {nm : String} : DI (mLn nm) 500 (.iadd) 1 501 := ⟨(kL_law_16 (nm := nm)).at 8 rfl, rfl⟩
theorem dL_law_501 {nm : String} : DI (mLn nm) 501 (.iaload) 1 502 := ⟨(kL_law_16 (nm := nm)).at 9 rfl, rfl⟩
theorem dL_law_502 {nm : String} : DLa (mLn nm) 502 0 503 := Or.inl ⟨0, (kL_law_16 (nm := nm)).at 10 rfl, rfl, rfl⟩
theorem dL_law_503 {nm : String} : DLi (mLn nm) 503 3 504 := Or.inl ⟨3, (kL_law_16 (nm := nm)).at 11 rfl, rfl, rfl⟩
theorem dL_law_504 {nm : String} : DC (mLn nm) 504 3 505 := Or.inl ⟨3, (kL_law_16 (nm := nm)).at 12 rfl, by decide, rfl⟩
theorem dL_law_505 {nm : String} : DI (mLn nm) 505 (.iadd) 1 506 := ⟨(kL_law_16 (nm := nm)).at 13 rfl, rfl⟩
theorem dL_law_506 {nm : String} : DI (mLn nm) 506 (.iaload) 1 507 := ⟨(kL_law_16 (nm := nm)).at 14 rfl, rfl⟩
theorem dL_law_507 {nm : String} : DI (mLn nm) 507 (.invokevirtual 55) 3 510 := ⟨(kL_law_16 (nm := nm)).at 15 rfl, rfl⟩
theorem dL_law_510 {nm : String} : DI (mLn nm) 510 (.pop) 1 511 := ⟨(kL_law_17 (nm := nm)).at 0 rfl, rfl⟩
theorem dL_law_511 {nm : String} : DLa (mLn nm) 511 2 512 := Or.inl ⟨2, (kL_law_17 (nm := nm)).at 1 rfl, rfl, rfl⟩
theorem dL_law_512 {nm : String} : DLa (mLn nm) 512 0 513 := Or.inl ⟨0, (kL_law_17 (nm := nm)).at 2 rfl, rfl, rfl⟩
theorem dL_law_513 {nm : String} : DLi (mLn nm) 513 3 514 := Or.inl ⟨3, (kL_law_17 (nm := nm)).at 3 rfl, rfl, rfl⟩
theorem dL_law_514 {nm : String} : DC (mLn nm) 514 1 515 := Or.inl ⟨1, (kL_law_17 (nm := nm)).at 4 rfl, by decide, rfl⟩
theorem dL_law_515 {nm : String} : DI (mLn nm) 515 (.iadd) 1 516 := ⟨(kL_law_17 (nm := nm)).at 5 rfl, rfl⟩
theorem dL_law_516 {nm : String} : DI (mLn nm) 516 (.iaload) 1 517 := ⟨(kL_law_17 (nm := nm)).at 6 rfl, rfl⟩
theorem dL_law_517 {nm : String} : DLa (mLn nm) 517 0 518 := Or.inl ⟨0, (kL_law_17 (nm := nm)).at 7 rfl, rfl, rfl⟩
theorem dL_law_518 {nm : String} : DLi (mLn nm) 518 3 519 := Or.inl ⟨3, (kL_law_17 (nm := nm)).at 8 rfl, rfl, rfl⟩
theorem dL_law_519 {nm : String} : DC (mLn nm) 519 2 520 := Or.inl ⟨2, (kL_law_17 (nm := nm)).at 9 rfl, by decide, rfl⟩
theorem dL_law_520 {nm : String} : DI (mLn nm) 520 (.iadd) 1 521 := ⟨(kL_law_17 (nm := nm)).at 10 rfl, rfl⟩
theorem dL_law_521 {nm : String} : DI (mLn nm) 521 (.iaload) 1 522 := ⟨(kL_law_17 (nm := nm)).at 11 rfl, rfl⟩
theorem dL_law_522 {nm : String} : DLa (mLn nm) 522 0 523 := Or.inl ⟨0, (kL_law_17 (nm := nm)).at 12 rfl, rfl, rfl⟩
theorem dL_law_523 {nm : String} : DLi (mLn nm) 523 3 524 := Or.inl ⟨3, (kL_law_17 (nm := nm)).at 13 rfl, rfl, rfl⟩
theorem dL_law_524 {nm : String} : DC (mLn nm) 524 3 525 := Or.inl ⟨3, (kL_law_17 (nm := nm)).at 14 rfl, by decide, rfl⟩
theorem dL_law_525 {nm : String} : DI (mLn nm) 525 (.iadd) 1 526 := ⟨(kL_law_17 (nm := nm)).at 15 rfl, rfl⟩
theorem dL_law_526 {nm : String} : DI (mLn nm) 526 (.iaload) 1 527 := ⟨(kL_law_18 (nm := nm)).at 0 rfl, rfl⟩
theorem dL_law_527 {nm : String} : DI (mLn nm) 527 (.invokevirtual 58) 3 530 := ⟨(kL_law_18 (nm := nm)).at 1 rfl, rfl⟩
theorem dL_law_530 {nm : String} : DI (mLn nm) 530 (.pop) 1 531 := ⟨(kL_law_18 (nm := nm)).at 2 rfl, rfl⟩
theorem dL_law_531 {nm : String} : DB (mLn nm) 531 (.goto (940)) (940) 534 1471 := ⟨(kL_law_18 (nm := nm)).at 3 rfl, rfl, rfl⟩
theorem dL_law_534 {nm : String} : DLa (mLn nm) 534 1 535 := Or.inl ⟨1, (kL_law_18 (nm := nm)).at 4 rfl, rfl, rfl⟩
theorem dL_law_535 {nm : String} : DLa (mLn nm) 535 0 536 := Or.inl ⟨0, (kL_law_18 (nm := nm)).at 5 rfl, rfl, rfl⟩
theorem dL_law_536 {nm : String} : DLi (mLn nm) 536 3 537 := Or.inl ⟨3, (kL_law_18 (nm := nm)).at 6 rfl, rfl, rfl⟩
theorem dL_law_537 {nm : String} : DC (mLn nm) 537 1 538 := Or.inl ⟨1, (kL_law_18 (nm := nm)).at 7 rfl, by decide, rfl⟩
theorem dL_law_538 {nm : String} : DI (mLn nm) 538 (.iadd) 1 539 := ⟨(kL_law_18 (nm := nm)).at 8 rfl, rfl⟩
theorem dL_law_539 {nm : String} : DI (mLn nm) 539 (.iaload) 1 540 := ⟨(kL_law_18 (nm := nm)).at 9 rfl, rfl⟩
theorem dL_law_540 {nm : String} : DLa (mLn nm) 540 0 541 := Or.inl ⟨0, (kL_law_18 (nm := nm)).at 10 rfl, rfl, rfl⟩
theorem dL_law_541 {nm : String} : DLi (mLn nm) 541 3 542 := Or.inl ⟨3, (kL_law_18 (nm := nm)).at 11 rfl, rfl, rfl⟩
theorem dL_law_542 {nm : String} : DC (mLn nm) 542 2 543 := Or.inl ⟨2, (kL_law_18 (nm := nm)).at 12 rfl, by decide, rfl⟩
theorem dL_law_543 {nm : String} : DI (mLn nm) 543 (.iadd) 1 544 := ⟨(kL_law_18 (nm := nm)).at 13 rfl, rfl⟩
theorem dL_law_544 {nm : String} : DI (mLn nm) 544 (.iaload) 1 545 := ⟨(kL_law_18 (nm := nm)).at 14 rfl, rfl⟩
theorem dL_law_545 {nm : String} : DI (mLn nm) 545 (.invokevirtual 59) 3 548 := ⟨(kL_law_18 (nm := nm)).at 15 rfl, rfl⟩
theorem dL_law_548 {nm : String} : DI (mLn nm) 548 (.pop) 1 549 := ⟨(kL_law_19 (nm := nm)).at 0 rfl, rfl⟩
theorem dL_law_549 {nm : String} : DLa (mLn nm) 549 2 550 := Or.inl ⟨2, (kL_law_19 (nm := nm)).at 1 rfl, rfl, rfl⟩
theorem dL_law_550 {nm : String} : DLa (mLn nm) 550 0 551 := Or.inl ⟨0, (kL_law_19 (nm := nm)).at 2 rfl, rfl, rfl⟩
theorem dL_law_551 {nm : String} : DLi (mLn nm) 551 3 552 := Or.inl ⟨3, (kL_law_19 (nm := nm)).at 3 rfl, rfl, rfl⟩
theorem dL_law_552 {nm : String} : DC (mLn nm) 552 1 553 := Or.inl ⟨1, (kL_law_19 (nm := nm)).at 4 rfl, by decide, rfl⟩
theorem dL_law_553 {nm : String} : DI (mLn nm) 553 (.iadd) 1 554 := ⟨(kL_law_19 (nm := nm)).at 5 rfl, rfl⟩
theorem dL_law_554 {nm : String} : DI (mLn nm) 554 (.iaload) 1 555 := ⟨(kL_law_19 (nm := nm)).at 6 rfl, rfl⟩
theorem dL_law_555 {nm : String} : DLa (mLn nm) 555 0 556 := Or.inl ⟨0, (kL_law_19 (nm := nm)).at 7 rfl, rfl, rfl⟩
theorem dL_law_556 {nm : String} : DLi (mLn nm) 556 3 557 := Or.inl ⟨3, (kL_law_19 (nm := nm)).at 8 rfl, rfl, rfl⟩
theorem dL_law_557 {nm : String} : DC (mLn nm) 557 2 558 := Or.inl ⟨2, (kL_law_19 (nm := nm)).at 9 rfl, by decide, rfl⟩
theorem dL_law_558 {nm : String} : DI (mLn nm) 558 (.iadd) 1 559 := ⟨(kL_law_19 (nm := nm)).at 10 rfl, rfl⟩
theorem dL_law_559 {nm : String} : DI (mLn nm) 559 (.iaload) 1 560 := ⟨(kL_law_19 (nm := nm)).at 11 rfl, rfl⟩
theorem dL_law_560 {nm : String} : DI (mLn nm) 560 (.invokevirtual 62) 3 563 := ⟨(kL_law_19 (nm := nm)).at 12 rfl, rfl⟩
theorem dL_law_563 {nm : String} : DI (mLn nm) 563 (.pop) 1 564 := ⟨(kL_law_19 (nm := nm)).at 13 rfl, rfl⟩
theorem dL_law_564 {nm : String} : DB (mLn nm) 564 (.goto (907)) (907) 567 1471 := ⟨(kL_law_19 (nm := nm)).at 14 rfl, rfl, rfl⟩
theorem dL_law_567 {nm : String} : DLa (mLn nm) 567 1 568 := Or.inl ⟨1, (kL_law_19 (nm := nm)).at 15 rfl, rfl, rfl⟩
theorem dL_law_568 {nm : String} : DLa (mLn nm) 568 0 569 := Or.inl ⟨0, (kL_law_20 (nm := nm)).at 0 rfl, rfl, rfl⟩
theorem dL_law_569 {nm : String} : DLi (mLn nm) 569 3 570 := Or.inl ⟨3, (kL_law_20 (nm := nm)).at 1 rfl, rfl, rfl⟩
theorem dL_law_570 {nm : String} : DC (mLn nm) 570 1 571 := Or.inl ⟨1, (kL_law_20 (nm := nm)).at 2 rfl, by decide, rfl⟩
theorem dL_law_571 {nm : String} : DI (mLn nm) 571 (.iadd) 1 572 := ⟨(kL_law_20 (nm := nm)).at 3 rfl, rfl⟩
theorem dL_law_572 {nm : String} : DI (mLn nm) 572 (.iaload) 1 573 := ⟨(kL_law_20 (nm := nm)).at 4 rfl, rfl⟩
theorem dL_law_573 {nm : String} : DLa (mLn nm) 573 0 574 := Or.inl ⟨0, (kL_law_20 (nm := nm)).at 5 rfl, rfl, rfl⟩
theorem dL_law_574 {nm : String} : DLi (mLn nm) 574 3 575 := Or.inl ⟨3, (kL_law_20 (nm := nm)).at 6 rfl, rfl, rfl⟩
theorem dL_law_575 {nm : String} : DC (mLn nm) 575 2 576 := Or.inl ⟨2, (kL_law_20 (nm := nm)).at 7 rfl, by decide, rfl⟩
theorem dL_law_576 {nm : String} : DI (mLn nm) 576 (.iadd) 1 577 := ⟨(kL_law_20 (nm := nm)).at 8 rfl, rfl⟩
theorem dL_law_577 {nm : String} : DI (mLn nm) 577 (.iaload) 1 578 := ⟨(kL_law_20 (nm := nm)).at 9 rfl, rfl⟩
theorem dL_law_578 {nm : String} : DI (mLn nm) 578 (.invokevirtual 63) 3 581 := ⟨(kL_law_20 (nm := nm)).at 10 rfl, rfl⟩
theorem dL_law_581 {nm : String} : DI (mLn nm) 581 (.pop) 1 582 := ⟨(kL_law_20 (nm := nm)).at 11 rfl, rfl⟩
theorem dL_law_582 {nm : String} : DLa (mLn nm) 582 2 583 := Or.inl ⟨2, (kL_law_20 (nm := nm)).at 12 rfl, rfl, rfl⟩
theorem dL_law_583 {nm : String} : DLa (mLn nm) 583 0 584 := Or.inl ⟨0, (kL_law_20 (nm := nm)).at 13 rfl, rfl, rfl⟩
theorem dL_law_584 {nm : String} : DLi (mLn nm) 584 3 585 := Or.inl ⟨3, (kL_law_20 (nm := nm)).at 14 rfl, rfl, rfl⟩
theorem dL_law_585 {nm : String} : DC (mLn nm) 585 1 586 := Or.inl ⟨1, (kL_law_20 (nm := nm)).at 15 rfl, by decide, rfl⟩
theorem dL_law_586 {nm : String} : DI (mLn nm) 586 (.iadd) 1 587 := ⟨(kL_law_21 (nm := nm)).at 0 rfl, rfl⟩
theorem dL_law_587 {nm : String} : DI (mLn nm) 587 (.iaload) 1 588 := ⟨(kL_law_21 (nm := nm)).at 1 rfl, rfl⟩
theorem dL_law_588 {nm : String} : DLa (mLn nm) 588 0 589 := Or.inl ⟨0, (kL_law_21 (nm := nm)).at 2 rfl, rfl, rfl⟩
theorem dL_law_589 {nm : String} : DLi (mLn nm) 589 3 590 := Or.inl ⟨3, (kL_law_21 (nm := nm)).at 3 rfl, rfl, rfl⟩
theorem dL_law_590 {nm : String} : DC (mLn nm) 590 2 591 := Or.inl ⟨2, (kL_law_21 (nm := nm)).at 4 rfl, by decide, rfl⟩
theorem dL_law_591 {nm : String} : DI (mLn nm) 591 (.iadd) 1 592 := ⟨(kL_law_21 (nm := nm)).at 5 rfl, rfl⟩
theorem dL_law_592 {nm : String} : DI (mLn nm) 592 (.iaload) 1 593 := ⟨(kL_law_21 (nm := nm)).at 6 rfl, rfl⟩
theorem dL_law_593 {nm : String} : DI (mLn nm) 593 (.invokevirtual 66) 3 596 := ⟨(kL_law_21 (nm := nm)).at 7 rfl, rfl⟩
theorem dL_law_596 {nm : String} : DI (mLn nm) 596 (.pop) 1 597 := ⟨(kL_law_21 (nm := nm)).at 8 rfl, rfl⟩
theorem dL_law_597 {nm : String} : DB (mLn nm) 597 (.goto (874)) (874) 600 1471 := ⟨(kL_law_21 (nm := nm)).at 9 rfl, rfl, rfl⟩
theorem dL_law_600 {nm : String} : DLa (mLn nm) 600 1 601 := Or.inl ⟨1, (kL_law_21 (nm := nm)).at 10 rfl, rfl, rfl⟩
theorem dL_law_601 {nm : String} : DLa (mLn nm) 601 0 602 := Or.inl ⟨0, (kL_law_21 (nm := nm)).at 11 rfl, rfl, rfl⟩
theorem dL_law_602 {nm : String} : DLi (mLn nm) 602 3 603 := Or.inl ⟨3, (kL_law_21 (nm := nm)).at 12 rfl, rfl, rfl⟩
theorem dL_law_603 {nm : String} : DC (mLn nm) 603 1 604 := Or.inl ⟨1, (kL_law_21 (nm := nm)).at 13 rfl, by decide, rfl⟩
theorem dL_law_604 {nm : String} : DI (mLn nm) 604 (.iadd) 1 605 := ⟨(kL_law_21 (nm := nm)).at 14 rfl, rfl⟩
theorem dL_law_605 {nm : String} : DI (mLn nm) 605 (.iaload) 1 606 := ⟨(kL_law_21 (nm := nm)).at 15 rfl, rfl⟩
theorem dL_law_606 {nm : String} : DLa (mLn nm) 606 0 607 := Or.inl ⟨0, (kL_law_22 (nm := nm)).at 0 rfl, rfl, rfl⟩
theorem dL_law_607 {nm : String} : DLi (mLn nm) 607 3 608 := Or.inl ⟨3, (kL_law_22 (nm := nm)).at 1 rfl, rfl, rfl⟩
theorem dL_law_608 {nm : String} : DC (mLn nm) 608 2 609 := Or.inl ⟨2, (kL_law_22 (nm := nm)).at 2 rfl, by decide, rfl⟩
theorem dL_law_609 {nm : String} : DI (mLn nm) 609 (.iadd) 1 610 := ⟨(kL_law_22 (nm := nm)).at 3 rfl, rfl⟩
theorem dL_law_610 {nm : String} : DI (mLn nm) 610 (.iaload) 1 611 := ⟨(kL_law_22 (nm := nm)).at 4 rfl, rfl⟩
theorem dL_law_611 {nm : String} : DI (mLn nm) 611 (.invokevirtual 67) 3 614 := ⟨(kL_law_22 (nm := nm)).at 5 rfl, rfl⟩
theorem dL_law_614 {nm : String} : DI (mLn nm) 614 (.pop) 1 615 := ⟨(kL_law_22 (nm := nm)).at 6 rfl, rfl⟩
theorem dL_law_615 {nm : String} : DLa (mLn nm) 615 2 616 := Or.inl ⟨2, (kL_law_22 (nm := nm)).at 7 rfl, rfl, rfl⟩
theorem dL_law_616 {nm : String} : DLa (mLn nm) 616 0 617 := Or.inl ⟨0, (kL_law_22 (nm := nm)).at 8 rfl, rfl, rfl⟩
theorem dL_law_617 {nm : String} : DLi (mLn nm) 617 3 618 := Or.inl ⟨3, (kL_law_22 (nm := nm)).at 9 rfl, rfl, rfl⟩
theorem dL_law_618 {nm : String} : DC (mLn nm) 618 1 619 := Or.inl ⟨1, (kL_law_22 (nm := nm)).at 10 rfl, by decide, rfl⟩
theorem dL_law_619 {nm : String} : DI (mLn nm) 619 (.iadd) 1 620 := ⟨(kL_law_22 (nm := nm)).at 11 rfl, rfl⟩
theorem dL_law_620 {nm : String} : DI (mLn nm) 620 (.iaload) 1 621 := ⟨(kL_law_22 (nm := nm)).at 12 rfl, rfl⟩
theorem dL_law_621 {nm : String} : DLa (mLn nm) 621 0 622 := Or.inl ⟨0, (kL_law_22 (nm := nm)).at 13 rfl, rfl, rfl⟩
theorem dL_law_622 {nm : String} : DLi (mLn nm) 622 3 623 := Or.inl ⟨3, (kL_law_22 (nm := nm)).at 14 rfl, rfl, rfl⟩
theorem dL_law_623 {nm : String} : DC (mLn nm) 623 2 624 := Or.inl ⟨2, (kL_law_22 (nm := nm)).at 15 rfl, by decide, rfl⟩
theorem dL_law_624 {nm : String} : DI (mLn nm) 624 (.iadd) 1 625 := ⟨(kL_law_23 (nm := nm)).at 0 rfl, rfl⟩
theorem dL_law_625 {nm : String} : DI (mLn nm) 625 (.iaload) 1 626 := ⟨(kL_law_23 (nm := nm)).at 1 rfl, rfl⟩
theorem dL_law_626 {nm : String} : DI (mLn nm) 626 (.invokevirtual 70) 3 629 := ⟨(kL_law_23 (nm := nm)).at 2 rfl, rfl⟩
theorem dL_law_629 {nm : String} : DI (mLn nm) 629 (.pop) 1 630 := ⟨(kL_law_23 (nm := nm)).at 3 rfl, rfl⟩
theorem dL_law_630 {nm : String} : DB (mLn nm) 630 (.goto (841)) (841) 633 1471 := ⟨(kL_law_23 (nm := nm)).at 4 rfl, rfl, rfl⟩
theorem dL_law_633 {nm : String} : DLa (mLn nm) 633 1 634 := Or.inl ⟨1, (kL_law_23 (nm := nm)).at 5 rfl, rfl, rfl⟩
theorem dL_law_634 {nm : String} : DLa (mLn nm) 634 0 635 := Or.inl ⟨0, (kL_law_23 (nm := nm)).at 6 rfl, rfl, rfl⟩
theorem dL_law_635 {nm : String} : DLi (mLn nm) 635 3 636 := Or.inl ⟨3, (kL_law_23 (nm := nm)).at 7 rfl, rfl, rfl⟩
theorem dL_law_636 {nm : String} : DC (mLn nm) 636 1 637 := Or.inl ⟨1, (kL_law_23 (nm := nm)).at 8 rfl, by decide, rfl⟩
theorem dL_law_637 {nm : String} : DI (mLn nm) 637 (.iadd) 1 638 := ⟨(kL_law_23 (nm := nm)).at 9 rfl, rfl⟩
theorem dL_law_638 {nm : String} : DI (mLn nm) 638 (.iaload) 1 639 := ⟨(kL_law_23 (nm := nm)).at 10 rfl, rfl⟩
theorem dL_law_639 {nm : String} : DLa (mLn nm) 639 0 640 := Or.inl ⟨0, (kL_law_23 (nm := nm)).at 11 rfl, rfl, rfl⟩
theorem dL_law_640 {nm : String} : DLi (mLn nm) 640 3 641 := Or.inl ⟨3, (kL_law_23 (nm := nm)).at 12 rfl, rfl, rfl⟩
theorem dL_law_641 {nm : String} : DC (mLn nm) 641 2 642 := Or.inl ⟨2, (kL_law_23 (nm := nm)).at 13 rfl, by decide, rfl⟩
theorem dL_law_642 {nm : String} : DI (mLn nm) 642 (.iadd) 1 643 := ⟨(kL_law_23 (nm := nm)).at 14 rfl, rfl⟩
theorem dL_law_643 {nm : String} : DI (mLn nm) 643 (.iaload) 1 644 := ⟨(kL_law_23 (nm := nm)).at 15 rfl, rfl⟩
theorem dL_law_644 {nm : String} : DI (mLn nm) 644 (.invokevirtual 71) 3 647 := ⟨(kL_law_24 (nm := nm)).at 0 rfl, rfl⟩
theorem dL_law_647 {nm : String} : DI (mLn nm) 647 (.pop2) 1 648 := ⟨(kL_law_24 (nm := nm)).at 1 rfl, rfl⟩
theorem dL_law_648 {nm : String} : DLa (mLn nm) 648 2 649 := Or.inl ⟨2, (kL_law_24 (nm := nm)).at 2 rfl, rfl, rfl⟩
theorem dL_law_649 {nm : String} : DLa (mLn nm) 649 0 650 := Or.inl ⟨0, (kL_law_24 (nm := nm)).at 3 rfl, rfl, rfl⟩
theorem dL_law_650 {nm : String} : DLi (mLn nm) 650 3 651 := Or.inl ⟨3, (kL_law_24 (nm := nm)).at 4 rfl, rfl, rfl⟩
theorem dL_law_651 {nm : String} : DC (mLn nm) 651 1 652 := Or.inl ⟨1, (kL_law_24 (nm := nm)).at 5 rfl, by decide, rfl⟩
theorem dL_law_652 {nm : String} : DI (mLn nm) 652 (.iadd) 1 653 := ⟨(kL_law_24 (nm := nm)).at 6 rfl, rfl⟩
theorem dL_law_653 {nm : String} : DI (mLn nm) 653 (.iaload) 1 654 := ⟨(kL_law_24 (nm := nm)).at 7 rfl, rfl⟩
theorem dL_law_654 {nm : String} : DLa (mLn nm) 654 0 655 := Or.inl ⟨0, (kL_law_24 (nm := nm)).at 8 rfl, rfl, rfl⟩
theorem dL_law_655 {nm : String} : DLi (mLn nm) 655 3 656 := Or.inl ⟨3, (kL_law_24 (nm := nm)).at 9 rfl, rfl, rfl⟩
theorem dL_law_656 {nm : String} : DC (mLn nm) 656 2 657 := Or.inl ⟨2, (kL_law_24 (nm := nm)).at 10 rfl, by decide, rfl⟩
theorem dL_law_657 {nm : String} : DI (mLn nm) 657 (.iadd) 1 658 := ⟨(kL_law_24 (nm := nm)).at 11 rfl, rfl⟩
theorem dL_law_658 {nm : String} : DI (mLn nm) 658 (.iaload) 1 659 := ⟨(kL_law_24 (nm := nm)).at 12 rfl, rfl⟩
theorem dL_law_659 {nm : String} : DI (mLn nm) 659 (.invokevirtual 75) 3 662 := ⟨(kL_law_24 (nm := nm)).at 13 rfl, rfl⟩
theorem dL_law_662 {nm : String} : DI (mLn nm) 662 (.pop2) 1 663 := ⟨(kL_law_24 (nm := nm)).at 14 rfl, rfl⟩
theorem dL_law_663 {nm : String} : DB (mLn nm) 663 (.goto (808)) (808) 666 1471 := ⟨(kL_law_24 (nm := nm)).at 15 rfl, rfl, rfl⟩
theorem dL_law_666 {nm : String} : DLa (mLn nm) 666 1 667 := Or.inl ⟨1, (kL_law_25 (nm := nm)).at 0 rfl, rfl, rfl⟩
theorem dL_law_667 {nm : String} : DLa (mLn nm) 667 0 668 := Or.inl ⟨0, (kL_law_25 (nm := nm)).at 1 rfl, rfl, rfl⟩
theorem dL_law_668 {nm : String} : DLi (mLn nm) 668 3 669 := Or.inl ⟨3, (kL_law_25 (nm := nm)).at 2 rfl, rfl, rfl⟩
theorem dL_law_669 {nm : String} : DC (mLn nm) 669 1 670 := Or.inl ⟨1, (kL_law_25 (nm := nm)).at 3 rfl, by decide, rfl⟩
theorem dL_law_670 {nm : String} : DI (mLn nm) 670 (.iadd) 1 671 := ⟨(kL_law_25 (nm := nm)).at 4 rfl, rfl⟩
theorem dL_law_671 {nm : String} : DI (mLn nm) 671 (.iaload) 1 672 := ⟨(kL_law_25 (nm := nm)).at 5 rfl, rfl⟩
theorem dL_law_672 {nm : String} : DLa (mLn nm) 672 0 673 := Or.inl ⟨0, (kL_law_25 (nm := nm)).at 6 rfl, rfl, rfl⟩
theorem dL_law_673 {nm : String} : DLi (mLn nm) 673 3 674 := Or.inl ⟨3, (kL_law_25 (nm := nm)).at 7 rfl, rfl, rfl⟩
theorem dL_law_674 {nm : String} : DC (mLn nm) 674 2 675 := Or.inl ⟨2, (kL_law_25 (nm := nm)).at 8 rfl, by decide, rfl⟩
theorem dL_law_675 {nm : String} : DI (mLn nm) 675 (.iadd) 1 676 := ⟨(kL_law_25 (nm := nm)).at 9 rfl, rfl⟩
theorem dL_law_676 {nm : String} : DI (mLn nm) 676 (.iaload) 1 677 := ⟨(kL_law_25 (nm := nm)).at 10 rfl, rfl⟩
theorem dL_law_677 {nm : String} : DLa (mLn nm) 677 0 678 := Or.inl ⟨0, (kL_law_25 (nm := nm)).at 11 rfl, rfl, rfl⟩
theorem dL_law_678 {nm : String} : DLi (mLn nm) 678 3 679 := Or.inl ⟨3, (kL_law_25 (nm := nm)).at 12 rfl, rfl, rfl⟩
theorem dL_law_679 {nm : String} : DC (mLn nm) 679 3 680 := Or.inl ⟨3, (kL_law_25 (nm := nm)).at 13 rfl, by decide, rfl⟩
theorem dL_law_680 {nm : String} : DI (mLn nm) 680 (.iadd) 1 681 := ⟨(kL_law_25 (nm := nm)).at 14 rfl, rfl⟩
theorem dL_law_681 {nm : String} : DI (mLn nm) 681 (.iaload) 1 682 := ⟨(kL_law_25 (nm := nm)).at 15 rfl, rfl⟩
theorem dL_law_682 {nm : String} : DI (mLn nm) 682 (.invokevirtual 76) 3 685 := ⟨(kL_law_26 (nm := nm)).at 0 rfl, rfl⟩
theorem dL_law_685 {nm : String} : DI (mLn nm) 685 (.pop) 1 686 := ⟨(kL_law_26 (nm := nm)).at 1 rfl, rfl⟩
theorem dL_law_686 {nm : String} : DLa (mLn nm) 686 2 687 := Or.inl ⟨2, (kL_law_26 (nm := nm)).at 2 rfl, rfl, rfl⟩
theorem dL_law_687 {nm : String} : DLa (mLn nm) 687 0 688 := Or.inl ⟨0, (kL_law_26 (nm := nm)).at 3 rfl, rfl, rfl⟩
theorem dL_law_688 {nm : String} : DLi (mLn nm) 688 3 689 := Or.inl ⟨3, (kL_law_26 (nm := nm)).at 4 rfl, rfl, rfl⟩
theorem dL_law_689 {nm : String} : DC (mLn nm) 689 1 690 := Or.inl ⟨1, (kL_law_26 (nm := nm)).at 5 rfl, by decide, rfl⟩
theorem dL_law_690 {nm : String} : DI (mLn nm) 690 (.iadd) 1 691 := ⟨(kL_law_26 (nm := nm)).at 6 rfl, rfl⟩
theorem dL_law_691 {nm : String} : DI (mLn nm) 691 (.iaload) 1 692 := ⟨(kL_law_26 (nm := nm)).at 7 rfl, rfl⟩
theorem dL_law_692 {nm : String} : DLa (mLn nm) 692 0 693 := Or.inl ⟨0, (kL_law_26 (nm := nm)).at 8 rfl, rfl, rfl⟩
theorem dL_law_693 {nm : String} : DLi (mLn nm) 693 3 694 := Or.inl ⟨3, (kL_law_26 (nm := nm)).at 9 rfl, rfl, rfl⟩
theorem dL_law_694 {nm : String} : DC (mLn nm) 694 2 695 := Or.inl ⟨2, (kL_law_26 (nm := nm)).at 10 rfl, by decide, rfl⟩
theorem dL_law_695 {nm : String} : DI (mLn nm) 695 (.iadd) 1 696 := ⟨(kL_law_26 (nm := nm)).at 11 rfl, rfl⟩
theorem dL_law_696 {nm : String} : DI (mLn nm) 696 (.iaload) 1 697 := ⟨(kL_law_26 (nm := nm)).at 12 rfl, rfl⟩
theorem dL_law_697 {nm : String} : DLa (mLn nm) 697 0 698 := Or.inl ⟨0, (kL_law_26 (nm := nm)).at 13 rfl, rfl, rfl⟩
theorem dL_law_698 {nm : String} : DLi (mLn nm) 698 3 699 := Or.inl ⟨3, (kL_law_26 (nm := nm)).at 14 rfl, rfl, rfl⟩
theorem dL_law_699 {nm : String} : DC (mLn nm) 699 3 700 := Or.inl ⟨3, (kL_law_26 (nm := nm)).at 15 rfl, by decide, rfl⟩
theorem dL_law_700 {nm : String} : DI (mLn nm) 700 (.iadd) 1 701 := ⟨(kL_law_27 (nm := nm)).at 0 rfl, rfl⟩
theorem dL_law_701 {nm : String} : DI (mLn nm) 701 (.iaload) 1 702 := ⟨(kL_law_27 (nm := nm)).at 1 rfl, rfl⟩
theorem dL_law_702 {nm : String} : DI (mLn nm) 702 (.invokevirtual 79) 3 705 := ⟨(kL_law_27 (nm := nm)).at 2 rfl, rfl⟩
theorem dL_law_705 {nm : String} : DI (mLn nm) 705 (.pop) 1 706 := ⟨(kL_law_27 (nm := nm)).at 3 rfl, rfl⟩
theorem dL_law_706 {nm : String} : DB (mLn nm) 706 (.goto (765)) (765) 709 1471 := ⟨(kL_law_27 (nm := nm)).at 4 rfl, rfl, rfl⟩
theorem dL_law_709 {nm : String} : DLa (mLn nm) 709 1 710 := Or.inl ⟨1, (kL_law_27 (nm := nm)).at 5 rfl, rfl, rfl⟩
theorem dL_law_710 {nm : String} : DLa (mLn nm) 710 0 711 := Or.inl ⟨0, (kL_law_27 (nm := nm)).at 6 rfl, rfl, rfl⟩
theorem dL_law_711 {nm : String} : DLi (mLn nm) 711 3 712 := Or.inl ⟨3, (kL_law_27 (nm := nm)).at 7 rfl, rfl, rfl⟩
theorem dL_law_712 {nm : String} : DC (mLn nm) 712 1 713 := Or.inl ⟨1, (kL_law_27 (nm := nm)).at 8 rfl, by decide, rfl⟩
theorem dL_law_713 {nm : String} : DI (mLn nm) 713 (.iadd) 1 714 := ⟨(kL_law_27 (nm := nm)).at 9 rfl, rfl⟩
theorem dL_law_714 {nm : String} : DI (mLn nm) 714 (.iaload) 1 715 := ⟨(kL_law_27 (nm := nm)).at 10 rfl, rfl⟩
theorem dL_law_715 {nm : String} : DLa (mLn nm) 715 0 716 := Or.inl ⟨0, (kL_law_27 (nm := nm)).at 11 rfl, rfl, rfl⟩
theorem dL_law_716 {nm : String} : DLi (mLn nm) 716 3 717 := Or.inl ⟨3, (kL_law_27 (nm := nm)).at 12 rfl, rfl, rfl⟩
theorem dL_law_717 {nm : String} : DC (mLn nm) 717 2 718 := Or.inl ⟨2, (kL_law_27 (nm := nm)).at 13 rfl, by decide, rfl⟩
theorem dL_law_718 {nm : String} : DI (mLn nm) 718 (.iadd) 1 719 := ⟨(kL_law_27 (nm := nm)).at 14 rfl, rfl⟩
theorem dL_law_719 {nm : String} : DI (mLn nm) 719 (.iaload) 1 720 := ⟨(kL_law_27 (nm := nm)).at 15 rfl, rfl⟩
theorem dL_law_720 {nm : String} : DI (mLn nm) 720 (.invokevirtual 80) 3 723 := ⟨(kL_law_28 (nm := nm)).at 0 rfl, rfl⟩
theorem dL_law_723 {nm : String} : DI (mLn nm) 723 (.pop) 1 724 := ⟨(kL_law_28 (nm := nm)).at 1 rfl, rfl⟩
theorem dL_law_724 {nm : String} : DLa (mLn nm) 724 2 725 := Or.inl ⟨2, (kL_law_28 (nm := nm)).at 2 rfl, rfl, rfl⟩
theorem dL_law_725 {nm : String} : DLa (mLn nm) 725 0 726 := Or.inl ⟨0, (kL_law_28 (nm := nm)).at 3 rfl, rfl, rfl⟩
theorem dL_law_726 {nm : String} : DLi (mLn nm) 726 3 727 := Or.inl ⟨3, (kL_law_28 (nm := nm)).at 4 rfl, rfl, rfl⟩
theorem dL_law_727 {nm : String} : DC (mLn nm) 727 1 728 := Or.inl ⟨1, (kL_law_28 (nm := nm)).at 5 rfl, by decide, rfl⟩
theorem dL_law_728 {nm : String} : DI (mLn nm) 728 (.iadd) 1 729 := ⟨(kL_law_28 (nm := nm)).at 6 rfl, rfl⟩
theorem dL_law_729 {nm : String} : DI (mLn nm) 729 (.iaload) 1 730 := ⟨(kL_law_28 (nm := nm)).at 7 rfl, rfl⟩
theorem dL_law_730 {nm : String} : DLa (mLn nm) 730 0 731 := Or.inl ⟨0, (kL_law_28 (nm := nm)).at 8 rfl, rfl, rfl⟩
theorem dL_law_731 {nm : String} : DLi (mLn nm) 731 3 732 := Or.inl ⟨3, (kL_law_28 (nm := nm)).at 9 rfl, rfl, rfl⟩
theorem dL_law_732 {nm : String} : DC (mLn nm) 732 2 733 := Or.inl ⟨2, (kL_law_28 (nm := nm)).at 10 rfl, by decide, rfl⟩
theorem dL_law_733 {nm : String} : DI (mLn nm) 733 (.iadd) 1 734 := ⟨(kL_law_28 (nm := nm)).at 11 rfl, rfl⟩
theorem dL_law_734 {nm : String} : DI (mLn nm) 734 (.iaload) 1 735 := ⟨(kL_law_28 (nm := nm)).at 12 rfl, rfl⟩
theorem dL_law_735 {nm : String} : DI (mLn nm) 735 (.invokevirtual 83) 3 738 := ⟨(kL_law_28 (nm := nm)).at 13 rfl, rfl⟩
theorem dL_law_738 {nm : String} : DI (mLn nm) 738 (.pop) 1 739 := ⟨(kL_law_28 (nm := nm)).at 14 rfl, rfl⟩
theorem dL_law_739 {nm : String} : DB (mLn nm) 739 (.goto (732)) (732) 742 1471 := ⟨(kL_law_28 (nm := nm)).at 15 rfl, rfl, rfl⟩
theorem dL_law_742 {nm : String} : DLa (mLn nm) 742 1 743 := Or.inl ⟨1, (kL_law_29 (nm := nm)).at 0 rfl, rfl, rfl⟩
theorem dL_law_743 {nm : String} : DLa (mLn nm) 743 0 744 := Or.inl ⟨0, (kL_law_29 (nm := nm)).at 1 rfl, rfl, rfl⟩
theorem dL_law_744 {nm : String} : DLi (mLn nm) 744 3 745 := Or.inl ⟨3, (kL_law_29 (nm := nm)).at 2 rfl, rfl, rfl⟩
theorem dL_law_745 {nm : String} : DC (mLn nm) 745 1 746 := Or.inl ⟨1, (kL_law_29 (nm := nm)).at 3 rfl, by decide, rfl⟩
theorem dL_law_746 {nm : String} : DI (mLn nm) 746 (.iadd) 1 747 := ⟨(kL_law_29 (nm := nm)).at 4 rfl, rfl⟩
theorem dL_law_747 {nm : String} : DI (mLn nm) 747 (.iaload) 1 748 := ⟨(kL_law_29 (nm := nm)).at 5 rfl, rfl⟩
theorem dL_law_748 {nm : String} : DLa (mLn nm) 748 0 749 := Or.inl ⟨0, (kL_law_29 (nm := nm)).at 6 rfl, rfl, rfl⟩
theorem dL_law_749 {nm : String} : DLi (mLn nm) 749 3 750 := Or.inl ⟨3, (kL_law_29 (nm := nm)).at 7 rfl, rfl, rfl⟩
theorem dL_law_750 {nm : String} : DC (mLn nm) 750 2 751 := Or.inl ⟨2, (kL_law_29 (nm := nm)).at 8 rfl, by decide, rfl⟩
theorem dL_law_751 {nm : String} : DI (mLn nm) 751 (.iadd) 1 752 := ⟨(kL_law_29 (nm := nm)).at 9 rfl, rfl⟩
theorem dL_law_752 {nm : String} : DI (mLn nm) 752 (.iaload) 1 753 := ⟨(kL_law_29 (nm := nm)).at 10 rfl, rfl⟩
theorem dL_law_753 {nm : String} : DI (mLn nm) 753 (.invokevirtual 84) 3 756 := ⟨(kL_law_29 (nm := nm)).at 11 rfl, rfl⟩
theorem dL_law_756 {nm : String} : DI (mLn nm) 756 (.pop) 1 757 := ⟨(kL_law_29 (nm := nm)).at 12 rfl, rfl⟩
theorem dL_law_757 {nm : String} : DLa (mLn nm) 757 2 758 := Or.inl ⟨2, (kL_law_29 (nm := nm)).at 13 rfl, rfl, rfl⟩
theorem dL_law_758 {nm : String} : DLa (mLn nm) 758 0 759 := Or.inl ⟨0, (kL_law_29 (nm := nm)).at 14 rfl, rfl, rfl⟩
theorem dL_law_759 {nm : String} : DLi (mLn nm) 759 3 760 := Or.inl ⟨3, (kL_law_29 (nm := nm)).at 15 rfl, rfl, rfl⟩
theorem dL_law_760 {nm : String} : DC (mLn nm) 760 1 761 := Or.inl ⟨1, (kL_law_30 (nm := nm)).at 0 rfl, by decide, rfl⟩
theorem dL_law_761 {nm : String} : DI (mLn nm) 761 (.iadd) 1 762 := ⟨(kL_law_30 (nm := nm)).at 1 rfl, rfl⟩
theorem dL_law_762 {nm : String} : DI (mLn nm) 762 (.iaload) 1 763 := ⟨(kL_law_30 (nm := nm)).at 2 rfl, rfl⟩
theorem dL_law_763 {nm : String} : DLa (mLn nm) 763 0 764 := Or.inl ⟨0, (kL_law_30 (nm := nm)).at 3 rfl, rfl, rfl⟩
theorem dL_law_764 {nm : String} : DLi (mLn nm) 764 3 765 := Or.inl ⟨3, (kL_law_30 (nm := nm)).at 4 rfl, rfl, rfl⟩
theorem dL_law_765 {nm : String} : DC (mLn nm) 765 2 766 := Or.inl ⟨2, (kL_law_30 (nm := nm)).at 5 rfl, by decide, rfl⟩
theorem dL_law_766 {nm : String} : DI (mLn nm) 766 (.iadd) 1 767 := ⟨(kL_law_30 (nm := nm)).at 6 rfl, rfl⟩
theorem dL_law_767 {nm : String} : DI (mLn nm) 767 (.iaload) 1 768 := ⟨(kL_law_30 (nm := nm)).at 7 rfl, rfl⟩
theorem dL_law_768 {nm : String} : DI (mLn nm) 768 (.invokevirtual 87) 3 771 := ⟨(kL_law_30 (nm := nm)).at 8 rfl, rfl⟩
theorem dL_law_771 {nm : String} : DI (mLn nm) 771 (.pop) 1 772 := ⟨(kL_law_30 (nm := nm)).at 9 rfl, rfl⟩
theorem dL_law_772 {nm : String} : DB (mLn nm) 772 (.goto (699)) (699) 775 1471 := ⟨(kL_law_30 (nm := nm)).at 10 rfl, rfl, rfl⟩
theorem dL_law_775 {nm : String} : DLa (mLn nm) 775 1 776 := Or.inl ⟨1, (kL_law_30 (nm := nm)).at 11 rfl, rfl, rfl⟩
theorem dL_law_776 {nm : String} : DLa (mLn nm) 776 0 777 := Or.inl ⟨0, (kL_law_30 (nm := nm)).at 12 rfl, rfl, rfl⟩
theorem dL_law_777 {nm : String} : DLi (mLn nm) 777 3 778 := Or.inl ⟨3, (kL_law_30 (nm := nm)).at 13 rfl, rfl, rfl⟩
theorem dL_law_778 {nm : String} : DC (mLn nm) 778 1 779 := Or.inl ⟨1, (kL_law_30 (nm := nm)).at 14 rfl, by decide, rfl⟩
theorem dL_law_779 {nm : String} : DI (mLn nm) 779 (.iadd) 1 780 := ⟨(kL_law_30 (nm := nm)).at 15 rfl, rfl⟩
theorem dL_law_780 {nm : String} : DI (mLn nm) 780 (.iaload) 1 781 := ⟨(kL_law_31 (nm := nm)).at 0 rfl, rfl⟩
theorem dL_law_781 {nm : String} : DLa (mLn nm) 781 0 782 := Or.inl ⟨0, (kL_law_31 (nm := nm)).at 1 rfl, rfl, rfl⟩
theorem dL_law_782 {nm : String} : DLi (mLn nm) 782 3 783 := Or.inl ⟨3, (kL_law_31 (nm := nm)).at 2 rfl, rfl, rfl⟩
theorem dL_law_783 {nm : String} : DC (mLn nm) 783 2 784 := Or.inl ⟨2, (kL_law_31 (nm := nm)).at 3 rfl, by decide, rfl⟩
theorem dL_law_784 {nm : String} : DI (mLn nm) 784 (.iadd) 1 785 := ⟨(kL_law_31 (nm := nm)).at 4 rfl, rfl⟩
theorem dL_law_785 {nm : String} : DI (mLn nm) 785 (.iaload) 1 786 := ⟨(kL_law_31 (nm := nm)).at 5 rfl, rfl⟩
theorem dL_law_786 {nm : String} : DI (mLn nm) 786 (.invokevirtual 88) 3 789 := ⟨(kL_law_31 (nm := nm)).at 6 rfl, rfl⟩
theorem dL_law_789 {nm : String} : DI (mLn nm) 789 (.pop) 1 790 := ⟨(kL_law_31 (nm := nm)).at 7 rfl, rfl⟩
theorem dL_law_790 {nm : String} : DLa (mLn nm) 790 2 791 := Or.inl ⟨2, (kL_law_31 (nm := nm)).at 8 rfl, rfl, rfl⟩
theorem dL_law_791 {nm : String} : DLa (mLn nm) 791 0 792 := Or.inl ⟨0, (kL_law_31 (nm := nm)).at 9 rfl, rfl, rfl⟩
theorem dL_law_792 {nm : String} : DLi (mLn nm) 792 3 793 := Or.inl ⟨3, (kL_law_31 (nm := nm)).at 10 rfl, rfl, rfl⟩
theorem dL_law_793 {nm : String} : DC (mLn nm) 793 1 794 := Or.inl ⟨1, (kL_law_31 (nm := nm)).at 11 rfl, by decide, rfl⟩
theorem dL_law_794 {nm : String} : DI (mLn nm) 794 (.iadd) 1 795 := ⟨(kL_law_31 (nm := nm)).at 12 rfl, rfl⟩
theorem dL_law_795 {nm : String} : DI (mLn nm) 795 (.iaload) 1 796 := ⟨(kL_law_31 (nm := nm)).at 13 rfl, rfl⟩
theorem dL_law_796 {nm : String} : DLa (mLn nm) 796 0 797 := Or.inl ⟨0, (kL_law_31 (nm := nm)).at 14 rfl, rfl, rfl⟩
theorem dL_law_797 {nm : String} : DLi (mLn nm) 797 3 798 := Or.inl ⟨3, (kL_law_31 (nm := nm)).at 15 rfl, rfl, rfl⟩
theorem dL_law_798 {nm : String} : DC (mLn nm) 798 2 799 := Or.inl ⟨2, (kL_law_32 (nm := nm)).at 0 rfl, by decide, rfl⟩
theorem dL_law_799 {nm : String} : DI (mLn nm) 799 (.iadd) 1 800 := ⟨(kL_law_32 (nm := nm)).at 1 rfl, rfl⟩
theorem dL_law_800 {nm : String} : DI (mLn nm) 800 (.iaload) 1 801 := ⟨(kL_law_32 (nm := nm)).at 2 rfl, rfl⟩
theorem dL_law_801 {nm : String} : DI (mLn nm) 801 (.invokevirtual 91) 3 804 := ⟨(kL_law_32 (nm := nm)).at 3 rfl, rfl⟩
theorem dL_law_804 {nm : String} : DI (mLn nm) 804 (.pop) 1 805 := ⟨(kL_law_32 (nm := nm)).at 4 rfl, rfl⟩
theorem dL_law_805 {nm : String} : DB (mLn nm) 805 (.goto (666)) (666) 808 1471 := ⟨(kL_law_32 (nm := nm)).at 5 rfl, rfl, rfl⟩
theorem dL_law_808 {nm : String} : DLa (mLn nm) 808 1 809 := Or.inl ⟨1, (kL_law_32 (nm := nm)).at 6 rfl, rfl, rfl⟩
theorem dL_law_809 {nm : String} : DLa (mLn nm) 809 0 810 := Or.inl ⟨0, (kL_law_32 (nm := nm)).at 7 rfl, rfl, rfl⟩
theorem dL_law_810 {nm : String} : DLi (mLn nm) 810 3 811 := Or.inl ⟨3, (kL_law_32 (nm := nm)).at 8 rfl, rfl, rfl⟩
theorem dL_law_811 {nm : String} : DC (mLn nm) 811 1 812 := Or.inl ⟨1, (kL_law_32 (nm := nm)).at 9 rfl, by decide, rfl⟩
theorem dL_law_812 {nm : String} : DI (mLn nm) 812 (.iadd) 1 813 := ⟨(kL_law_32 (nm := nm)).at 10 rfl, rfl⟩
theorem dL_law_813 {nm : String} : DI (mLn nm) 813 (.iaload) 1 814 := ⟨(kL_law_32 (nm := nm)).at 11 rfl, rfl⟩
theorem dL_law_814 {nm : String} : DLa (mLn nm) 814 0 815 := Or.inl ⟨0, (kL_law_32 (nm := nm)).at 12 rfl, rfl, rfl⟩
theorem dL_law_815 {nm : String} : DLi (mLn nm) 815 3 816 := Or.inl ⟨3, (kL_law_32 (nm := nm)).at 13 rfl, rfl, rfl⟩
theorem dL_law_816 {nm : String} : DC (mLn nm) 816 2 817 := Or.inl ⟨2, (kL_law_32 (nm := nm)).at 14 rfl, by decide, rfl⟩
theorem dL_law_817 {nm : String} : DI (mLn nm) 817 (.iadd) 1 818 := ⟨(kL_law_32 (nm := nm)).at 15 rfl, rfl⟩
theorem dL_law_818 {nm : String} : DI (mLn nm) 818 (.iaload) 1 819 := ⟨(kL_law_33 (nm := nm)).at 0 rfl, rfl⟩
theorem dL_law_819 {nm : String} : DI (mLn nm) 819 (.invokevirtual 92) 3 822 := ⟨(kL_law_33 (nm := nm)).at 1 rfl, rfl⟩
theorem dL_law_822 {nm : String} : DI (mLn nm) 822 (.pop) 1 823 := ⟨(kL_law_33 (nm := nm)).at 2 rfl, rfl⟩
theorem dL_law_823 {nm : String} : DLa (mLn nm) 823 2 824 := Or.inl ⟨2, (kL_law_33 (nm := nm)).at 3 rfl, rfl, rfl⟩
theorem dL_law_824 {nm : String} : DLa (mLn nm) 824 0 825 := Or.inl ⟨0, (kL_law_33 (nm := nm)).at 4 rfl, rfl, rfl⟩
theorem dL_law_825 {nm : String} : DLi (mLn nm) 825 3 826 := Or.inl ⟨3, (kL_law_33 (nm := nm)).at 5 rfl, rfl, rfl⟩
theorem dL_law_826 {nm : String} : DC (mLn nm) 826 1 827 := Or.inl ⟨1, (kL_law_33 (nm := nm)).at 6 rfl, by decide, rfl⟩
theorem dL_law_827 {nm : String} : DI (mLn nm) 827 (.iadd) 1 828 := ⟨(kL_law_33 (nm := nm)).at 7 rfl, rfl⟩
theorem dL_law_828 {nm : String} : DI (mLn nm) 828 (.iaload) 1 829 := ⟨(kL_law_33 (nm := nm)).at 8 rfl, rfl⟩
theorem dL_law_829 {nm : String} : DLa (mLn nm) 829 0 830 := Or.inl ⟨0, (kL_law_33 (nm := nm)).at 9 rfl, rfl, rfl⟩
theorem dL_law_830 {nm : String} : DLi (mLn nm) 830 3 831 := Or.inl ⟨3, (kL_law_33 (nm := nm)).at 10 rfl, rfl, rfl⟩
theorem dL_law_831 {nm : String} : DC (mLn nm) 831 2 832 := Or.inl ⟨2, (kL_law_33 (nm := nm)).at 11 rfl, by decide, rfl⟩
theorem dL_law_832 {nm : String} : DI (mLn nm) 832 (.iadd) 1 833 := ⟨(kL_law_33 (nm := nm)).at 12 rfl, rfl⟩
theorem dL_law_833 {nm : String} : DI (mLn nm) 833 (.iaload) 1 834 := ⟨(kL_law_33 (nm := nm)).at 13 rfl, rfl⟩
theorem dL_law_834 {nm : String} : DI (mLn nm) 834 (.invokevirtual 95) 3 837 := ⟨(kL_law_33 (nm := nm)).at 14 rfl, rfl⟩
theorem dL_law_837 {nm : String} : DI (mLn nm) 837 (.pop) 1 838 := ⟨(kL_law_33 (nm := nm)).at 15 rfl, rfl⟩
theorem dL_law_838 {nm : String} : DB (mLn nm) 838 (.goto (633)) (633) 841 1471 := ⟨(kL_law_34 (nm := nm)).at 0 rfl, rfl, rfl⟩
theorem dL_law_841 {nm : String} : DLa (mLn nm) 841 1 842 := Or.inl ⟨1, (kL_law_34 (nm := nm)).at 1 rfl, rfl, rfl⟩
theorem dL_law_842 {nm : String} : DLa (mLn nm) 842 0 843 := Or.inl ⟨0, (kL_law_34 (nm := nm)).at 2 rfl, rfl, rfl⟩
theorem dL_law_843 {nm : String} : DLi (mLn nm) 843 3 844 := Or.inl ⟨3, (kL_law_34 (nm := nm)).at 3 rfl, rfl, rfl⟩
theorem dL_law_844 {nm : String} : DC (mLn nm) 844 1 845 := Or.inl ⟨1, (kL_law_34 (nm := nm)).at 4 rfl, by decide, rfl⟩
theorem dL_law_845 {nm : String} : DI (mLn nm) 845 (.iadd) 1 846 := ⟨(kL_law_34 (nm := nm)).at 5 rfl, rfl⟩
theorem dL_law_846 {nm : String} : DI (mLn nm) 846 (.iaload) 1 847 := ⟨(kL_law_34 (nm := nm)).at 6 rfl, rfl⟩
theorem dL_law_847 {nm : String} : DLa (mLn nm) 847 0 848 := Or.inl ⟨0, (kL_law_34 (nm := nm)).at 7 rfl, rfl, rfl⟩
theorem dL_law_848 {nm : String} : DLi (mLn nm) 848 3 849 := Or.inl ⟨3, (kL_law_34 (nm := nm)).at 8 rfl, rfl, rfl⟩
theorem dL_law_849 {nm : String} : DC (mLn nm) 849 2 850 := Or.inl ⟨2, (kL_law_34 (nm := nm)).at 9 rfl, by decide, rfl⟩
theorem dL_law_850 {nm : String} : DI (mLn nm) 850 (.iadd) 1 851 := ⟨(kL_law_34 (nm := nm)).at 10 rfl, rfl⟩
theorem dL_law_851 {nm : String} : DI (mLn nm) 851 (.iaload) 1 852 := ⟨(kL_law_34 (nm := nm)).at 11 rfl, rfl⟩
theorem dL_law_852 {nm : String} : DI (mLn nm) 852 (.invokevirtual 96) 3 855 := ⟨(kL_law_34 (nm := nm)).at 12 rfl, rfl⟩
theorem dL_law_855 {nm : String} : DI (mLn nm) 855 (.pop2) 1 856 := ⟨(kL_law_34 (nm := nm)).at 13 rfl, rfl⟩
theorem dL_law_856 {nm : String} : DLa (mLn nm) 856 2 857 := Or.inl ⟨2, (kL_law_34 (nm := nm)).at 14 rfl, rfl, rfl⟩
theorem dL_law_857 {nm : String} : DLa (mLn nm) 857 0 858 := Or.inl ⟨0, (kL_law_34 (nm := nm)).at 15 rfl, rfl, rfl⟩
theorem dL_law_858 {nm : String} : DLi (mLn nm) 858 3 859 := Or.inl ⟨3, (kL_law_35 (nm := nm)).at 0 rfl, rfl, rfl⟩
theorem dL_law_859 {nm : String} : DC (mLn nm) 859 1 860 := Or.inl ⟨1, (kL_law_35 (nm := nm)).at 1 rfl, by decide, rfl⟩
theorem dL_law_860 {nm : String} : DI (mLn nm) 860 (.iadd) 1 861 := ⟨(kL_law_35 (nm := nm)).at 2 rfl, rfl⟩
theorem dL_law_861 {nm : String} : DI (mLn nm) 861 (.iaload) 1 862 := ⟨(kL_law_35 (nm := nm)).at 3 rfl, rfl⟩
theorem dL_law_862 {nm : String} : DLa (mLn nm) 862 0 863 := Or.inl ⟨0, (kL_law_35 (nm := nm)).at 4 rfl, rfl, rfl⟩
theorem dL_law_863 {nm : String} : DLi (mLn nm) 863 3 864 := Or.inl ⟨3, (kL_law_35 (nm := nm)).at 5 rfl, rfl, rfl⟩
theorem dL_law_864 {nm : String} : DC (mLn nm) 864 2 865 := Or.inl ⟨2, (kL_law_35 (nm := nm)).at 6 rfl, by decide, rfl⟩
theorem dL_law_865 {nm : String} : DI (mLn nm) 865 (.iadd) 1 866 := ⟨(kL_law_35 (nm := nm)).at 7 rfl, rfl⟩
theorem dL_law_866 {nm : String} : DI (mLn nm) 866 (.iaload) 1 867 := ⟨(kL_law_35 (nm := nm)).at 8 rfl, rfl⟩
theorem dL_law_867 {nm : String} : DI (mLn nm) 867 (.invokevirtual 99) 3 870 := ⟨(kL_law_35 (nm := nm)).at 9 rfl, rfl⟩
theorem dL_law_870 {nm : String} : DI (mLn nm) 870 (.pop2) 1 871 := ⟨(kL_law_35 (nm := nm)).at 10 rfl, rfl⟩
theorem dL_law_871 {nm : String} : DB (mLn nm) 871 (.goto (600)) (600) 874 1471 := ⟨(kL_law_35 (nm := nm)).at 11 rfl, rfl, rfl⟩
theorem dL_law_874 {nm : String} : DLa (mLn nm) 874 1 875 := Or.inl ⟨1, (kL_law_35 (nm := nm)).at 12 rfl, rfl, rfl⟩
theorem dL_law_875 {nm : String} : DLa (mLn nm) 875 0 876 := Or.inl ⟨0, (kL_law_35 (nm := nm)).at 13 rfl, rfl, rfl⟩
theorem dL_law_876 {nm : String} : DLi (mLn nm) 876 3 877 := Or.inl ⟨3, (kL_law_35 (nm := nm)).at 14 rfl, rfl, rfl⟩
theorem dL_law_877 {nm : String} : DC (mLn nm) 877 1 878 := Or.inl ⟨1, (kL_law_35 (nm := nm)).at 15 rfl, by decide, rfl⟩
theorem dL_law_878 {nm : String} : DI (mLn nm) 878 (.iadd) 1 879 := ⟨(kL_law_36 (nm := nm)).at 0 rfl, rfl⟩
theorem dL_law_879 {nm : String} : DI (mLn nm) 879 (.iaload) 1 880 := ⟨(kL_law_36 (nm := nm)).at 1 rfl, rfl⟩
theorem dL_law_880 {nm : String} : DLa (mLn nm) 880 0 881 := Or.inl ⟨0, (kL_law_36 (nm := nm)).at 2 rfl, rfl, rfl⟩
theorem dL_law_881 {nm : String} : DLi (mLn nm) 881 3 882 := Or.inl ⟨3, (kL_law_36 (nm := nm)).at 3 rfl, rfl, rfl⟩
theorem dL_law_882 {nm : String} : DC (mLn nm) 882 2 883 := Or.inl ⟨2, (kL_law_36 (nm := nm)).at 4 rfl, by decide, rfl⟩
theorem dL_law_883 {nm : String} : DI (mLn nm) 883 (.iadd) 1 884 := ⟨(kL_law_36 (nm := nm)).at 5 rfl, rfl⟩
theorem dL_law_884 {nm : String} : DI (mLn nm) 884 (.iaload) 1 885 := ⟨(kL_law_36 (nm := nm)).at 6 rfl, rfl⟩
theorem dL_law_885 {nm : String} : DLa (mLn nm) 885 0 886 := Or.inl ⟨0, (kL_law_36 (nm := nm)).at 7 rfl, rfl, rfl⟩
theorem dL_law_886 {nm : String} : DLi (mLn nm) 886 3 887 := Or.inl ⟨3, (kL_law_36 (nm := nm)).at 8 rfl, rfl, rfl⟩
theorem dL_law_887 {nm : String} : DC (mLn nm) 887 3 888 := Or.inl ⟨3, (kL_law_36 (nm := nm)).at 9 rfl, by decide, rfl⟩
theorem dL_law_888 {nm : String} : DI (mLn nm) 888 (.iadd) 1 889 := ⟨(kL_law_36 (nm := nm)).at 10 rfl, rfl⟩
theorem dL_law_889 {nm : String} : DI (mLn nm) 889 (.iaload) 1 890 := ⟨(kL_law_36 (nm := nm)).at 11 rfl, rfl⟩
theorem dL_law_890 {nm : String} : DI (mLn nm) 890 (.invokevirtual 100) 3 893 := ⟨(kL_law_36 (nm := nm)).at 12 rfl, rfl⟩
theorem dL_law_893 {nm : String} : DI (mLn nm) 893 (.pop) 1 894 := ⟨(kL_law_36 (nm := nm)).at 13 rfl, rfl⟩
theorem dL_law_894 {nm : String} : DLa (mLn nm) 894 2 895 := Or.inl ⟨2, (kL_law_36 (nm := nm)).at 14 rfl, rfl, rfl⟩
theorem dL_law_895 {nm : String} : DLa (mLn nm) 895 0 896 := Or.inl ⟨0, (kL_law_36 (nm := nm)).at 15 rfl, rfl, rfl⟩
theorem dL_law_896 {nm : String} : DLi (mLn nm) 896 3 897 := Or.inl ⟨3, (kL_law_37 (nm := nm)).at 0 rfl, rfl, rfl⟩
theorem dL_law_897 {nm : String} : DC (mLn nm) 897 1 898 := Or.inl ⟨1, (kL_law_37 (nm := nm)).at 1 rfl, by decide, rfl⟩
theorem dL_law_898 {nm : String} : DI (mLn nm) 898 (.iadd) 1 899 := ⟨(kL_law_37 (nm := nm)).at 2 rfl, rfl⟩
theorem dL_law_899 {nm : String} : DI (mLn nm) 899 (.iaload) 1 900 := ⟨(kL_law_37 (nm := nm)).at 3 rfl, rfl⟩
theorem dL_law_900 {nm : String} : DLa (mLn nm) 900 0 901 := Or.inl ⟨0, (kL_law_37 (nm := nm)).at 4 rfl, rfl, rfl⟩
theorem dL_law_901 {nm : String} : DLi (mLn nm) 901 3 902 := Or.inl ⟨3, (kL_law_37 (nm := nm)).at 5 rfl, rfl, rfl⟩
theorem dL_law_902 {nm : String} : DC (mLn nm) 902 2 903 := Or.inl ⟨2, (kL_law_37 (nm := nm)).at 6 rfl, by decide, rfl⟩
theorem dL_law_903 {nm : String} : DI (mLn nm) 903 (.iadd) 1 904 := ⟨(kL_law_37 (nm := nm)).at 7 rfl, rfl⟩
theorem dL_law_904 {nm : String} : DI (mLn nm) 904 (.iaload) 1 905 := ⟨(kL_law_37 (nm := nm)).at 8 rfl, rfl⟩
theorem dL_law_905 {nm : String} : DLa (mLn nm) 905 0 906 := Or.inl ⟨0, (kL_law_37 (nm := nm)).at 9 rfl, rfl, rfl⟩
theorem dL_law_906 {nm : String} : DLi (mLn nm) 906 3 907 := Or.inl ⟨3, (kL_law_37 (nm := nm)).at 10 rfl, rfl, rfl⟩
theorem dL_law_907 {nm : String} : DC (mLn nm) 907 3 908 := Or.inl ⟨3, (kL_law_37 (nm := nm)).at 11 rfl, by decide, rfl⟩
theorem dL_law_908 {nm : String} : DI (mLn nm) 908 (.iadd) 1 909 := ⟨(kL_law_37 (nm := nm)).at 12 rfl, rfl⟩
theorem dL_law_909 {nm : String} : DI (mLn nm) 909 (.iaload) 1 910 := ⟨(kL_law_37 (nm := nm)).at 13 rfl, rfl⟩
theorem dL_law_910 {nm : String} : DI (mLn nm) 910 (.invokevirtual 103) 3 913 := ⟨(kL_law_37 (nm := nm)).at 14 rfl, rfl⟩
theorem dL_law_913 {nm : String} : DI (mLn nm) 913 (.pop) 1 914 := ⟨(kL_law_37 (nm := nm)).at 15 rfl, rfl⟩
theorem dL_law_914 {nm : String} : DB (mLn nm) 914 (.goto (557)) (557) 917 1471 := ⟨(kL_law_38 (nm := nm)).at 0 rfl, rfl, rfl⟩
theorem dL_law_917 {nm : String} : DLa (mLn nm) 917 1 918 := Or.inl ⟨1, (kL_law_38 (nm := nm)).at 1 rfl, rfl, rfl⟩
theorem dL_law_918 {nm : String} : DLa (mLn nm) 918 0 919 := Or.inl ⟨0, (kL_law_38 (nm := nm)).at 2 rfl, rfl, rfl⟩
theorem dL_law_919 {nm : String} : DLi (mLn nm) 919 3 920 := Or.inl ⟨3, (kL_law_38 (nm := nm)).at 3 rfl, rfl, rfl⟩
theorem dL_law_920 {nm : String} : DC (mLn nm) 920 1 921 := Or.inl ⟨1, (kL_law_38 (nm := nm)).at 4 rfl, by decide, rfl⟩
theorem dL_law_921 {nm : String} : DI (mLn nm) 921 (.iadd) 1 922 := ⟨(kL_law_38 (nm := nm)).at 5 rfl, rfl⟩
theorem dL_law_922 {nm : String} : DI (mLn nm) 922 (.iaload) 1 923 := ⟨(kL_law_38 (nm := nm)).at 6 rfl, rfl⟩
theorem dL_law_923 {nm : String} : DLa (mLn nm) 923 0 924 := Or.inl ⟨0, (kL_law_38 (nm := nm)).at 7 rfl, rfl, rfl⟩
theorem dL_law_924 {nm : String} : DLi (mLn nm) 924 3 925 := Or.inl ⟨3, (kL_law_38 (nm := nm)).at 8 rfl, rfl, rfl⟩
theorem dL_law_925 {nm : String} : DC (mLn nm) 925 2 926 := Or.inl ⟨2, (kL_law_38 (nm := nm)).at 9 rfl, by decide, rfl⟩
theorem dL_law_926 {nm : String} : DI (mLn nm) 926 (.iadd) 1 927 := ⟨(kL_law_38 (nm := nm)).at 10 rfl, rfl⟩
theorem dL_law_927 {nm : String} : DI (mLn nm) 927 (.iaload) 1 928 := ⟨(kL_law_38 (nm := nm)).at 11 rfl, rfl⟩
theorem dL_law_928 {nm : String} : DLa (mLn nm) 928 0 929 := Or.inl ⟨0, (kL_law_38 (nm := nm)).at 12 rfl, rfl, rfl⟩
theorem dL_law_929 {nm : String} : DLi (mLn nm) 929 3 930 := Or.inl ⟨3, (kL_law_38 (nm := nm)).at 13 rfl, rfl, rfl⟩
theorem dL_law_930 {nm : String} : DC (mLn nm) 930 3 931 := Or.inl ⟨3, (kL_law_38 (nm := nm)).at 14 rfl, by decide, rfl⟩
theorem dL_law_931 {nm : String} : DI (mLn nm) 931 (.iadd) 1 932 := ⟨(kL_law_38 (nm := nm)).at 15 rfl, rfl⟩
theorem dL_law_932 {nm : String} : DI (mLn nm) 932 (.iaload) 1 933 := ⟨(kL_law_39 (nm := nm)).at 0 rfl, rfl⟩
theorem dL_law_933 {nm : String} : DI (mLn nm) 933 (.invokevirtual 104) 3 936 := ⟨(kL_law_39 (nm := nm)).at 1 rfl, rfl⟩
theorem dL_law_936 {nm : String} : DI (mLn nm) 936 (.pop) 1 937 := ⟨(kL_law_39 (nm := nm)).at 2 rfl, rfl⟩
theorem dL_law_937 {nm : String} : DLa (mLn nm) 937 2 938 := Or.inl ⟨2, (kL_law_39 (nm := nm)).at 3 rfl, rfl, rfl⟩
theorem dL_law_938 {nm : String} : DLa (mLn nm) 938 0 939 := Or.inl ⟨0, (kL_law_39 (nm := nm)).at 4 rfl, rfl, rfl⟩
theorem dL_law_939 {nm : String} : DLi (mLn nm) 939 3 940 := Or.inl ⟨3, (kL_law_39 (nm := nm)).at 5 rfl, rfl, rfl⟩
theorem dL_law_940 {nm : String} : DC (mLn nm) 940 1 941 := Or.inl ⟨1, (kL_law_39 (nm := nm)).at 6 rfl, by decide, rfl⟩
theorem dL_law_941 {nm : String} : DI (mLn nm) 941 (.iadd) 1 942 := ⟨(kL_law_39 (nm := nm)).at 7 rfl, rfl⟩
theorem dL_law_942 {nm : String} : DI (mLn nm) 942 (.iaload) 1 943 := ⟨(kL_law_39 (nm := nm)).at 8 rfl, rfl⟩
theorem dL_law_943 {nm : String} : DLa (mLn nm) 943 0 944 := Or.inl ⟨0, (kL_law_39 (nm := nm)).at 9 rfl, rfl, rfl⟩
theorem dL_law_944 {nm : String} : DLi (mLn nm) 944 3 945 := Or.inl ⟨3, (kL_law_39 (nm := nm)).at 10 rfl, rfl, rfl⟩
theorem dL_law_945 {nm : String} : DC (mLn nm) 945 2 946 := Or.inl ⟨2, (kL_law_39 (nm := nm)).at 11 rfl, by decide, rfl⟩
theorem dL_law_946 {nm : String} : DI (mLn nm) 946 (.iadd) 1 947 := ⟨(kL_law_39 (nm := nm)).at 12 rfl, rfl⟩
theorem dL_law_947 {nm : String} : DI (mLn nm) 947 (.iaload) 1 948 := ⟨(kL_law_39 (nm := nm)).at 13 rfl, rfl⟩
theorem dL_law_948 {nm : String} : DLa (mLn nm) 948 0 949 := Or.inl ⟨0, (kL_law_39 (nm := nm)).at 14 rfl, rfl, rfl⟩
theorem dL_law_949 {nm : String} : DLi (mLn nm) 949 3 950 := Or.inl ⟨3, (kL_law_39 (nm := nm)).at 15 rfl, rfl, rfl⟩
theorem dL_law_950 {nm : String} : DC (mLn nm) 950 3 951 := Or.inl ⟨3, (kL_law_40 (nm := nm)).at 0 rfl, by decide, rfl⟩
theorem dL_law_951 {nm : String} : DI (mLn nm) 951 (.iadd) 1 952 := ⟨(kL_law_40 (nm := nm)).at 1 rfl, rfl⟩
theorem dL_law_952 {nm : String} : DI (mLn nm) 952 (.iaload) 1 953 := ⟨(kL_law_40 (nm := nm)).at 2 rfl, rfl⟩
theorem dL_law_953 {nm : String} : DI (mLn nm) 953 (.invokevirtual 107) 3 956 := ⟨(kL_law_40 (nm := nm)).at 3 rfl, rfl⟩
theorem dL_law_956 {nm : String} : DI (mLn nm) 956 (.pop) 1 957 := ⟨(kL_law_40 (nm := nm)).at 4 rfl, rfl⟩
theorem dL_law_957 {nm : String} : DB (mLn nm) 957 (.goto (514)) (514) 960 1471 := ⟨(kL_law_40 (nm := nm)).at 5 rfl, rfl, rfl⟩
theorem dL_law_960 {nm : String} : DLa (mLn nm) 960 1 961 := Or.inl ⟨1, (kL_law_40 (nm := nm)).at 6 rfl, rfl, rfl⟩
theorem dL_law_961 {nm : String} : DLa (mLn nm) 961 0 962 := Or.inl ⟨0, (kL_law_40 (nm := nm)).at 7 rfl, rfl, rfl⟩
theorem dL_law_962 {nm : String} : DLi (mLn nm) 962 3 963 := Or.inl ⟨3, (kL_law_40 (nm := nm)).at 8 rfl, rfl, rfl⟩
theorem dL_law_963 {nm : String} : DC (mLn nm) 963 1 964 := Or.inl ⟨1, (kL_law_40 (nm := nm)).at 9 rfl, by decide, rfl⟩
theorem dL_law_964 {nm : String} : DI (mLn nm) 964 (.iadd) 1 965 := ⟨(kL_law_40 (nm := nm)).at 10 rfl, rfl⟩
theorem dL_law_965 {nm : String} : DI (mLn nm) 965 (.iaload) 1 966 := ⟨(kL_law_40 (nm := nm)).at 11 rfl, rfl⟩
theorem dL_law_966 {nm : String} : DI (mLn nm) 966 (.invokevirtual 108) 3 969 := ⟨(kL_law_40 (nm := nm)).at 12 rfl, rfl⟩
theorem dL_law_969 {nm : String} : DI (mLn nm) 969 (.pop) 1 970 := ⟨(kL_law_40 (nm := nm)).at 13 rfl, rfl⟩
theorem dL_law_970 {nm : String} : DLa (mLn nm) 970 2 971 := Or.inl ⟨2, (kL_law_40 (nm := nm)).at 14 rfl, rfl, rfl⟩
theorem dL_law_971 {nm : String} : DLa (mLn nm) 971 0 972 := Or.inl ⟨0, (kL_law_40 (nm := nm)).at 15 rfl, rfl, rfl⟩
theorem dL_law_972 {nm : String} : DLi (mLn nm) 972 3 973 := Or.inl ⟨3, (kL_law_41 (nm := nm)).at 0 rfl, rfl, rfl⟩
theorem dL_law_973 {nm : String} : DC (mLn nm) 973 1 974 := Or.inl ⟨1, (kL_law_41 (nm := nm)).at 1 rfl, by decide, rfl⟩
theorem dL_law_974 {nm : String} : DI (mLn nm) 974 (.iadd) 1 975 := ⟨(kL_law_41 (nm := nm)).at 2 rfl, rfl⟩
theorem dL_law_975 {nm : String} : DI (mLn nm) 975 (.iaload) 1 976 := ⟨(kL_law_41 (nm := nm)).at 3 rfl, rfl⟩
theorem dL_law_976 {nm : String} : DI (mLn nm) 976 (.invokevirtual 111) 3 979 := ⟨(kL_law_41 (nm := nm)).at 4 rfl, rfl⟩
theorem dL_law_979 {nm : String} : DI (mLn nm) 979 (.pop) 1 980 := ⟨(kL_law_41 (nm := nm)).at 5 rfl, rfl⟩
theorem dL_law_980 {nm : String} : DB (mLn nm) 980 (.goto (491)) (491) 983 1471 := ⟨(kL_law_41 (nm := nm)).at 6 rfl, rfl, rfl⟩
theorem dL_law_983 {nm : String} : DLa (mLn nm) 983 1 984 := Or.inl ⟨1, (kL_law_41 (nm := nm)).at 7 rfl, rfl, rfl⟩
theorem dL_law_984 {nm : String} : DLa (mLn nm) 984 0 985 := Or.inl ⟨0, (kL_law_41 (nm := nm)).at 8 rfl, rfl, rfl⟩
theorem dL_law_985 {nm : String} : DLi (mLn nm) 985 3 986 := Or.inl ⟨3, (kL_law_41 (nm := nm)).at 9 rfl, rfl, rfl⟩
theorem dL_law_986 {nm : String} : DC (mLn nm) 986 1 987 := Or.inl ⟨1, (kL_law_41 (nm := nm)).at 10 rfl, by decide, rfl⟩
theorem dL_law_987 {nm : String} : DI (mLn nm) 987 (.iadd) 1 988 := ⟨(kL_law_41 (nm := nm)).at 11 rfl, rfl⟩
theorem dL_law_988 {nm : String} : DI (mLn nm) 988 (.iaload) 1 989 := ⟨(kL_law_41 (nm := nm)).at 12 rfl, rfl⟩
theorem dL_law_989 {nm : String} : DI (mLn nm) 989 (.invokevirtual 112) 3 992 := ⟨(kL_law_41 (nm := nm)).at 13 rfl, rfl⟩
theorem dL_law_992 {nm : String} : DI (mLn nm) 992 (.pop) 1 993 := ⟨(kL_law_41 (nm := nm)).at 14 rfl, rfl⟩
theorem dL_law_993 {nm : String} : DLa (mLn nm) 993 2 994 := Or.inl ⟨2, (kL_law_41 (nm := nm)).at 15 rfl, rfl, rfl⟩
theorem dL_law_994 {nm : String} : DLa (mLn nm) 994 0 995 := Or.inl ⟨0, (kL_law_42 (nm := nm)).at 0 rfl, rfl, rfl⟩
theorem dL_law_995 {nm : String} : DLi (mLn nm) 995 3 996 := Or.inl ⟨3, (kL_law_42 (nm := nm)).at 1 rfl, rfl, rfl⟩
theorem dL_law_996 {nm : String} : DC (mLn nm) 996 1 997 := Or.inl ⟨1, (kL_law_42 (nm := nm)).at 2 rfl, by decide, rfl⟩
theorem dL_law_997 {nm : String} : DI (mLn nm) 997 (.iadd) 1 998 := ⟨(kL_law_42 (nm := nm)).at 3 rfl, rfl⟩
theorem dL_law_998 {nm : String} : DI (mLn nm) 998 (.iaload) 1 999 := ⟨(kL_law_42 (nm := nm)).at 4 rfl, rfl⟩
theorem dL_law_999 {nm : String} : DI (mLn nm) 999 (.invokevirtual 115) 3 1002 := ⟨(kL_law_42 (nm := nm)).at 5 rfl, rfl⟩
theorem dL_law_1002 {nm : String} : DI (mLn nm) 1002 (.pop) 1 1003 := ⟨(kL_law_42 (nm := nm)).at 6 rfl, rfl⟩
theorem dL_law_1003 {nm : String} : DB (mLn nm) 1003 (.goto (468)) (468) 1006 1471 := ⟨(kL_law_42 (nm := nm)).at 7 rfl, rfl, rfl⟩
theorem dL_law_1006 {nm : String} : DLa (mLn nm) 1006 1 1007 := Or.inl ⟨1, (kL_law_42 (nm := nm)).at 8 rfl, rfl, rfl⟩
theorem dL_law_1007 {nm : String} : DLa (mLn nm) 1007 0 1008 := Or.inl ⟨0, (kL_law_42 (nm := nm)).at 9 rfl, rfl, rfl⟩
theorem dL_law_1008 {nm : String} : DLi (mLn nm) 1008 3 1009 := Or.inl ⟨3, (kL_law_42 (nm := nm)).at 10 rfl, rfl, rfl⟩
theorem dL_law_1009 {nm : String} : DC (mLn nm) 1009 1 1010 := Or.inl ⟨1, (kL_law_42 (nm := nm)).at 11 rfl, by decide, rfl⟩
theorem dL_law_1010 {nm : String} : DI (mLn nm) 1010 (.iadd) 1 1011 := ⟨(kL_law_42 (nm := nm)).at 12 rfl, rfl⟩
theorem dL_law_1011 {nm : String} : DI (mLn nm) 1011 (.iaload) 1 1012 := ⟨(kL_law_42 (nm := nm)).at 13 rfl, rfl⟩
theorem dL_law_1012 {nm : String} : DI (mLn nm) 1012 (.invokevirtual 116) 3 1015 := ⟨(kL_law_42 (nm := nm)).at 14 rfl, rfl⟩
theorem dL_law_1015 {nm : String} : DI (mLn nm) 1015 (.pop) 1 1016 := ⟨(kL_law_42 (nm := nm)).at 15 rfl, rfl⟩
theorem dL_law_1016 {nm : String} : DLa (mLn nm) 1016 2 1017 := Or.inl ⟨2, (kL_law_43 (nm := nm)).at 0 rfl, rfl, rfl⟩
theorem dL_law_1017 {nm : String} : DLa (mLn nm) 1017 0 1018 := Or.inl ⟨0, (kL_law_43 (nm := nm)).at 1 rfl, rfl, rfl⟩
theorem dL_law_1018 {nm : String} : DLi (mLn nm) 1018 3 1019 := Or.inl ⟨3, (kL_law_43 (nm := nm)).at 2 rfl, rfl, rfl⟩
theorem dL_law_1019 {nm : String} : DC (mLn nm) 1019 1 1020 := Or.inl ⟨1, (kL_law_43 (nm := nm)).at 3 rfl, by decide, rfl⟩
theorem dL_law_1020 {nm : String} : DI (mLn nm) 1020 (.iadd) 1 1021 := ⟨(kL_law_43 (nm := nm)).at 4 rfl, rfl⟩
theorem dL_law_1021 {nm : String} : DI (mLn nm) 1021 (.iaload) 1 1022 := ⟨(kL_law_43 (nm := nm)).at 5 rfl, rfl⟩
theorem dL_law_1022 {nm : String} : DI (mLn nm) 1022 (.invokevirtual 119) 3 1025 := ⟨(kL_law_43 (nm := nm)).at 6 rfl, rfl⟩
theorem dL_law_1025 {nm : String} : DI (mLn nm) 1025 (.pop) 1 1026 := ⟨(kL_law_43 (nm := nm)).at 7 rfl, rfl⟩
theorem dL_law_1026 {nm : String} : DB (mLn nm) 1026 (.goto (445)) (445) 1029 1471 := ⟨(kL_law_43 (nm := nm)).at 8 rfl, rfl, rfl⟩
theorem dL_law_1029 {nm : String} : DLa (mLn nm) 1029 1 1030 := Or.inl ⟨1, (kL_law_43 (nm := nm)).at 9 rfl, rfl, rfl⟩
theorem dL_law_1030 {nm : String} : DI (mLn nm) 1030 (.invokevirtual 120) 3 1033 := ⟨(kL_law_43 (nm := nm)).at 10 rfl, rfl⟩
theorem dL_law_1033 {nm : String} : DI (mLn nm) 1033 (.pop) 1 1034 := ⟨(kL_law_43 (nm := nm)).at 11 rfl, rfl⟩
theorem dL_law_1034 {nm : String} : DLa (mLn nm) 1034 2 1035 := Or.inl ⟨2, (kL_law_43 (nm := nm)).at 12 rfl, rfl, rfl⟩
theorem dL_law_1035 {nm : String} : DI (mLn nm) 1035 (.invokevirtual 123) 3 1038 := ⟨(kL_law_43 (nm := nm)).at 13 rfl, rfl⟩
theorem dL_law_1038 {nm : String} : DI (mLn nm) 1038 (.pop) 1 1039 := ⟨(kL_law_43 (nm := nm)).at 14 rfl, rfl⟩
theorem dL_law_1039 {nm : String} : DB (mLn nm) 1039 (.goto (432)) (432) 1042 1471 := ⟨(kL_law_43 (nm := nm)).at 15 rfl, rfl, rfl⟩
theorem dL_law_1042 {nm : String} : DLa (mLn nm) 1042 1 1043 := Or.inl ⟨1, (kL_law_44 (nm := nm)).at 0 rfl, rfl, rfl⟩
theorem dL_law_1043 {nm : String} : DI (mLn nm) 1043 (.invokevirtual 124) 3 1046 := ⟨(kL_law_44 (nm := nm)).at 1 rfl, rfl⟩
theorem dL_law_1046 {nm : String} : DI (mLn nm) 1046 (.pop) 1 1047 := ⟨(kL_law_44 (nm := nm)).at 2 rfl, rfl⟩
theorem dL_law_1047 {nm : String} : DLa (mLn nm) 1047 2 1048 := Or.inl ⟨2, (kL_law_44 (nm := nm)).at 3 rfl, rfl, rfl⟩
theorem dL_law_1048 {nm : String} : DI (mLn nm) 1048 (.invokevirtual 127) 3 1051 := ⟨(kL_law_44 (nm := nm)).at 4 rfl, rfl⟩
theorem dL_law_1051 {nm : String} : DI (mLn nm) 1051 (.pop) 1 1052 := ⟨(kL_law_44 (nm := nm)).at 5 rfl, rfl⟩
theorem dL_law_1052 {nm : String} : DB (mLn nm) 1052 (.goto (419)) (419) 1055 1471 := ⟨(kL_law_44 (nm := nm)).at 6 rfl, rfl, rfl⟩
theorem dL_law_1055 {nm : String} : DLa (mLn nm) 1055 1 1056 := Or.inl ⟨1, (kL_law_44 (nm := nm)).at 7 rfl, rfl, rfl⟩
theorem dL_law_1056 {nm : String} : DI (mLn nm) 1056 (.invokevirtual 128) 3 1059 := ⟨(kL_law_44 (nm := nm)).at 8 rfl, rfl⟩
theorem dL_law_1059 {nm : String} : DI (mLn nm) 1059 (.pop) 1 1060 := ⟨(kL_law_44 (nm := nm)).at 9 rfl, rfl⟩
theorem dL_law_1060 {nm : String} : DLa (mLn nm) 1060 2 1061 := Or.inl ⟨2, (kL_law_44 (nm := nm)).at 10 rfl, rfl, rfl⟩
theorem dL_law_1061 {nm : String} : DI (mLn nm) 1061 (.invokevirtual 131) 3 1064 := ⟨(kL_law_44 (nm := nm)).at 11 rfl, rfl⟩
theorem dL_law_1064 {nm : String} : DI (mLn nm) 1064 (.pop) 1 1065 := ⟨(kL_law_44 (nm := nm)).at 12 rfl, rfl⟩
theorem dL_law_1065 {nm : String} : DB (mLn nm) 1065 (.goto (406)) (406) 1068 1471 := ⟨(kL_law_44 (nm := nm)).at 13 rfl, rfl, rfl⟩
theorem dL_law_1068 {nm : String} : DLa (mLn nm) 1068 1 1069 := Or.inl ⟨1, (kL_law_44 (nm := nm)).at 14 rfl, rfl, rfl⟩
theorem dL_law_1069 {nm : String} : DI (mLn nm) 1069 (.invokevirtual 132) 3 1072 := ⟨(kL_law_44 (nm := nm)).at 15 rfl, rfl⟩
theorem dL_law_1072 {nm : String} : DI (mLn nm) 1072 (.pop) 1 1073 := ⟨(kL_law_45 (nm := nm)).at 0 rfl, rfl⟩
theorem dL_law_1073 {nm : String} : DLa (mLn nm) 1073 2 1074 := Or.inl ⟨2, (kL_law_45 (nm := nm)).at 1 rfl, rfl, rfl⟩
theorem dL_law_1074 {nm : String} : DI (mLn nm) 1074 (.invokevirtual 135) 3 1077 := ⟨(kL_law_45 (nm := nm)).at 2 rfl, rfl⟩
theorem dL_law_1077 {nm : String} : DI (mLn nm) 1077 (.pop) 1 1078 := ⟨(kL_law_45 (nm := nm)).at 3 rfl, rfl⟩
theorem dL_law_1078 {nm : String} : DB (mLn nm) 1078 (.goto (393)) (393) 1081 1471 := ⟨(kL_law_45 (nm := nm)).at 4 rfl, rfl, rfl⟩
theorem dL_law_1081 {nm : String} : DLa (mLn nm) 1081 1 1082 := Or.inl ⟨1, (kL_law_45 (nm := nm)).at 5 rfl, rfl, rfl⟩
theorem dL_law_1082 {nm : String} : DLa (mLn nm) 1082 0 1083 := Or.inl ⟨0, (kL_law_45 (nm := nm)).at 6 rfl, rfl, rfl⟩
theorem dL_law_1083 {nm : String} : DLi (mLn nm) 1083 3 1084 := Or.inl ⟨3, (kL_law_45 (nm := nm)).at 7 rfl, rfl, rfl⟩
theorem dL_law_1084 {nm : String} : DC (mLn nm) 1084 1 1085 := Or.inl ⟨1, (kL_law_45 (nm := nm)).at 8 rfl, by decide, rfl⟩
theorem dL_law_1085 {nm : String} : DI (mLn nm) 1085 (.iadd) 1 1086 := ⟨(kL_law_45 (nm := nm)).at 9 rfl, rfl⟩
theorem dL_law_1086 {nm : String} : DI (mLn nm) 1086 (.iaload) 1 1087 := ⟨(kL_law_45 (nm := nm)).at 10 rfl, rfl⟩
theorem dL_law_1087 {nm : String} : DI (mLn nm) 1087 (.invokevirtual 136) 3 1090 := ⟨(kL_law_45 (nm := nm)).at 11 rfl, rfl⟩
theorem dL_law_1090 {nm : String} : DI (mLn nm) 1090 (.pop) 1 1091 := ⟨(kL_law_45 (nm := nm)).at 12 rfl, rfl⟩
theorem dL_law_1091 {nm : String} : DLa (mLn nm) 1091 2 1092 := Or.inl ⟨2, (kL_law_45 (nm := nm)).at 13 rfl, rfl, rfl⟩
theorem dL_law_1092 {nm : String} : DLa (mLn nm) 1092 0 1093 := Or.inl ⟨0, (kL_law_45 (nm := nm)).at 14 rfl, rfl, rfl⟩
theorem dL_law_1093 {nm : String} : DLi (mLn nm) 1093 3 1094 := Or.inl ⟨3, (kL_law_45 (nm := nm)).at 15 rfl, rfl, rfl⟩
theorem dL_law_1094 {nm : String} : DC (mLn nm) 1094 1 1095 := Or.inl ⟨1, (kL_law_46 (nm := nm)).at 0 rfl, by decide, rfl⟩
theorem dL_law_1095 {nm : String} : DI (mLn nm) 1095 (.iadd) 1 1096 := ⟨(kL_law_46 (nm := nm)).at 1 rfl, rfl⟩
theorem dL_law_1096 {nm : String} : DI (mLn nm) 1096 (.iaload) 1 1097 := ⟨(kL_law_46 (nm := nm)).at 2 rfl, rfl⟩
theorem dL_law_1097 {nm : String} : DI (mLn nm) 1097 (.invokevirtual 139) 3 1100 := ⟨(kL_law_46 (nm := nm)).at 3 rfl, rfl⟩
theorem dL_law_1100 {nm : String} : DI (mLn nm) 1100 (.pop) 1 1101 := ⟨(kL_law_46 (nm := nm)).at 4 rfl, rfl⟩
theorem dL_law_1101 {nm : String} : DB (mLn nm) 1101 (.goto (370)) (370) 1104 1471 := ⟨(kL_law_46 (nm := nm)).at 5 rfl, rfl, rfl⟩
theorem dL_law_1104 {nm : String} : DLa (mLn nm) 1104 1 1105 := Or.inl ⟨1, (kL_law_46 (nm := nm)).at 6 rfl, rfl, rfl⟩
theorem dL_law_1105 {nm : String} : DLa (mLn nm) 1105 0 1106 := Or.inl ⟨0, (kL_law_46 (nm := nm)).at 7 rfl, rfl, rfl⟩
theorem dL_law_1106 {nm : String} : DLi (mLn nm) 1106 3 1107 := Or.inl ⟨3, (kL_law_46 (nm := nm)).at 8 rfl, rfl, rfl⟩
theorem dL_law_1107 {nm : String} : DC (mLn nm) 1107 1 1108 := Or.inl ⟨1, (kL_law_46 (nm := nm)).at 9 rfl, by decide, rfl⟩
theorem dL_law_1108 {nm : String} : DI (mLn nm) 1108 (.iadd) 1 1109 := ⟨(kL_law_46 (nm := nm)).at 10 rfl, rfl⟩
theorem dL_law_1109 {nm : String} : DI (mLn nm) 1109 (.iaload) 1 1110 := ⟨(kL_law_46 (nm := nm)).at 11 rfl, rfl⟩
theorem dL_law_1110 {nm : String} : DLa (mLn nm) 1110 0 1111 := Or.inl ⟨0, (kL_law_46 (nm := nm)).at 12 rfl, rfl, rfl⟩
theorem dL_law_1111 {nm : String} : DLi (mLn nm) 1111 3 1112 := Or.inl ⟨3, (kL_law_46 (nm := nm)).at 13 rfl, rfl, rfl⟩
theorem dL_law_1112 {nm : String} : DC (mLn nm) 1112 2 1113 := Or.inl ⟨2, (kL_law_46 (nm := nm)).at 14 rfl, by decide, rfl⟩
theorem dL_law_1113 {nm : String} : DI (mLn nm) 1113 (.iadd) 1 1114 := ⟨(kL_law_46 (nm := nm)).at 15 rfl, rfl⟩
theorem dL_law_1114 {nm : String} : DI (mLn nm) 1114 (.iaload) 1 1115 := ⟨(kL_law_47 (nm := nm)).at 0 rfl, rfl⟩
theorem dL_law_1115 {nm : String} : DLa (mLn nm) 1115 0 1116 := Or.inl ⟨0, (kL_law_47 (nm := nm)).at 1 rfl, rfl, rfl⟩
theorem dL_law_1116 {nm : String} : DLi (mLn nm) 1116 3 1117 := Or.inl ⟨3, (kL_law_47 (nm := nm)).at 2 rfl, rfl, rfl⟩
theorem dL_law_1117 {nm : String} : DC (mLn nm) 1117 3 1118 := Or.inl ⟨3, (kL_law_47 (nm := nm)).at 3 rfl, by decide, rfl⟩
theorem dL_law_1118 {nm : String} : DI (mLn nm) 1118 (.iadd) 1 1119 := ⟨(kL_law_47 (nm := nm)).at 4 rfl, rfl⟩
theorem dL_law_1119 {nm : String} : DI (mLn nm) 1119 (.iaload) 1 1120 := ⟨(kL_law_47 (nm := nm)).at 5 rfl, rfl⟩
theorem dL_law_1120 {nm : String} : DI (mLn nm) 1120 (.invokevirtual 140) 3 1123 := ⟨(kL_law_47 (nm := nm)).at 6 rfl, rfl⟩
theorem dL_law_1123 {nm : String} : DI (mLn nm) 1123 (.pop) 1 1124 := ⟨(kL_law_47 (nm := nm)).at 7 rfl, rfl⟩
theorem dL_law_1124 {nm : String} : DLa (mLn nm) 1124 2 1125 := Or.inl ⟨2, (kL_law_47 (nm := nm)).at 8 rfl, rfl, rfl⟩
theorem dL_law_1125 {nm : String} : DLa (mLn nm) 1125 0 1126 := Or.inl ⟨0, (kL_law_47 (nm := nm)).at 9 rfl, rfl, rfl⟩
theorem dL_law_1126 {nm : String} : DLi (mLn nm) 1126 3 1127 := Or.inl ⟨3, (kL_law_47 (nm := nm)).at 10 rfl, rfl, rfl⟩
theorem dL_law_1127 {nm : String} : DC (mLn nm) 1127 1 1128 := Or.inl ⟨1, (kL_law_47 (nm := nm)).at 11 rfl, by decide, rfl⟩
theorem dL_law_1128 {nm : String} : DI (mLn nm) 1128 (.iadd) 1 1129 := ⟨(kL_law_47 (nm := nm)).at 12 rfl, rfl⟩
theorem dL_law_1129 {nm : String} : DI (mLn nm) 1129 (.iaload) 1 1130 := ⟨(kL_law_47 (nm := nm)).at 13 rfl, rfl⟩
theorem dL_law_1130 {nm : String} : DLa (mLn nm) 1130 0 1131 := Or.inl ⟨0, (kL_law_47 (nm := nm)).at 14 rfl, rfl, rfl⟩
theorem dL_law_1131 {nm : String} : DLi (mLn nm) 1131 3 1132 := Or.inl ⟨3, (kL_law_47 (nm := nm)).at 15 rfl, rfl, rfl⟩
theorem dL_law_1132 {nm : String} : DC (mLn nm) 1132 2 1133 := Or.inl ⟨2, (kL_law_48 (nm := nm)).at 0 rfl, by decide, rfl⟩
theorem dL_law_1133 {nm : String} : DI (mLn nm) 1133 (.iadd) 1 1134 := ⟨(kL_law_48 (nm := nm)).at 1 rfl, rfl⟩
theorem dL_law_1134 {nm : String} : DI (mLn nm) 1134 (.iaload) 1 1135 := ⟨(kL_law_48 (nm := nm)).at 2 rfl, rfl⟩
theorem dL_law_1135 {nm : String} : DLa (mLn nm) 1135 0 1136 := Or.inl ⟨0, (kL_law_48 (nm := nm)).at 3 rfl, rfl, rfl⟩
theorem dL_law_1136 {nm : String} : DLi (mLn nm) 1136 3 1137 := Or.inl ⟨3, (kL_law_48 (nm := nm)).at 4 rfl, rfl, rfl⟩
theorem dL_law_1137 {nm : String} : DC (mLn nm) 1137 3 1138 := Or.inl ⟨3, (kL_law_48 (nm := nm)).at 5 rfl, by decide, rfl⟩
theorem dL_law_1138 {nm : String} : DI (mLn nm) 1138 (.iadd) 1 1139 := ⟨(kL_law_48 (nm := nm)).at 6 rfl, rfl⟩
theorem dL_law_1139 {nm : String} : DI (mLn nm) 1139 (.iaload) 1 1140 := ⟨(kL_law_48 (nm := nm)).at 7 rfl, rfl⟩
theorem dL_law_1140 {nm : String} : DI (mLn nm) 1140 (.invokevirtual 143) 3 1143 := ⟨(kL_law_48 (nm := nm)).at 8 rfl, rfl⟩
theorem dL_law_1143 {nm : String} : DI (mLn nm) 1143 (.pop) 1 1144 := ⟨(kL_law_48 (nm := nm)).at 9 rfl, rfl⟩
theorem dL_law_1144 {nm : String} : DB (mLn nm) 1144 (.goto (327)) (327) 1147 1471 := ⟨(kL_law_48 (nm := nm)).at 10 rfl, rfl, rfl⟩
theorem dL_law_1147 {nm : String} : DLa (mLn nm) 1147 1 1148 := Or.inl ⟨1, (kL_law_48 (nm := nm)).at 11 rfl, rfl, rfl⟩
theorem dL_law_1148 {nm : String} : DLa (mLn nm) 1148 0 1149 := Or.inl ⟨0, (kL_law_48 (nm := nm)).at 12 rfl, rfl, rfl⟩
theorem dL_law_1149 {nm : String} : DLi (mLn nm) 1149 3 1150 := Or.inl ⟨3, (kL_law_48 (nm := nm)).at 13 rfl, rfl, rfl⟩
theorem dL_law_1150 {nm : String} : DC (mLn nm) 1150 1 1151 := Or.inl ⟨1, (kL_law_48 (nm := nm)).at 14 rfl, by decide, rfl⟩
theorem dL_law_1151 {nm : String} : DI (mLn nm) 1151 (.iadd) 1 1152 := ⟨(kL_law_48 (nm := nm)).at 15 rfl, rfl⟩
theorem dL_law_1152 {nm : String} : DI (mLn nm) 1152 (.iaload) 1 1153 := ⟨(kL_law_49 (nm := nm)).at 0 rfl, rfl⟩
theorem dL_law_1153 {nm : String} : DI (mLn nm) 1153 (.invokevirtual 144) 3 1156 := ⟨(kL_law_49 (nm := nm)).at 1 rfl, rfl⟩
theorem dL_law_1156 {nm : String} : DI (mLn nm) 1156 (.pop) 1 1157 := ⟨(kL_law_49 (nm := nm)).at 2 rfl, rfl⟩
theorem dL_law_1157 {nm : String} : DLa (mLn nm) 1157 2 1158 := Or.inl ⟨2, (kL_law_49 (nm := nm)).at 3 rfl, rfl, rfl⟩
theorem dL_law_1158 {nm : String} : DLa (mLn nm) 1158 0 1159 := Or.inl ⟨0, (kL_law_49 (nm := nm)).at 4 rfl, rfl, rfl⟩
theorem dL_law_1159 {nm : String} : DLi (mLn nm) 1159 3 1160 := Or.inl ⟨3, (kL_law_49 (nm := nm)).at 5 rfl, rfl, rfl⟩
theorem dL_law_1160 {nm : String} : DC (mLn nm) 1160 1 1161 := Or.inl ⟨1, (kL_law_49 (nm := nm)).at 6 rfl, by decide, rfl⟩
theorem dL_law_1161 {nm : String} : DI (mLn nm) 1161 (.iadd) 1 1162 := ⟨(kL_law_49 (nm := nm)).at 7 rfl, rfl⟩
theorem dL_law_1162 {nm : String} : DI (mLn nm) 1162 (.iaload) 1 1163 := ⟨(kL_law_49 (nm := nm)).at 8 rfl, rfl⟩
theorem dL_law_1163 {nm : String} : DI (mLn nm) 1163 (.invokevirtual 147) 3 1166 := ⟨(kL_law_49 (nm := nm)).at 9 rfl, rfl⟩
theorem dL_law_1166 {nm : String} : DI (mLn nm) 1166 (.pop) 1 1167 := ⟨(kL_law_49 (nm := nm)).at 10 rfl, rfl⟩
theorem dL_law_1167 {nm : String} : DB (mLn nm) 1167 (.goto (304)) (304) 1170 1471 := ⟨(kL_law_49 (nm := nm)).at 11 rfl, rfl, rfl⟩
theorem dL_law_1170 {nm : String} : DLa (mLn nm) 1170 1 1171 := Or.inl ⟨1, (kL_law_49 (nm := nm)).at 12 rfl, rfl, rfl⟩
theorem dL_law_1171 {nm : String} : DLa (mLn nm) 1171 0 1172 := Or.inl ⟨0, (kL_law_49 (nm := nm)).at 13 rfl, rfl, rfl⟩
theorem dL_law_1172 {nm : String} : DLi (mLn nm) 1172 3 1173 := Or.inl ⟨3, (kL_law_49 (nm := nm)).at 14 rfl, rfl, rfl⟩
theorem dL_law_1173 {nm : String} : DC (mLn nm) 1173 1 1174 := Or.inl ⟨1, (kL_law_49 (nm := nm)).at 15 rfl, by decide, rfl⟩
theorem dL_law_1174 {nm : String} : DI (mLn nm) 1174 (.iadd) 1 1175 := ⟨(kL_law_50 (nm := nm)).at 0 rfl, rfl⟩
theorem dL_law_1175 {nm : String} : DI (mLn nm) 1175 (.iaload) 1 1176 := ⟨(kL_law_50 (nm := nm)).at 1 rfl, rfl⟩
theorem dL_law_1176 {nm : String} : DLa (mLn nm) 1176 0 1177 := Or.inl ⟨0, (kL_law_50 (nm := nm)).at 2 rfl, rfl, rfl⟩
theorem dL_law_1177 {nm : String} : DLi (mLn nm) 1177 3 1178 := Or.inl ⟨3, (kL_law_50 (nm := nm)).at 3 rfl, rfl, rfl⟩
theorem dL_law_1178 {nm : String} : DC (mLn nm) 1178 2 1179 := Or.inl ⟨2, (kL_law_50 (nm := nm)).at 4 rfl, by decide, rfl⟩
theorem dL_law_1179 {nm : String} : DI (mLn nm) 1179 (.iadd) 1 1180 := ⟨(kL_law_50 (nm := nm)).at 5 rfl, rfl⟩
theorem dL_law_1180 {nm : String} : DI (mLn nm) 1180 (.iaload) 1 1181 := ⟨(kL_law_50 (nm := nm)).at 6 rfl, rfl⟩
theorem dL_law_1181 {nm : String} : DI (mLn nm) 1181 (.invokevirtual 148) 3 1184 := ⟨(kL_law_50 (nm := nm)).at 7 rfl, rfl⟩
theorem dL_law_1184 {nm : String} : DI (mLn nm) 1184 (.pop) 1 1185 := ⟨(kL_law_50 (nm := nm)).at 8 rfl, rfl⟩
theorem dL_law_1185 {nm : String} : DLa (mLn nm) 1185 2 1186 := Or.inl ⟨2, (kL_law_50 (nm := nm)).at 9 rfl, rfl, rfl⟩
theorem dL_law_1186 {nm : String} : DLa (mLn nm) 1186 0 1187 := Or.inl ⟨0, (kL_law_50 (nm := nm)).at 10 rfl, rfl, rfl⟩
theorem dL_law_1187 {nm : String} : DLi (mLn nm) 1187 3 1188 := Or.inl ⟨3, (kL_law_50 (nm := nm)).at 11 rfl, rfl, rfl⟩
theorem dL_law_1188 {nm : String} : DC (mLn nm) 1188 1 1189 := Or.inl ⟨1, (kL_law_50 (nm := nm)).at 12 rfl, by decide, rfl⟩
theorem dL_law_1189 {nm : String} : DI (mLn nm) 1189 (.iadd) 1 1190 := ⟨(kL_law_50 (nm := nm)).at 13 rfl, rfl⟩
theorem dL_law_1190 {nm : String} : DI (mLn nm) 1190 (.iaload) 1 1191 := ⟨(kL_law_50 (nm := nm)).at 14 rfl, rfl⟩
theorem dL_law_1191 {nm : String} : DLa (mLn nm) 1191 0 1192 := Or.inl ⟨0, (kL_law_50 (nm := nm)).at 15 rfl, rfl, rfl⟩
theorem dL_law_1192 {nm : String} : DLi (mLn nm) 1192 3 1193 := Or.inl ⟨3, (kL_law_51 (nm := nm)).at 0 rfl, rfl, rfl⟩
theorem dL_law_1193 {nm : String} : DC (mLn nm) 1193 2 1194 := Or.inl ⟨2, (kL_law_51 (nm := nm)).at 1 rfl, by decide, rfl⟩
theorem dL_law_1194 {nm : String} : DI (mLn nm) 1194 (.iadd) 1 1195 := ⟨(kL_law_51 (nm := nm)).at 2 rfl, rfl⟩
theorem dL_law_1195 {nm : String} : DI (mLn nm) 1195 (.iaload) 1 1196 := ⟨(kL_law_51 (nm := nm)).at 3 rfl, rfl⟩
theorem dL_law_1196 {nm : String} : DI (mLn nm) 1196 (.invokevirtual 151) 3 1199 := ⟨(kL_law_51 (nm := nm)).at 4 rfl, rfl⟩
theorem dL_law_1199 {nm : String} : DI (mLn nm) 1199 (.pop) 1 1200 := ⟨(kL_law_51 (nm := nm)).at 5 rfl, rfl⟩
theorem dL_law_1200 {nm : String} : DB (mLn nm) 1200 (.goto (271)) (271) 1203 1471 := ⟨(kL_law_51 (nm := nm)).at 6 rfl, rfl, rfl⟩
theorem dL_law_1203 {nm : String} : DLa (mLn nm) 1203 1 1204 := Or.inl ⟨1, (kL_law_51 (nm := nm)).at 7 rfl, rfl, rfl⟩
theorem dL_law_1204 {nm : String} : DLa (mLn nm) 1204 0 1205 := Or.inl ⟨0, (kL_law_51 (nm := nm)).at 8 rfl, rfl, rfl⟩
theorem dL_law_1205 {nm : String} : DLi (mLn nm) 1205 3 1206 := Or.inl ⟨3, (kL_law_51 (nm := nm)).at 9 rfl, rfl, rfl⟩
theorem dL_law_1206 {nm : String} : DC (mLn nm) 1206 1 1207 := Or.inl ⟨1, (kL_law_51 (nm := nm)).at 10 rfl, by decide, rfl⟩
theorem dL_law_1207 {nm : String} : DI (mLn nm) 1207 (.iadd) 1 1208 := ⟨(kL_law_51 (nm := nm)).at 11 rfl, rfl⟩
theorem dL_law_1208 {nm : String} : DI (mLn nm) 1208 (.iaload) 1 1209 := ⟨(kL_law_51 (nm := nm)).at 12 rfl, rfl⟩
theorem dL_law_1209 {nm : String} : DLa (mLn nm) 1209 0 1210 := Or.inl ⟨0, (kL_law_51 (nm := nm)).at 13 rfl, rfl, rfl⟩
theorem dL_law_1210 {nm : String} : DLi (mLn nm) 1210 3 1211 := Or.inl ⟨3, (kL_law_51 (nm := nm)).at 14 rfl, rfl, rfl⟩
theorem dL_law_1211 {nm : String} : DC (mLn nm) 1211 2 1212 := Or.inl ⟨2, (kL_law_51 (nm := nm)).at 15 rfl, by decide, rfl⟩
theorem dL_law_1212 {nm : String} : DI (mLn nm) 1212 (.iadd) 1 1213 := ⟨(kL_law_52 (nm := nm)).at 0 rfl, rfl⟩
theorem dL_law_1213 {nm : String} : DI (mLn nm) 1213 (.iaload) 1 1214 := ⟨(kL_law_52 (nm := nm)).at 1 rfl, rfl⟩
theorem dL_law_1214 {nm : String} : DLa (mLn nm) 1214 0 1215 := Or.inl ⟨0, (kL_law_52 (nm := nm)).at 2 rfl, rfl, rfl⟩
theorem dL_law_1215 {nm : String} : DLi (mLn nm) 1215 3 1216 := Or.inl ⟨3, (kL_law_52 (nm := nm)).at 3 rfl, rfl, rfl⟩
theorem dL_law_1216 {nm : String} : DC (mLn nm) 1216 3 1217 := Or.inl ⟨3, (kL_law_52 (nm := nm)).at 4 rfl, by decide, rfl⟩
theorem dL_law_1217 {nm : String} : DI (mLn nm) 1217 (.iadd) 1 1218 := ⟨(kL_law_52 (nm := nm)).at 5 rfl, rfl⟩
theorem dL_law_1218 {nm : String} : DI (mLn nm) 1218 (.iaload) 1 1219 := ⟨(kL_law_52 (nm := nm)).at 6 rfl, rfl⟩
theorem dL_law_1219 {nm : String} : DI (mLn nm) 1219 (.invokevirtual 152) 3 1222 := ⟨(kL_law_52 (nm := nm)).at 7 rfl, rfl⟩
theorem dL_law_1222 {nm : String} : DI (mLn nm) 1222 (.pop) 1 1223 := ⟨(kL_law_52 (nm := nm)).at 8 rfl, rfl⟩
theorem dL_law_1223 {nm : String} : DLa (mLn nm) 1223 2 1224 := Or.inl ⟨2, (kL_law_52 (nm := nm)).at 9 rfl, rfl, rfl⟩
theorem dL_law_1224 {nm : String} : DLa (mLn nm) 1224 0 1225 := Or.inl ⟨0, (kL_law_52 (nm := nm)).at 10 rfl, rfl, rfl⟩
theorem dL_law_1225 {nm : String} : DLi (mLn nm) 1225 3 1226 := Or.inl ⟨3, (kL_law_52 (nm := nm)).at 11 rfl, rfl, rfl⟩
theorem dL_law_1226 {nm : String} : DC (mLn nm) 1226 1 1227 := Or.inl ⟨1, (kL_law_52 (nm := nm)).at 12 rfl, by decide, rfl⟩
theorem dL_law_1227 {nm : String} : DI (mLn nm) 1227 (.iadd) 1 1228 := ⟨(kL_law_52 (nm := nm)).at 13 rfl, rfl⟩
theorem dL_law_1228 {nm : String} : DI (mLn nm) 1228 (.iaload) 1 1229 := ⟨(kL_law_52 (nm := nm)).at 14 rfl, rfl⟩
theorem dL_law_1229 {nm : String} : DLa (mLn nm) 1229 0 1230 := Or.inl ⟨0, (kL_law_52 (nm := nm)).at 15 rfl, rfl, rfl⟩
theorem dL_law_1230 {nm : String} : DLi (mLn nm) 1230 3 1231 := Or.inl ⟨3, (kL_law_53 (nm := nm)).at 0 rfl, rfl, rfl⟩
theorem dL_law_1231 {nm : String} : DC (mLn nm) 1231 2 1232 := Or.inl ⟨2, (kL_law_53 (nm := nm)).at 1 rfl, by decide, rfl⟩
theorem dL_law_1232 {nm : String} : DI (mLn nm) 1232 (.iadd) 1 1233 := ⟨(kL_law_53 (nm := nm)).at 2 rfl, rfl⟩
theorem dL_law_1233 {nm : String} : DI (mLn nm) 1233 (.iaload) 1 1234 := ⟨(kL_law_53 (nm := nm)).at 3 rfl, rfl⟩
theorem dL_law_1234 {nm : String} : DLa (mLn nm) 1234 0 1235 := Or.inl ⟨0, (kL_law_53 (nm := nm)).at 4 rfl, rfl, rfl⟩
theorem dL_law_1235 {nm : String} : DLi (mLn nm) 1235 3 1236 := Or.inl ⟨3, (kL_law_53 (nm := nm)).at 5 rfl, rfl, rfl⟩
theorem dL_law_1236 {nm : String} : DC (mLn nm) 1236 3 1237 := Or.inl ⟨3, (kL_law_53 (nm := nm)).at 6 rfl, by decide, rfl⟩
theorem dL_law_1237 {nm : String} : DI (mLn nm) 1237 (.iadd) 1 1238 := ⟨(kL_law_53 (nm := nm)).at 7 rfl, rfl⟩
theorem dL_law_1238 {nm : String} : DI (mLn nm) 1238 (.iaload) 1 1239 := ⟨(kL_law_53 (nm := nm)).at 8 rfl, rfl⟩
theorem dL_law_1239 {nm : String} : DI (mLn nm) 1239 (.invokevirtual 155) 3 1242 := ⟨(kL_law_53 (nm := nm)).at 9 rfl, rfl⟩
theorem dL_law_1242 {nm : String} : DI (mLn nm) 1242 (.pop) 1 1243 := ⟨(kL_law_53 (nm := nm)).at 10 rfl, rfl⟩
theorem dL_law_1243 {nm : String} : DB (mLn nm) 1243 (.goto (228)) (228) 1246 1471 := ⟨(kL_law_53 (nm := nm)).at 11 rfl, rfl, rfl⟩
theorem dL_law_1246 {nm : String} : DLa (mLn nm) 1246 1 1247 := Or.inl ⟨1, (kL_law_53 (nm := nm)).at 12 rfl, rfl, rfl⟩
theorem dL_law_1247 {nm : String} : DLa (mLn nm) 1247 0 1248 := Or.inl ⟨0, (kL_law_53 (nm := nm)).at 13 rfl, rfl, rfl⟩
theorem dL_law_1248 {nm : String} : DLi (mLn nm) 1248 3 1249 := Or.inl ⟨3, (kL_law_53 (nm := nm)).at 14 rfl, rfl, rfl⟩
theorem dL_law_1249 {nm : String} : DC (mLn nm) 1249 1 1250 := Or.inl ⟨1, (kL_law_53 (nm := nm)).at 15 rfl, by decide, rfl⟩
theorem dL_law_1250 {nm : String} : DI (mLn nm) 1250 (.iadd) 1 1251 := ⟨(kL_law_54 (nm := nm)).at 0 rfl, rfl⟩
theorem dL_law_1251 {nm : String} : DI (mLn nm) 1251 (.iaload) 1 1252 := ⟨(kL_law_54 (nm := nm)).at 1 rfl, rfl⟩
theorem dL_law_1252 {nm : String} : DLa (mLn nm) 1252 0 1253 := Or.inl ⟨0, (kL_law_54 (nm := nm)).at 2 rfl, rfl, rfl⟩
theorem dL_law_1253 {nm : String} : DLi (mLn nm) 1253 3 1254 := Or.inl ⟨3, (kL_law_54 (nm := nm)).at 3 rfl, rfl, rfl⟩
theorem dL_law_1254 {nm : String} : DC (mLn nm) 1254 2 1255 := Or.inl ⟨2, (kL_law_54 (nm := nm)).at 4 rfl, by decide, rfl⟩
theorem dL_law_1255 {nm : String} : DI (mLn nm) 1255 (.iadd) 1 1256 := ⟨(kL_law_54 (nm := nm)).at 5 rfl, rfl⟩
theorem dL_law_1256 {nm : String} : DI (mLn nm) 1256 (.iaload) 1 1257 := ⟨(kL_law_54 (nm := nm)).at 6 rfl, rfl⟩
theorem dL_law_1257 {nm : String} : DLa (mLn nm) 1257 0 1258 := Or.inl ⟨0, (kL_law_54 (nm := nm)).at 7 rfl, rfl, rfl⟩
theorem dL_law_1258 {nm : String} : DLi (mLn nm) 1258 3 1259 := Or.inl ⟨3, (kL_law_54 (nm := nm)).at 8 rfl, rfl, rfl⟩
theorem dL_law_1259 {nm : String} : DC (mLn nm) 1259 3 1260 := Or.inl ⟨3, (kL_law_54 (nm := nm)).at 9 rfl, by decide, rfl⟩
theorem dL_law_1260 {nm : String} : DI (mLn nm) 1260 (.iadd) 1 1261 := ⟨(kL_law_54 (nm := nm)).at 10 rfl, rfl⟩
theorem dL_law_1261 {nm : String} : DI (mLn nm) 1261 (.iaload) 1 1262 := ⟨(kL_law_54 (nm := nm)).at 11 rfl, rfl⟩
theorem dL_law_1262 {nm : String} : DI (mLn nm) 1262 (.i2l) 1 1263 := ⟨(kL_law_54 (nm := nm)).at 12 rfl, rfl⟩
theorem dL_law_1263 {nm : String} : DC (mLn nm) 1263 32 1265 := Or.inr (Or.inl ⟨32, (kL_law_54 (nm := nm)).at 13 rfl, by decide, rfl⟩)
theorem dL_law_1265 {nm : String} : DI (mLn nm) 1265 (.lshl) 1 1266 := ⟨(kL_law_54 (nm := nm)).at 14 rfl, rfl⟩
theorem dL_law_1266 {nm : String} : DLa (mLn nm) 1266 0 1267 := Or.inl ⟨0, (kL_law_54 (nm := nm)).at 15 rfl, rfl, rfl⟩
theorem dL_law_1267 {nm : String} : DLi (mLn nm) 1267 3 1268 := Or.inl ⟨3, (kL_law_55 (nm := nm)).at 0 rfl, rfl, rfl⟩
theorem dL_law_1268 {nm : String} : DC (mLn nm) 1268 4 1269 := Or.inl ⟨4, (kL_law_55 (nm := nm)).at 1 rfl, by decide, rfl⟩
theorem dL_law_1269 {nm : String} : DI (mLn nm) 1269 (.iadd) 1 1270 := ⟨(kL_law_55 (nm := nm)).at 2 rfl, rfl⟩
theorem dL_law_1270 {nm : String} : DI (mLn nm) 1270 (.iaload) 1 1271 := ⟨(kL_law_55 (nm := nm)).at 3 rfl, rfl⟩
theorem dL_law_1271 {nm : String} : DI (mLn nm) 1271 (.i2l) 1 1272 := ⟨(kL_law_55 (nm := nm)).at 4 rfl, rfl⟩
theorem dL_law_1272 {nm : String} : DCL (mLn nm) 1272 4294967295 1275 := Or.inr ⟨156, (kL_law_55 (nm := nm)).at 5 rfl, (tq7 13 rfl rfl), rfl⟩
theorem dL_law_1275 {nm : String} : DI (mLn nm) 1275 (.land) 1 1276 := ⟨(kL_law_55 (nm := nm)).at 6 rfl, rfl⟩
theorem dL_law_1276 {nm : String} : DI (mLn nm) 1276 (.lor) 1 1277 := ⟨(kL_law_55 (nm := nm)).at 7 rfl, rfl⟩
theorem dL_law_1277 {nm : String} : DI (mLn nm) 1277 (.invokevirtual 158) 3 1280 := ⟨(kL_law_55 (nm := nm)).at 8 rfl, rfl⟩
theorem dL_law_1280 {nm : String} : DI (mLn nm) 1280 (.pop) 1 1281 := ⟨(kL_law_55 (nm := nm)).at 9 rfl, rfl⟩
theorem dL_law_1281 {nm : String} : DLa (mLn nm) 1281 2 1282 := Or.inl ⟨2, (kL_law_55 (nm := nm)).at 10 rfl, rfl, rfl⟩
theorem dL_law_1282 {nm : String} : DLa (mLn nm) 1282 0 1283 := Or.inl ⟨0, (kL_law_55 (nm := nm)).at 11 rfl, rfl, rfl⟩
theorem dL_law_1283 {nm : String} : DLi (mLn nm) 1283 3 1284 := Or.inl ⟨3, (kL_law_55 (nm := nm)).at 12 rfl, rfl, rfl⟩
theorem dL_law_1284 {nm : String} : DC (mLn nm) 1284 1 1285 := Or.inl ⟨1, (kL_law_55 (nm := nm)).at 13 rfl, by decide, rfl⟩
theorem dL_law_1285 {nm : String} : DI (mLn nm) 1285 (.iadd) 1 1286 := ⟨(kL_law_55 (nm := nm)).at 14 rfl, rfl⟩
theorem dL_law_1286 {nm : String} : DI (mLn nm) 1286 (.iaload) 1 1287 := ⟨(kL_law_55 (nm := nm)).at 15 rfl, rfl⟩
theorem dL_law_1287 {nm : String} : DLa (mLn nm) 1287 0 1288 := Or.inl ⟨0, (kL_law_56 (nm := nm)).at 0 rfl, rfl, rfl⟩
theorem dL_law_1288 {nm : String} : DLi (mLn nm) 1288 3 1289 := Or.inl ⟨3, (kL_law_56 (nm := nm)).at 1 rfl, rfl, rfl⟩
theorem dL_law_1289 {nm : String} : DC (mLn nm) 1289 2 1290 := Or.inl ⟨2, (kL_law_56 (nm := nm)).at 2 rfl, by decide, rfl⟩
theorem dL_law_1290 {nm : String} : DI (mLn nm) 1290 (.iadd) 1 1291 := ⟨(kL_law_56 (nm := nm)).at 3 rfl, rfl⟩
theorem dL_law_1291 {nm : String} : DI (mLn nm) 1291 (.iaload) 1 1292 := ⟨(kL_law_56 (nm := nm)).at 4 rfl, rfl⟩
theorem dL_law_1292 {nm : String} : DLa (mLn nm) 1292 0 1293 := Or.inl ⟨0, (kL_law_56 (nm := nm)).at 5 rfl, rfl, rfl⟩
theorem dL_law_1293 {nm : String} : DLi (mLn nm) 1293 3 1294 := Or.inl ⟨3, (kL_law_56 (nm := nm)).at 6 rfl, rfl, rfl⟩
theorem dL_law_1294 {nm : String} : DC (mLn nm) 1294 3 1295 := Or.inl ⟨3, (kL_law_56 (nm := nm)).at 7 rfl, by decide, rfl⟩
theorem dL_law_1295 {nm : String} : DI (mLn nm) 1295 (.iadd) 1 1296 := ⟨(kL_law_56 (nm := nm)).at 8 rfl, rfl⟩
theorem dL_law_1296 {nm : String} : DI (mLn nm) 1296 (.iaload) 1 1297 := ⟨(kL_law_56 (nm := nm)).at 9 rfl, rfl⟩
theorem dL_law_1297 {nm : String} : DI (mLn nm) 1297 (.i2l) 1 1298 := ⟨(kL_law_56 (nm := nm)).at 10 rfl, rfl⟩
theorem dL_law_1298 {nm : String} : DC (mLn nm) 1298 32 1300 := Or.inr (Or.inl ⟨32, (kL_law_56 (nm := nm)).at 11 rfl, by decide, rfl⟩)
theorem dL_law_1300 {nm : String} : DI (mLn nm) 1300 (.lshl) 1 1301 := ⟨(kL_law_56 (nm := nm)).at 12 rfl, rfl⟩
theorem dL_law_1301 {nm : String} : DLa (mLn nm) 1301 0 1302 := Or.inl ⟨0, (kL_law_56 (nm := nm)).at 13 rfl, rfl, rfl⟩
theorem dL_law_1302 {nm : String} : DLi (mLn nm) 1302 3 1303 := Or.inl ⟨3, (kL_law_56 (nm := nm)).at 14 rfl, rfl, rfl⟩
theorem dL_law_1303 {nm : String} : DC (mLn nm) 1303 4 1304 := Or.inl ⟨4, (kL_law_56 (nm := nm)).at 15 rfl, by decide, rfl⟩
theorem dL_law_1304 {nm : String} : DI (mLn nm) 1304 (.iadd) 1 1305 := ⟨(kL_law_57 (nm := nm)).at 0 rfl, rfl⟩
theorem dL_law_1305 {nm : String} : DI (mLn nm) 1305 (.iaload) 1 1306 := ⟨(kL_law_57 (nm := nm)).at 1 rfl, rfl⟩
theorem dL_law_1306 {nm : String} : DI (mLn nm) 1306 (.i2l) 1 1307 := ⟨(kL_law_57 (nm := nm)).at 2 rfl, rfl⟩
theorem dL_law_1307 {nm : String} : DCL (mLn nm) 1307 4294967295 1310 := Or.inr ⟨156, (kL_law_57 (nm := nm)).at 3 rfl, (tq7 13 rfl rfl), rfl⟩
theorem dL_law_1310 {nm : String} : DI (mLn nm) 1310 (.land) 1 1311 := ⟨(kL_law_57 (nm := nm)).at 4 rfl, rfl⟩
theorem dL_law_1311 {nm : String} : DI (mLn nm) 1311 (.lor) 1 1312 := ⟨(kL_law_57 (nm := nm)).at 5 rfl, rfl⟩
theorem dL_law_1312 {nm : String} : DI (mLn nm) 1312 (.invokevirtual 162) 3 1315 := ⟨(kL_law_57 (nm := nm)).at 6 rfl, rfl⟩
theorem dL_law_1315 {nm : String} : DI (mLn nm) 1315 (.pop) 1 1316 := ⟨(kL_law_57 (nm := nm)).at 7 rfl, rfl⟩
theorem dL_law_1316 {nm : String} : DB (mLn nm) 1316 (.goto (155)) (155) 1319 1471 := ⟨(kL_law_57 (nm := nm)).at 8 rfl, rfl, rfl⟩
theorem dL_law_1319 {nm : String} : DLa (mLn nm) 1319 1 1320 := Or.inl ⟨1, (kL_law_57 (nm := nm)).at 9 rfl, rfl, rfl⟩
theorem dL_law_1320 {nm : String} : DLa (mLn nm) 1320 0 1321 := Or.inl ⟨0, (kL_law_57 (nm := nm)).at 10 rfl, rfl, rfl⟩
theorem dL_law_1321 {nm : String} : DLi (mLn nm) 1321 3 1322 := Or.inl ⟨3, (kL_law_57 (nm := nm)).at 11 rfl, rfl, rfl⟩
theorem dL_law_1322 {nm : String} : DC (mLn nm) 1322 1 1323 := Or.inl ⟨1, (kL_law_57 (nm := nm)).at 12 rfl, by decide, rfl⟩
theorem dL_law_1323 {nm : String} : DI (mLn nm) 1323 (.iadd) 1 1324 := ⟨(kL_law_57 (nm := nm)).at 13 rfl, rfl⟩
theorem dL_law_1324 {nm : String} : DI (mLn nm) 1324 (.iaload) 1 1325 := ⟨(kL_law_57 (nm := nm)).at 14 rfl, rfl⟩
theorem dL_law_1325 {nm : String} : DLa (mLn nm) 1325 0 1326 := Or.inl ⟨0, (kL_law_57 (nm := nm)).at 15 rfl, rfl, rfl⟩
theorem dL_law_1326 {nm : String} : DLi (mLn nm) 1326 3 1327 := Or.inl ⟨3, (kL_law_58 (nm := nm)).at 0 rfl, rfl, rfl⟩
theorem dL_law_1327 {nm : String} : DC (mLn nm) 1327 2 1328 := Or.inl ⟨2, (kL_law_58 (nm := nm)).at 1 rfl, by decide, rfl⟩
theorem dL_law_1328 {nm : String} : DI (mLn nm) 1328 (.iadd) 1 1329 := ⟨(kL_law_58 (nm := nm)).at 2 rfl, rfl⟩
theorem dL_law_1329 {nm : String} : DI (mLn nm) 1329 (.iaload) 1 1330 := ⟨(kL_law_58 (nm := nm)).at 3 rfl, rfl⟩
theorem dL_law_1330 {nm : String} : DI (mLn nm) 1330 (.invokevirtual 163) 3 1333 := ⟨(kL_law_58 (nm := nm)).at 4 rfl, rfl⟩
theorem dL_law_1333 {nm : String} : DI (mLn nm) 1333 (.pop2) 1 1334 := ⟨(kL_law_58 (nm := nm)).at 5 rfl, rfl⟩
theorem dL_law_1334 {nm : String} : DLa (mLn nm) 1334 2 1335 := Or.inl ⟨2, (kL_law_58 (nm := nm)).at 6 rfl, rfl, rfl⟩
theorem dL_law_1335 {nm : String} : DLa (mLn nm) 1335 0 1336 := Or.inl ⟨0, (kL_law_58 (nm := nm)).at 7 rfl, rfl, rfl⟩
theorem dL_law_1336 {nm : String} : DLi (mLn nm) 1336 3 1337 := Or.inl ⟨3, (kL_law_58 (nm := nm)).at 8 rfl, rfl, rfl⟩
theorem dL_law_1337 {nm : String} : DC (mLn nm) 1337 1 1338 := Or.inl ⟨1, (kL_law_58 (nm := nm)).at 9 rfl, by decide, rfl⟩
theorem dL_law_1338 {nm : String} : DI (mLn nm) 1338 (.iadd) 1 1339 := ⟨(kL_law_58 (nm := nm)).at 10 rfl, rfl⟩
theorem dL_law_1339 {nm : String} : DI (mLn nm) 1339 (.iaload) 1 1340 := ⟨(kL_law_58 (nm := nm)).at 11 rfl, rfl⟩
theorem dL_law_1340 {nm : String} : DLa (mLn nm) 1340 0 1341 := Or.inl ⟨0, (kL_law_58 (nm := nm)).at 12 rfl, rfl, rfl⟩
theorem dL_law_1341 {nm : String} : DLi (mLn nm) 1341 3 1342 := Or.inl ⟨3, (kL_law_58 (nm := nm)).at 13 rfl, rfl, rfl⟩
theorem dL_law_1342 {nm : String} : DC (mLn nm) 1342 2 1343 := Or.inl ⟨2, (kL_law_58 (nm := nm)).at 14 rfl, by decide, rfl⟩
theorem dL_law_1343 {nm : String} : DI (mLn nm) 1343 (.iadd) 1 1344 := ⟨(kL_law_58 (nm := nm)).at 15 rfl, rfl⟩
theorem dL_law_1344 {nm : String} : DI (mLn nm) 1344 (.iaload) 1 1345 := ⟨(kL_law_59 (nm := nm)).at 0 rfl, rfl⟩
theorem dL_law_1345 {nm : String} : DI (mLn nm) 1345 (.invokevirtual 166) 3 1348 := ⟨(kL_law_59 (nm := nm)).at 1 rfl, rfl⟩
theorem dL_law_1348 {nm : String} : DI (mLn nm) 1348 (.pop2) 1 1349 := ⟨(kL_law_59 (nm := nm)).at 2 rfl, rfl⟩
theorem dL_law_1349 {nm : String} : DB (mLn nm) 1349 (.goto (122)) (122) 1352 1471 := ⟨(kL_law_59 (nm := nm)).at 3 rfl, rfl, rfl⟩
theorem dL_law_1352 {nm : String} : DLa (mLn nm) 1352 1 1353 := Or.inl ⟨1, (kL_law_59 (nm := nm)).at 4 rfl, rfl, rfl⟩
theorem dL_law_1353 {nm : String} : DLa (mLn nm) 1353 0 1354 := Or.inl ⟨0, (kL_law_59 (nm := nm)).at 5 rfl, rfl, rfl⟩
theorem dL_law_1354 {nm : String} : DLi (mLn nm) 1354 3 1355 := Or.inl ⟨3, (kL_law_59 (nm := nm)).at 6 rfl, rfl, rfl⟩
theorem dL_law_1355 {nm : String} : DC (mLn nm) 1355 1 1356 := Or.inl ⟨1, (kL_law_59 (nm := nm)).at 7 rfl, by decide, rfl⟩
theorem dL_law_1356 {nm : String} : DI (mLn nm) 1356 (.iadd) 1 1357 := ⟨(kL_law_59 (nm := nm)).at 8 rfl, rfl⟩
theorem dL_law_1357 {nm : String} : DI (mLn nm) 1357 (.iaload) 1 1358 := ⟨(kL_law_59 (nm := nm)).at 9 rfl, rfl⟩
theorem dL_law_1358 {nm : String} : DLa (mLn nm) 1358 0 1359 := Or.inl ⟨0, (kL_law_59 (nm := nm)).at 10 rfl, rfl, rfl⟩
theorem dL_law_1359 {nm : String} : DLi (mLn nm) 1359 3 1360 := Or.inl ⟨3, (kL_law_59 (nm := nm)).at 11 rfl, rfl, rfl⟩
theorem dL_law_1360 {nm : String} : DC (mLn nm) 1360 2 1361 := Or.inl ⟨2, (kL_law_59 (nm := nm)).at 12 rfl, by decide, rfl⟩
theorem dL_law_1361 {nm : String} : DI (mLn nm) 1361 (.iadd) 1 1362 := ⟨(kL_law_59 (nm := nm)).at 13 rfl, rfl⟩
theorem dL_law_1362 {nm : String} : DI (mLn nm) 1362 (.iaload) 1 1363 := ⟨(kL_law_59 (nm := nm)).at 14 rfl, rfl⟩
theorem dL_law_1363 {nm : String} : DLa (mLn nm) 1363 0 1364 := Or.inl ⟨0, (kL_law_59 (nm := nm)).at 15 rfl, rfl, rfl⟩
theorem dL_law_1364 {nm : String} : DLi (mLn nm) 1364 3 1365 := Or.inl ⟨3, (kL_law_60 (nm := nm)).at 0 rfl, rfl, rfl⟩
theorem dL_law_1365 {nm : String} : DC (mLn nm) 1365 3 1366 := Or.inl ⟨3, (kL_law_60 (nm := nm)).at 1 rfl, by decide, rfl⟩
theorem dL_law_1366 {nm : String} : DI (mLn nm) 1366 (.iadd) 1 1367 := ⟨(kL_law_60 (nm := nm)).at 2 rfl, rfl⟩
theorem dL_law_1367 {nm : String} : DI (mLn nm) 1367 (.iaload) 1 1368 := ⟨(kL_law_60 (nm := nm)).at 3 rfl, rfl⟩
theorem dL_law_1368 {nm : String} : DLa (mLn nm) 1368 0 1369 := Or.inl ⟨0, (kL_law_60 (nm := nm)).at 4 rfl, rfl, rfl⟩
theorem dL_law_1369 {nm : String} : DLi (mLn nm) 1369 3 1370 := Or.inl ⟨3, (kL_law_60 (nm := nm)).at 5 rfl, rfl, rfl⟩
theorem dL_law_1370 {nm : String} : DC (mLn nm) 1370 4 1371 := Or.inl ⟨4, (kL_law_60 (nm := nm)).at 6 rfl, by decide, rfl⟩
theorem dL_law_1371 {nm : String} : DI (mLn nm) 1371 (.iadd) 1 1372 := ⟨(kL_law_60 (nm := nm)).at 7 rfl, rfl⟩
theorem dL_law_1372 {nm : String} : DI (mLn nm) 1372 (.iaload) 1 1373 := ⟨(kL_law_60 (nm := nm)).at 8 rfl, rfl⟩
theorem dL_law_1373 {nm : String} : DLa (mLn nm) 1373 0 1374 := Or.inl ⟨0, (kL_law_60 (nm := nm)).at 9 rfl, rfl, rfl⟩
theorem dL_law_1374 {nm : String} : DLi (mLn nm) 1374 3 1375 := Or.inl ⟨3, (kL_law_60 (nm := nm)).at 10 rfl, rfl, rfl⟩
theorem dL_law_1375 {nm : String} : DC (mLn nm) 1375 5 1376 := Or.inl ⟨5, (kL_law_60 (nm := nm)).at 11 rfl, by decide, rfl⟩
theorem dL_law_1376 {nm : String} : DI (mLn nm) 1376 (.iadd) 1 1377 := ⟨(kL_law_60 (nm := nm)).at 12 rfl, rfl⟩
theorem dL_law_1377 {nm : String} : DI (mLn nm) 1377 (.iaload) 1 1378 := ⟨(kL_law_60 (nm := nm)).at 13 rfl, rfl⟩
theorem dL_law_1378 {nm : String} : DI (mLn nm) 1378 (.invokevirtual 167) 3 1381 := ⟨(kL_law_60 (nm := nm)).at 14 rfl, rfl⟩
theorem dL_law_1381 {nm : String} : DI (mLn nm) 1381 (.pop) 1 1382 := ⟨(kL_law_60 (nm := nm)).at 15 rfl, rfl⟩
theorem dL_law_1382 {nm : String} : DLa (mLn nm) 1382 2 1383 := Or.inl ⟨2, (kL_law_61 (nm := nm)).at 0 rfl, rfl, rfl⟩
theorem dL_law_1383 {nm : String} : DLa (mLn nm) 1383 0 1384 := Or.inl ⟨0, (kL_law_61 (nm := nm)).at 1 rfl, rfl, rfl⟩
theorem dL_law_1384 {nm : String} : DLi (mLn nm) 1384 3 1385 := Or.inl ⟨3, (kL_law_61 (nm := nm)).at 2 rfl, rfl, rfl⟩
theorem dL_law_1385 {nm : String} : DC (mLn nm) 1385 1 1386 := Or.inl ⟨1, (kL_law_61 (nm := nm)).at 3 rfl, by decide, rfl⟩
theorem dL_law_1386 {nm : String} : DI (mLn nm) 1386 (.iadd) 1 1387 := ⟨(kL_law_61 (nm := nm)).at 4 rfl, rfl⟩
theorem dL_law_1387 {nm : String} : DI (mLn nm) 1387 (.iaload) 1 1388 := ⟨(kL_law_61 (nm := nm)).at 5 rfl, rfl⟩
theorem dL_law_1388 {nm : String} : DLa (mLn nm) 1388 0 1389 := Or.inl ⟨0, (kL_law_61 (nm := nm)).at 6 rfl, rfl, rfl⟩
theorem dL_law_1389 {nm : String} : DLi (mLn nm) 1389 3 1390 := Or.inl ⟨3, (kL_law_61 (nm := nm)).at 7 rfl, rfl, rfl⟩
theorem dL_law_1390 {nm : String} : DC (mLn nm) 1390 2 1391 := Or.inl ⟨2, (kL_law_61 (nm := nm)).at 8 rfl, by decide, rfl⟩
theorem dL_law_1391 {nm : String} : DI (mLn nm) 1391 (.iadd) 1 1392 := ⟨(kL_law_61 (nm := nm)).at 9 rfl, rfl⟩
theorem dL_law_1392 {nm : String} : DI (mLn nm) 1392 (.iaload) 1 1393 := ⟨(kL_law_61 (nm := nm)).at 10 rfl, rfl⟩
theorem dL_law_1393 {nm : String} : DLa (mLn nm) 1393 0 1394 := Or.inl ⟨0, (kL_law_61 (nm := nm)).at 11 rfl, rfl, rfl⟩
theorem dL_law_1394 {nm : String} : DLi (mLn nm) 1394 3 1395 := Or.inl ⟨3, (kL_law_61 (nm := nm)).at 12 rfl, rfl, rfl⟩
theorem dL_law_1395 {nm : String} : DC (mLn nm) 1395 3 1396 := Or.inl ⟨3, (kL_law_61 (nm := nm)).at 13 rfl, by decide, rfl⟩
theorem dL_law_1396 {nm : String} : DI (mLn nm) 1396 (.iadd) 1 1397 := ⟨(kL_law_61 (nm := nm)).at 14 rfl, rfl⟩
theorem dL_law_1397 {nm : String} : DI (mLn nm) 1397 (.iaload) 1 1398 := ⟨(kL_law_61 (nm := nm)).at 15 rfl, rfl⟩
theorem dL_law_1398 {nm : String} : DLa (mLn nm) 1398 0 1399 := Or.inl ⟨0, (kL_law_62 (nm := nm)).at 0 rfl, rfl, rfl⟩
theorem dL_law_1399 {nm : String} : DLi (mLn nm) 1399 3 1400 := Or.inl ⟨3, (kL_law_62 (nm := nm)).at 1 rfl, rfl, rfl⟩
theorem dL_law_1400 {nm : String} : DC (mLn nm) 1400 4 1401 := Or.inl ⟨4, (kL_law_62 (nm := nm)).at 2 rfl, by decide, rfl⟩
theorem dL_law_1401 {nm : String} : DI (mLn nm) 1401 (.iadd) 1 1402 := ⟨(kL_law_62 (nm := nm)).at 3 rfl, rfl⟩
theorem dL_law_1402 {nm : String} : DI (mLn nm) 1402 (.iaload) 1 1403 := ⟨(kL_law_62 (nm := nm)).at 4 rfl, rfl⟩
theorem dL_law_1403 {nm : String} : DLa (mLn nm) 1403 0 1404 := Or.inl ⟨0, (kL_law_62 (nm := nm)).at 5 rfl, rfl, rfl⟩
theorem dL_law_1404 {nm : String} : DLi (mLn nm) 1404 3 1405 := Or.inl ⟨3, (kL_law_62 (nm := nm)).at 6 rfl, rfl, rfl⟩
theorem dL_law_1405 {nm : String} : DC (mLn nm) 1405 5 1406 := Or.inl ⟨5, (kL_law_62 (nm := nm)).at 7 rfl, by decide, rfl⟩
theorem dL_law_1406 {nm : String} : DI (mLn nm) 1406 (.iadd) 1 1407 := ⟨(kL_law_62 (nm := nm)).at 8 rfl, rfl⟩
theorem dL_law_1407 {nm : String} : DI (mLn nm) 1407 (.iaload) 1 1408 := ⟨(kL_law_62 (nm := nm)).at 9 rfl, rfl⟩
theorem dL_law_1408 {nm : String} : DI (mLn nm) 1408 (.invokevirtual 171) 3 1411 := ⟨(kL_law_62 (nm := nm)).at 10 rfl, rfl⟩
theorem dL_law_1411 {nm : String} : DI (mLn nm) 1411 (.pop) 1 1412 := ⟨(kL_law_62 (nm := nm)).at 11 rfl, rfl⟩
theorem dL_law_1412 {nm : String} : DB (mLn nm) 1412 (.goto (59)) (59) 1415 1471 := ⟨(kL_law_62 (nm := nm)).at 12 rfl, rfl, rfl⟩
theorem dL_law_1415 {nm : String} : DLa (mLn nm) 1415 1 1416 := Or.inl ⟨1, (kL_law_62 (nm := nm)).at 13 rfl, rfl, rfl⟩
theorem dL_law_1416 {nm : String} : DLa (mLn nm) 1416 0 1417 := Or.inl ⟨0, (kL_law_62 (nm := nm)).at 14 rfl, rfl, rfl⟩
theorem dL_law_1417 {nm : String} : DLi (mLn nm) 1417 3 1418 := Or.inl ⟨3, (kL_law_62 (nm := nm)).at 15 rfl, rfl, rfl⟩
theorem dL_law_1418 {nm : String} : DC (mLn nm) 1418 1 1419 := Or.inl ⟨1, (kL_law_63 (nm := nm)).at 0 rfl, by decide, rfl⟩
theorem dL_law_1419 {nm : String} : DI (mLn nm) 1419 (.iadd) 1 1420 := ⟨(kL_law_63 (nm := nm)).at 1 rfl, rfl⟩
theorem dL_law_1420 {nm : String} : DI (mLn nm) 1420 (.iaload) 1 1421 := ⟨(kL_law_63 (nm := nm)).at 2 rfl, rfl⟩
theorem dL_law_1421 {nm : String} : DLa (mLn nm) 1421 0 1422 := Or.inl ⟨0, (kL_law_63 (nm := nm)).at 3 rfl, rfl, rfl⟩
theorem dL_law_1422 {nm : String} : DLi (mLn nm) 1422 3 1423 := Or.inl ⟨3, (kL_law_63 (nm := nm)).at 4 rfl, rfl, rfl⟩
theorem dL_law_1423 {nm : String} : DC (mLn nm) 1423 2 1424 := Or.inl ⟨2, (kL_law_63 (nm := nm)).at 5 rfl, by decide, rfl⟩
theorem dL_law_1424 {nm : String} : DI (mLn nm) 1424 (.iadd) 1 1425 := ⟨(kL_law_63 (nm := nm)).at 6 rfl, rfl⟩
theorem dL_law_1425 {nm : String} : DI (mLn nm) 1425 (.iaload) 1 1426 := ⟨(kL_law_63 (nm := nm)).at 7 rfl, rfl⟩
theorem dL_law_1426 {nm : String} : DI (mLn nm) 1426 (.invokevirtual 172) 3 1429 := ⟨(kL_law_63 (nm := nm)).at 8 rfl, rfl⟩
theorem dL_law_1429 {nm : String} : DI (mLn nm) 1429 (.pop) 1 1430 := ⟨(kL_law_63 (nm := nm)).at 9 rfl, rfl⟩
theorem dL_law_1430 {nm : String} : DLa (mLn nm) 1430 2 1431 := Or.inl ⟨2, (kL_law_63 (nm := nm)).at 10 rfl, rfl, rfl⟩
theorem dL_law_1431 {nm : String} : DLa (mLn nm) 1431 0 1432 := Or.inl ⟨0, (kL_law_63 (nm := nm)).at 11 rfl, rfl, rfl⟩
theorem dL_law_1432 {nm : String} : DLi (mLn nm) 1432 3 1433 := Or.inl ⟨3, (kL_law_63 (nm := nm)).at 12 rfl, rfl, rfl⟩
theorem dL_law_1433 {nm : String} : DC (mLn nm) 1433 1 1434 := Or.inl ⟨1, (kL_law_63 (nm := nm)).at 13 rfl, by decide, rfl⟩
theorem dL_law_1434 {nm : String} : DI (mLn nm) 1434 (.iadd) 1 1435 := ⟨(kL_law_63 (nm := nm)).at 14 rfl, rfl⟩
theorem dL_law_1435 {nm : String} : DI (mLn nm) 1435 (.iaload) 1 1436 := ⟨(kL_law_63 (nm := nm)).at 15 rfl, rfl⟩
theorem dL_law_1436 {nm : String} : DLa (mLn nm) 1436 0 1437 := Or.inl ⟨0, (kL_law_64 (nm := nm)).at 0 rfl, rfl, rfl⟩
theorem dL_law_1437 {nm : String} : DLi (mLn nm) 1437 3 1438 := Or.inl ⟨3, (kL_law_64 (nm := nm)).at 1 rfl, rfl, rfl⟩
theorem dL_law_1438 {nm : String} : DC (mLn nm) 1438 2 1439 := Or.inl ⟨2, (kL_law_64 (nm := nm)).at 2 rfl, by decide, rfl⟩
theorem dL_law_1439 {nm : String} : DI (mLn nm) 1439 (.iadd) 1 1440 := ⟨(kL_law_64 (nm := nm)).at 3 rfl, rfl⟩
theorem dL_law_1440 {nm : String} : DI (mLn nm) 1440 (.iaload) 1 1441 := ⟨(kL_law_64 (nm := nm)).at 4 rfl, rfl⟩
theorem dL_law_1441 {nm : String} : DI (mLn nm) 1441 (.invokevirtual 175) 3 1444 := ⟨(kL_law_64 (nm := nm)).at 5 rfl, rfl⟩
theorem dL_law_1444 {nm : String} : DI (mLn nm) 1444 (.pop) 1 1445 := ⟨(kL_law_64 (nm := nm)).at 6 rfl, rfl⟩
theorem dL_law_1445 {nm : String} : DB (mLn nm) 1445 (.goto (26)) (26) 1448 1471 := ⟨(kL_law_64 (nm := nm)).at 7 rfl, rfl, rfl⟩
theorem dL_law_1448 {nm : String} : DLa (mLn nm) 1448 1 1449 := Or.inl ⟨1, (kL_law_64 (nm := nm)).at 8 rfl, rfl, rfl⟩
theorem dL_law_1449 {nm : String} : DLa (mLn nm) 1449 0 1450 := Or.inl ⟨0, (kL_law_64 (nm := nm)).at 9 rfl, rfl, rfl⟩
theorem dL_law_1450 {nm : String} : DLi (mLn nm) 1450 3 1451 := Or.inl ⟨3, (kL_law_64 (nm := nm)).at 10 rfl, rfl, rfl⟩
theorem dL_law_1451 {nm : String} : DC (mLn nm) 1451 1 1452 := Or.inl ⟨1, (kL_law_64 (nm := nm)).at 11 rfl, by decide, rfl⟩
theorem dL_law_1452 {nm : String} : DI (mLn nm) 1452 (.iadd) 1 1453 := ⟨(kL_law_64 (nm := nm)).at 12 rfl, rfl⟩
theorem dL_law_1453 {nm : String} : DI (mLn nm) 1453 (.iaload) 1 1454 := ⟨(kL_law_64 (nm := nm)).at 13 rfl, rfl⟩
theorem dL_law_1454 {nm : String} : DI (mLn nm) 1454 (.invokevirtual 176) 3 1457 := ⟨(kL_law_64 (nm := nm)).at 14 rfl, rfl⟩
theorem dL_law_1457 {nm : String} : DLa (mLn nm) 1457 2 1458 := Or.inl ⟨2, (kL_law_64 (nm := nm)).at 15 rfl, rfl, rfl⟩
theorem dL_law_1458 {nm : String} : DLa (mLn nm) 1458 0 1459 := Or.inl ⟨0, (kL_law_65 (nm := nm)).at 0 rfl, rfl, rfl⟩
theorem dL_law_1459 {nm : String} : DLi (mLn nm) 1459 3 1460 := Or.inl ⟨3, (kL_law_65 (nm := nm)).at 1 rfl, rfl, rfl⟩
theorem dL_law_1460 {nm : String} : DC (mLn nm) 1460 1 1461 := Or.inl ⟨1, (kL_law_65 (nm := nm)).at 2 rfl, by decide, rfl⟩
theorem dL_law_1461 {nm : String} : DI (mLn nm) 1461 (.iadd) 1 1462 := ⟨(kL_law_65 (nm := nm)).at 3 rfl, rfl⟩
theorem dL_law_1462 {nm : String} : DI (mLn nm) 1462 (.iaload) 1 1463 := ⟨(kL_law_65 (nm := nm)).at 4 rfl, rfl⟩
theorem dL_law_1463 {nm : String} : DI (mLn nm) 1463 (.invokevirtual 179) 3 1466 := ⟨(kL_law_65 (nm := nm)).at 5 rfl, rfl⟩
theorem dL_law_1466 {nm : String} : DB (mLn nm) 1466 (.if_icmp .eq (5)) (5) 1469 1471 := ⟨(kL_law_65 (nm := nm)).at 6 rfl, rfl, rfl⟩
theorem dL_law_1469 {nm : String} : DC (mLn nm) 1469 0 1470 := Or.inl ⟨0, (kL_law_65 (nm := nm)).at 7 rfl, by decide, rfl⟩
theorem dL_law_1470 {nm : String} : DRz (mLn nm) 1470 := ⟨(kL_law_65 (nm := nm)).at 8 rfl, rfl⟩
theorem dL_law_1471 {nm : String} : DIN (mLn nm) 1471 3 6 1474 := ⟨Nat.le_of_ble_eq_true rfl, 6, (kL_law_65 (nm := nm)).at 9 rfl, rfl, rfl⟩
theorem dL_law_1474 {nm : String} : DB (mLn nm) 1474 (.goto (-1456)) (-1456) 1477 18 := ⟨(kL_law_65 (nm := nm)).at 10 rfl, rfl, rfl⟩
theorem dL_law_1477 {nm : String} : DC (mLn nm) 1477 1 1478 := Or.inl ⟨1, (kL_law_65 (nm := nm)).at 11 rfl, by decide, rfl⟩
theorem dL_law_1478 {nm : String} : DRz (mLn nm) 1478 := ⟨(kL_law_65 (nm := nm)).at 12 rfl, rfl⟩
