/-! the law, case by case -/
def kLc_0 : List (Nat × Instr) := [(172, .aload_n 1), (173, .aload_n 0), (174, .iload_n 3), (175, .iconst 1), (176, .iadd), (177, .iaload), (178, .aload_n 0), (179, .iload_n 3), (180, .iconst 2), (181, .iadd), (182, .iaload), (183, .aload_n 0), (184, .iload_n 3), (185, .iconst 3), (186, .iadd), (187, .iaload), (188, .aload_n 0), (189, .iload_n 3), (190, .iconst 4), (191, .iadd), (192, .iaload), (193, .invokevirtual 13), (196, .aload_n 2), (197, .aload_n 0), (198, .iload_n 3), (199, .iconst 1), (200, .iadd), (201, .iaload), (202, .aload_n 0), (203, .iload_n 3), (204, .iconst 2), (205, .iadd), (206, .iaload), (207, .aload_n 0), (208, .iload_n 3), (209, .iconst 3), (210, .iadd), (211, .iaload), (212, .aload_n 0), (213, .iload_n 3), (214, .iconst 4), (215, .iadd), (216, .iaload), (217, .invokevirtual 17), (220, .if_icmp .eq 925), (223, .iconst 0), (224, .ireturn)]
set_option maxRecDepth 20000 in
theorem oLc_0 : zokC code kLc_0 = true := by decide +kernel
def kLc_1 : List (Nat × Instr) := [(225, .aload_n 1), (226, .aload_n 0), (227, .iload_n 3), (228, .iconst 1), (229, .iadd), (230, .iaload), (231, .aload_n 0), (232, .iload_n 3), (233, .iconst 2), (234, .iadd), (235, .iaload), (236, .aload_n 0), (237, .iload_n 3), (238, .iconst 3), (239, .iadd), (240, .iaload), (241, .invokevirtual 18), (244, .aload_n 2), (245, .aload_n 0), (246, .iload_n 3), (247, .iconst 1), (248, .iadd), (249, .iaload), (250, .aload_n 0), (251, .iload_n 3), (252, .iconst 2), (253, .iadd), (254, .iaload), (255, .aload_n 0), (256, .iload_n 3), (257, .iconst 3), (258, .iadd), (259, .iaload), (260, .invokevirtual 22), (263, .if_icmp .eq 882), (266, .iconst 0), (267, .ireturn)]
set_option maxRecDepth 20000 in
theorem oLc_1 : zokC code kLc_1 = true := by decide +kernel
def kLc_2 : List (Nat × Instr) := [(268, .aload_n 1), (269, .aload_n 0), (270, .iload_n 3), (271, .iconst 1), (272, .iadd), (273, .iaload), (274, .invokevirtual 23), (277, .aload_n 2), (278, .aload_n 0), (279, .iload_n 3), (280, .iconst 1), (281, .iadd), (282, .iaload), (283, .invokevirtual 27), (286, .if_icmp .eq 859), (289, .iconst 0), (290, .ireturn)]
set_option maxRecDepth 20000 in
theorem oLc_2 : zokC code kLc_2 = true := by decide +kernel
def kLc_3 : List (Nat × Instr) := [(291, .aload_n 1), (292, .aload_n 0), (293, .iload_n 3), (294, .iconst 1), (295, .iadd), (296, .iaload), (297, .aload_n 0), (298, .iload_n 3), (299, .iconst 2), (300, .iadd), (301, .iaload), (302, .i2l), (303, .bipush 32), (305, .lshl), (306, .aload_n 0), (307, .iload_n 3), (308, .iconst 3), (309, .iadd), (310, .iaload), (311, .i2l), (312, .ldc2_w 28), (315, .land), (316, .lor), (317, .invokevirtual 30), (320, .aload_n 2), (321, .aload_n 0), (322, .iload_n 3), (323, .iconst 1), (324, .iadd), (325, .iaload), (326, .aload_n 0), (327, .iload_n 3), (328, .iconst 2), (329, .iadd), (330, .iaload), (331, .i2l), (332, .bipush 32), (334, .lshl), (335, .aload_n 0), (336, .iload_n 3), (337, .iconst 3), (338, .iadd), (339, .iaload), (340, .i2l), (341, .ldc2_w 28), (344, .land), (345, .lor), (346, .invokevirtual 34), (349, .if_icmp .eq 796), (352, .iconst 0), (353, .ireturn)]
set_option maxRecDepth 20000 in
theorem oLc_3 : zokC code kLc_3 = true := by decide +kernel
def kLc_4 : List (Nat × Instr) := [(354, .aload_n 1), (355, .aload_n 0), (356, .iload_n 3), (357, .iconst 1), (358, .iadd), (359, .iaload), (360, .invokevirtual 35), (363, .aload_n 2), (364, .aload_n 0), (365, .iload_n 3), (366, .iconst 1), (367, .iadd), (368, .iaload), (369, .invokevirtual 38), (372, .if_icmp .eq 773), (375, .iconst 0), (376, .ireturn)]
set_option maxRecDepth 20000 in
theorem oLc_4 : zokC code kLc_4 = true := by decide +kernel
def kLc_5 : List (Nat × Instr) := [(377, .aload_n 1), (378, .aload_n 0), (379, .iload_n 3), (380, .iconst 1), (381, .iadd), (382, .iaload), (383, .aload_n 0), (384, .iload_n 3), (385, .iconst 2), (386, .iadd), (387, .iaload), (388, .i2l), (389, .bipush 32), (391, .lshl), (392, .aload_n 0), (393, .iload_n 3), (394, .iconst 3), (395, .iadd), (396, .iaload), (397, .i2l), (398, .ldc2_w 28), (401, .land), (402, .lor), (403, .invokevirtual 39), (406, .aload_n 2), (407, .aload_n 0), (408, .iload_n 3), (409, .iconst 1), (410, .iadd), (411, .iaload), (412, .aload_n 0), (413, .iload_n 3), (414, .iconst 2), (415, .iadd), (416, .iaload), (417, .i2l), (418, .bipush 32), (420, .lshl), (421, .aload_n 0), (422, .iload_n 3), (423, .iconst 3), (424, .iadd), (425, .iaload), (426, .i2l), (427, .ldc2_w 28), (430, .land), (431, .lor), (432, .invokevirtual 42), (435, .if_icmp .eq 710), (438, .iconst 0), (439, .ireturn)]
set_option maxRecDepth 20000 in
theorem oLc_5 : zokC code kLc_5 = true := by decide +kernel
def kLc_6 : List (Nat × Instr) := [(440, .aload_n 1), (441, .invokevirtual 43), (444, .aload_n 2), (445, .invokevirtual 47), (448, .if_icmp .eq 697), (451, .iconst 0), (452, .ireturn)]
set_option maxRecDepth 20000 in
theorem oLc_6 : zokC code kLc_6 = true := by decide +kernel
def kLc_7 : List (Nat × Instr) := [(453, .aload_n 1), (454, .aload_n 0), (455, .iload_n 3), (456, .iconst 1), (457, .iadd), (458, .iaload), (459, .aload_n 0), (460, .iload_n 3), (461, .iconst 2), (462, .iadd), (463, .iaload), (464, .invokevirtual 48), (467, .aload_n 2), (468, .aload_n 0), (469, .iload_n 3), (470, .iconst 1), (471, .iadd), (472, .iaload), (473, .aload_n 0), (474, .iload_n 3), (475, .iconst 2), (476, .iadd), (477, .iaload), (478, .invokevirtual 52), (481, .if_icmp .eq 664), (484, .iconst 0), (485, .ireturn)]
set_option maxRecDepth 20000 in
theorem oLc_7 : zokC code kLc_7 = true := by decide +kernel
def kLc_8 : List (Nat × Instr) := [(486, .aload_n 1), (487, .aload_n 0), (488, .iload_n 3), (489, .iconst 1), (490, .iadd), (491, .iaload), (492, .aload_n 0), (493, .iload_n 3), (494, .iconst 2), (495, .iadd), (496, .iaload), (497, .invokevirtual 53), (500, .aload_n 2), (501, .aload_n 0), (502, .iload_n 3), (503, .iconst 1), (504, .iadd), (505, .iaload), (506, .aload_n 0), (507, .iload_n 3), (508, .iconst 2), (509, .iadd), (510, .iaload), (511, .invokevirtual 56), (514, .if_icmp .eq 631), (517, .iconst 0), (518, .ireturn)]
set_option maxRecDepth 20000 in
theorem oLc_8 : zokC code kLc_8 = true := by decide +kernel
def kLc_9 : List (Nat × Instr) := [(519, .aload_n 1), (520, .aload_n 0), (521, .iload_n 3), (522, .iconst 1), (523, .iadd), (524, .iaload), (525, .aload_n 0), (526, .iload_n 3), (527, .iconst 2), (528, .iadd), (529, .iaload), (530, .invokevirtual 57), (533, .aload_n 2), (534, .aload_n 0), (535, .iload_n 3), (536, .iconst 1), (537, .iadd), (538, .iaload), (539, .aload_n 0), (540, .iload_n 3), (541, .iconst 2), (542, .iadd), (543, .iaload), (544, .invokevirtual 60), (547, .if_icmp .eq 598), (550, .iconst 0), (551, .ireturn)]
set_option maxRecDepth 20000 in
theorem oLc_9 : zokC code kLc_9 = true := by decide +kernel
def kLc_10 : List (Nat × Instr) := [(552, .aload_n 1), (553, .aload_n 0), (554, .iload_n 3), (555, .iconst 1), (556, .iadd), (557, .iaload), (558, .aload_n 0), (559, .iload_n 3), (560, .iconst 2), (561, .iadd), (562, .iaload), (563, .invokevirtual 61), (566, .aload_n 2), (567, .aload_n 0), (568, .iload_n 3), (569, .iconst 1), (570, .iadd), (571, .iaload), (572, .aload_n 0), (573, .iload_n 3), (574, .iconst 2), (575, .iadd), (576, .iaload), (577, .invokevirtual 64), (580, .if_icmp .eq 565), (583, .iconst 0), (584, .ireturn)]
set_option maxRecDepth 20000 in
theorem oLc_10 : zokC code kLc_10 = true := by decide +kernel
def kLc_11 : List (Nat × Instr) := [(585, .aload_n 1), (586, .aload_n 0), (587, .iload_n 3), (588, .iconst 1), (589, .iadd), (590, .iaload), (591, .invokevirtual 65), (594, .aload_n 2), (595, .aload_n 0), (596, .iload_n 3), (597, .iconst 1), (598, .iadd), (599, .iaload), (600, .invokevirtual 68), (603, .if_icmp .eq 542), (606, .iconst 0), (607, .ireturn)]
set_option maxRecDepth 20000 in
theorem oLc_11 : zokC code kLc_11 = true := by decide +kernel
def kLc_12 : List (Nat × Instr) := [(608, .aload_n 1), (609, .aload_n 0), (610, .iload_n 3), (611, .iconst 1), (612, .iadd), (613, .iaload), (614, .aload_n 0), (615, .iload_n 3), (616, .iconst 2), (617, .iadd), (618, .iaload), (619, .invokevirtual 69), (622, .aload_n 2), (623, .aload_n 0), (624, .iload_n 3), (625, .iconst 1), (626, .iadd), (627, .iaload), (628, .aload_n 0), (629, .iload_n 3), (630, .iconst 2), (631, .iadd), (632, .iaload), (633, .invokevirtual 72), (636, .if_icmp .eq 509), (639, .iconst 0), (640, .ireturn)]
set_option maxRecDepth 20000 in
theorem oLc_12 : zokC code kLc_12 = true := by decide +kernel
def kLc_13 : List (Nat × Instr) := [(641, .aload_n 1), (642, .aload_n 0), (643, .iload_n 3), (644, .iconst 1), (645, .iadd), (646, .iaload), (647, .invokevirtual 73), (650, .aload_n 2), (651, .aload_n 0), (652, .iload_n 3), (653, .iconst 1), (654, .iadd), (655, .iaload), (656, .invokevirtual 76), (659, .if_icmp .eq 486), (662, .iconst 0), (663, .ireturn)]
set_option maxRecDepth 20000 in
theorem oLc_13 : zokC code kLc_13 = true := by decide +kernel
def kLc_14 : List (Nat × Instr) := [(664, .aload_n 1), (665, .aload_n 0), (666, .iload_n 3), (667, .iconst 1), (668, .iadd), (669, .iaload), (670, .invokevirtual 77), (673, .aload_n 2), (674, .aload_n 0), (675, .iload_n 3), (676, .iconst 1), (677, .iadd), (678, .iaload), (679, .invokevirtual 80), (682, .if_icmp .eq 463), (685, .iconst 0), (686, .ireturn)]
set_option maxRecDepth 20000 in
theorem oLc_14 : zokC code kLc_14 = true := by decide +kernel
def kLc_15 : List (Nat × Instr) := [(687, .aload_n 1), (688, .aload_n 0), (689, .iload_n 3), (690, .iconst 1), (691, .iadd), (692, .iaload), (693, .invokevirtual 81), (696, .aload_n 2), (697, .aload_n 0), (698, .iload_n 3), (699, .iconst 1), (700, .iadd), (701, .iaload), (702, .invokevirtual 84), (705, .if_icmp .eq 440), (708, .iconst 0), (709, .ireturn)]
set_option maxRecDepth 20000 in
theorem oLc_15 : zokC code kLc_15 = true := by decide +kernel
def kLc_16 : List (Nat × Instr) := [(710, .aload_n 1), (711, .aload_n 0), (712, .iload_n 3), (713, .iconst 1), (714, .iadd), (715, .iaload), (716, .invokevirtual 85), (719, .aload_n 2), (720, .aload_n 0), (721, .iload_n 3), (722, .iconst 1), (723, .iadd), (724, .iaload), (725, .invokevirtual 88), (728, .if_icmp .eq 417), (731, .iconst 0), (732, .ireturn)]
set_option maxRecDepth 20000 in
theorem oLc_16 : zokC code kLc_16 = true := by decide +kernel
def kLc_17 : List (Nat × Instr) := [(733, .aload_n 1), (734, .aload_n 0), (735, .iload_n 3), (736, .iconst 1), (737, .iadd), (738, .iaload), (739, .invokevirtual 89), (742, .aload_n 2), (743, .aload_n 0), (744, .iload_n 3), (745, .iconst 1), (746, .iadd), (747, .iaload), (748, .invokevirtual 92), (751, .if_icmp .eq 394), (754, .iconst 0), (755, .ireturn)]
set_option maxRecDepth 20000 in
theorem oLc_17 : zokC code kLc_17 = true := by decide +kernel
def kLc_18 : List (Nat × Instr) := [(756, .aload_n 1), (757, .aload_n 0), (758, .iload_n 3), (759, .iconst 1), (760, .iadd), (761, .iaload), (762, .invokevirtual 93), (765, .aload_n 2), (766, .aload_n 0), (767, .iload_n 3), (768, .iconst 1), (769, .iadd), (770, .iaload), (771, .invokevirtual 96), (774, .if_icmp .eq 371), (777, .iconst 0), (778, .ireturn)]
set_option maxRecDepth 20000 in
theorem oLc_18 : zokC code kLc_18 = true := by decide +kernel
def kLc_19 : List (Nat × Instr) := [(779, .aload_n 1), (780, .aload_n 0), (781, .iload_n 3), (782, .iconst 1), (783, .iadd), (784, .iaload), (785, .aload_n 0), (786, .iload_n 3), (787, .iconst 2), (788, .iadd), (789, .iaload), (790, .aload_n 0), (791, .iload_n 3), (792, .iconst 3), (793, .iadd), (794, .iaload), (795, .invokevirtual 97), (798, .aload_n 2), (799, .aload_n 0), (800, .iload_n 3), (801, .iconst 1), (802, .iadd), (803, .iaload), (804, .aload_n 0), (805, .iload_n 3), (806, .iconst 2), (807, .iadd), (808, .iaload), (809, .aload_n 0), (810, .iload_n 3), (811, .iconst 3), (812, .iadd), (813, .iaload), (814, .invokevirtual 100), (817, .if_icmp .eq 328), (820, .iconst 0), (821, .ireturn)]
set_option maxRecDepth 20000 in
theorem oLc_19 : zokC code kLc_19 = true := by decide +kernel
def kLc_20 : List (Nat × Instr) := [(822, .aload_n 1), (823, .aload_n 0), (824, .iload_n 3), (825, .iconst 1), (826, .iadd), (827, .iaload), (828, .invokevirtual 101), (831, .aload_n 2), (832, .aload_n 0), (833, .iload_n 3), (834, .iconst 1), (835, .iadd), (836, .iaload), (837, .invokevirtual 104), (840, .if_icmp .eq 305), (843, .iconst 0), (844, .ireturn)]
set_option maxRecDepth 20000 in
theorem oLc_20 : zokC code kLc_20 = true := by decide +kernel
def kLc_21 : List (Nat × Instr) := [(845, .aload_n 1), (846, .aload_n 0), (847, .iload_n 3), (848, .iconst 1), (849, .iadd), (850, .iaload), (851, .aload_n 0), (852, .iload_n 3), (853, .iconst 2), (854, .iadd), (855, .iaload), (856, .invokevirtual 105), (859, .aload_n 2), (860, .aload_n 0), (861, .iload_n 3), (862, .iconst 1), (863, .iadd), (864, .iaload), (865, .aload_n 0), (866, .iload_n 3), (867, .iconst 2), (868, .iadd), (869, .iaload), (870, .invokevirtual 108), (873, .if_icmp .eq 272), (876, .iconst 0), (877, .ireturn)]
set_option maxRecDepth 20000 in
theorem oLc_21 : zokC code kLc_21 = true := by decide +kernel
def kLc_22 : List (Nat × Instr) := [(878, .aload_n 1), (879, .aload_n 0), (880, .iload_n 3), (881, .iconst 1), (882, .iadd), (883, .iaload), (884, .invokevirtual 109), (887, .aload_n 2), (888, .aload_n 0), (889, .iload_n 3), (890, .iconst 1), (891, .iadd), (892, .iaload), (893, .invokevirtual 112), (896, .if_icmp .eq 249), (899, .iconst 0), (900, .ireturn)]
set_option maxRecDepth 20000 in
theorem oLc_22 : zokC code kLc_22 = true := by decide +kernel
def kLc_23 : List (Nat × Instr) := [(901, .aload_n 1), (902, .aload_n 0), (903, .iload_n 3), (904, .iconst 1), (905, .iadd), (906, .iaload), (907, .aload_n 0), (908, .iload_n 3), (909, .iconst 2), (910, .iadd), (911, .iaload), (912, .aload_n 0), (913, .iload_n 3), (914, .iconst 3), (915, .iadd), (916, .iaload), (917, .aload_n 0), (918, .iload_n 3), (919, .iconst 4), (920, .iadd), (921, .iaload), (922, .invokevirtual 113), (925, .aload_n 2), (926, .aload_n 0), (927, .iload_n 3), (928, .iconst 1), (929, .iadd), (930, .iaload), (931, .aload_n 0), (932, .iload_n 3), (933, .iconst 2), (934, .iadd), (935, .iaload), (936, .aload_n 0), (937, .iload_n 3), (938, .iconst 3), (939, .iadd), (940, .iaload), (941, .aload_n 0), (942, .iload_n 3), (943, .iconst 4), (944, .iadd), (945, .iaload), (946, .invokevirtual 116), (949, .if_icmp .eq 196), (952, .iconst 0), (953, .ireturn)]
set_option maxRecDepth 20000 in
theorem oLc_23 : zokC code kLc_23 = true := by decide +kernel
def kLc_24 : List (Nat × Instr) := [(954, .aload_n 1), (955, .aload_n 0), (956, .iload_n 3), (957, .iconst 1), (958, .iadd), (959, .iaload), (960, .aload_n 0), (961, .iload_n 3), (962, .iconst 2), (963, .iadd), (964, .iaload), (965, .aload_n 0), (966, .iload_n 3), (967, .iconst 3), (968, .iadd), (969, .iaload), (970, .aload_n 0), (971, .iload_n 3), (972, .iconst 4), (973, .iadd), (974, .iaload), (975, .invokevirtual 117), (978, .aload_n 2), (979, .aload_n 0), (980, .iload_n 3), (981, .iconst 1), (982, .iadd), (983, .iaload), (984, .aload_n 0), (985, .iload_n 3), (986, .iconst 2), (987, .iadd), (988, .iaload), (989, .aload_n 0), (990, .iload_n 3), (991, .iconst 3), (992, .iadd), (993, .iaload), (994, .aload_n 0), (995, .iload_n 3), (996, .iconst 4), (997, .iadd), (998, .iaload), (999, .invokevirtual 120), (1002, .if_icmp .eq 143), (1005, .iconst 0), (1006, .ireturn)]
set_option maxRecDepth 20000 in
theorem oLc_24 : zokC code kLc_24 = true := by decide +kernel
def kLc_25 : List (Nat × Instr) := [(1007, .aload_n 1), (1008, .aload_n 0), (1009, .iload_n 3), (1010, .iconst 1), (1011, .iadd), (1012, .iaload), (1013, .aload_n 0), (1014, .iload_n 3), (1015, .iconst 2), (1016, .iadd), (1017, .iaload), (1018, .invokevirtual 121), (1021, .aload_n 2), (1022, .aload_n 0), (1023, .iload_n 3), (1024, .iconst 1), (1025, .iadd), (1026, .iaload), (1027, .aload_n 0), (1028, .iload_n 3), (1029, .iconst 2), (1030, .iadd), (1031, .iaload), (1032, .invokevirtual 124), (1035, .if_icmp .eq 110), (1038, .iconst 0), (1039, .ireturn)]
set_option maxRecDepth 20000 in
theorem oLc_25 : zokC code kLc_25 = true := by decide +kernel
def kLc_26 : List (Nat × Instr) := [(1040, .aload_n 1), (1041, .aload_n 0), (1042, .iload_n 3), (1043, .iconst 1), (1044, .iadd), (1045, .iaload), (1046, .aload_n 0), (1047, .iload_n 3), (1048, .iconst 2), (1049, .iadd), (1050, .iaload), (1051, .invokevirtual 125), (1054, .aload_n 2), (1055, .aload_n 0), (1056, .iload_n 3), (1057, .iconst 1), (1058, .iadd), (1059, .iaload), (1060, .aload_n 0), (1061, .iload_n 3), (1062, .iconst 2), (1063, .iadd), (1064, .iaload), (1065, .invokevirtual 128), (1068, .if_icmp .eq 77), (1071, .iconst 0), (1072, .ireturn)]
set_option maxRecDepth 20000 in
theorem oLc_26 : zokC code kLc_26 = true := by decide +kernel
def kLc_27 : List (Nat × Instr) := [(1073, .aload_n 1), (1074, .aload_n 0), (1075, .iload_n 3), (1076, .iconst 1), (1077, .iadd), (1078, .iaload), (1079, .invokevirtual 129), (1082, .aload_n 2), (1083, .aload_n 0), (1084, .iload_n 3), (1085, .iconst 1), (1086, .iadd), (1087, .iaload), (1088, .invokevirtual 132), (1091, .if_icmp .eq 54), (1094, .iconst 0), (1095, .ireturn)]
set_option maxRecDepth 20000 in
theorem oLc_27 : zokC code kLc_27 = true := by decide +kernel
def kLc_28 : List (Nat × Instr) := [(1096, .aload_n 1), (1097, .invokevirtual 133), (1100, .aload_n 2), (1101, .invokevirtual 136), (1104, .if_icmp .eq 41), (1107, .iconst 0), (1108, .ireturn)]
set_option maxRecDepth 20000 in
theorem oLc_28 : zokC code kLc_28 = true := by decide +kernel
def kLc_29 : List (Nat × Instr) := [(1109, .aload_n 1), (1110, .invokevirtual 137), (1113, .aload_n 2), (1114, .invokevirtual 140), (1117, .if_icmp .eq 28), (1120, .iconst 0), (1121, .ireturn)]
set_option maxRecDepth 20000 in
theorem oLc_29 : zokC code kLc_29 = true := by decide +kernel
def kLc_30 : List (Nat × Instr) := [(1122, .aload_n 1), (1123, .aload_n 0), (1124, .iload_n 3), (1125, .iconst 1), (1126, .iadd), (1127, .iaload), (1128, .invokevirtual 141), (1131, .aload_n 2), (1132, .aload_n 0), (1133, .iload_n 3), (1134, .iconst 1), (1135, .iadd), (1136, .iaload), (1137, .invokevirtual 144), (1140, .if_icmp .eq 5), (1143, .iconst 0), (1144, .ireturn)]
set_option maxRecDepth 20000 in
theorem oLc_30 : zokC code kLc_30 = true := by decide +kernel
def kLc_h : List (Nat × Instr) := [(18, .iload_n 3), (19, .aload_n 0), (20, .arraylength), (21, .iconst 5), (22, .isub), (23, .if_icmp .gt 1128), (26, .aload_n 0), (27, .iload_n 3), (28, .iaload), (29, .bipush 31), (31, .iand), (32, .tableswitch 1113 0 30 #[140, 193, 236, 259, 322, 345, 408, 421, 454, 487, 520, 553, 576, 609, 632, 655, 678, 701, 724, 747, 790, 813, 846, 869, 922, 975, 1008, 1041, 1064, 1077, 1090]), (1145, .iinc 3 5), (1148, .goto (-1130)), (1151, .iconst 1), (1152, .ireturn)]
set_option maxRecDepth 20000 in
theorem oLc_h : zokC code kLc_h = true := by decide +kernel
def kLc_s : List (Nat × Instr) := [(0, .new 7), (3, .dup), (4, .invokespecial 9), (7, .astore_n 1), (8, .new 10), (11, .dup), (12, .invokespecial 12), (15, .astore_n 2), (16, .iconst 0), (17, .istore_n 3)]
set_option maxRecDepth 20000 in
theorem oLc_s : zokC code kLc_s = true := by decide +kernel
section LC
variable {l : Launch} {D : va_G} {C : zC} {L : Nat} {xs : Nat → Int32} {Z : Nat → Nat → zP} {M : zM} {Y : zY} {S : zF} {P : List zRu} {c i kc ks : Nat}
set_option maxRecDepth 10000 in
theorem lc_0 (o : zOpL l D C kLc_0 L xs Z) (hY : repY P Y S c) (hM : repM M S) (hP : P.length ≤ 5000) (hc : c ≤ 100) (hi : i + 4 < L) (hkc : kc ≤ 600000) (hks : ks ≤ 7302250) (K : ∀ (Y' : zY) (M' : zM) (S' : zF), repY P Y' S' (c + 1) → repM M' S' → Z kc ks 1145 (LW M' Y' P) (lvL i) []) : Z kc ks 172 (LW M Y P) (lvL i) [] := by
  refine o.1 kc ks 1 [] 172 _ _ _ hkc hks ?_
  refine o.sa (pc := 173) (k := 1) (by omega) hkc hks ?_
  refine o.sa (pc := 178) (k := 2) (by omega) hkc hks ?_
  refine o.sa (pc := 183) (k := 3) (by omega) hkc hks ?_
  refine o.sa (pc := 188) (k := 4) (by omega) hkc hks ?_
  refine o.cY (pc := 193) (As := [.int (xs (i + 1)), .int (xs (i + 2)), .int (xs (i + 3)), .int (xs (i + 4))]) vL_13 (y_way hY) (fun Y' hY' => ?_) hP hkc hks
  refine o.1 kc ks 1 [] 196 _ _ _ hkc hks ?_
  refine o.sa (pc := 197) (k := 1) (by omega) hkc hks ?_
  refine o.sa (pc := 202) (k := 2) (by omega) hkc hks ?_
  refine o.sa (pc := 207) (k := 3) (by omega) hkc hks ?_
  refine o.sa (pc := 212) (k := 4) (by omega) hkc hks ?_
  refine o.cM (pc := 217) (As := [.int (xs (i + 1)), .int (xs (i + 2)), .int (xs (i + 3)), .int (xs (i + 4))]) vL_17 (m_way hM hY.2.1.2) (fun M' hM' => ?_) hkc hks
  exact o.1 kc ks 1 [] 220 _ _ _ hkc hks ⟨fun _ => K Y' M' _ hY' hM', fun q => absurd rfl q⟩
set_option maxRecDepth 10000 in
theorem lc_1 (o : zOpL l D C kLc_1 L xs Z) (hY : repY P Y S c) (hM : repM M S) (hP : P.length ≤ 5000) (hc : c ≤ 100) (hi : i + 4 < L) (hkc : kc ≤ 600000) (hks : ks ≤ 7302250) (K : ∀ (Y' : zY) (M' : zM) (S' : zF), repY P Y' S' (c + 1) → repM M' S' → Z kc ks 1145 (LW M' Y' P) (lvL i) []) : Z kc ks 225 (LW M Y P) (lvL i) [] := by
  refine o.1 kc ks 1 [] 225 _ _ _ hkc hks ?_
  refine o.sa (pc := 226) (k := 1) (by omega) hkc hks ?_
  refine o.sa (pc := 231) (k := 2) (by omega) hkc hks ?_
  refine o.sa (pc := 236) (k := 3) (by omega) hkc hks ?_
  refine o.cY (pc := 241) (As := [.int (xs (i + 1)), .int (xs (i + 2)), .int (xs (i + 3))]) vL_18 (y_brings hY) (fun Y' hY' => ?_) hP hkc hks
  refine o.1 kc ks 1 [] 244 _ _ _ hkc hks ?_
  refine o.sa (pc := 245) (k := 1) (by omega) hkc hks ?_
  refine o.sa (pc := 250) (k := 2) (by omega) hkc hks ?_
  refine o.sa (pc := 255) (k := 3) (by omega) hkc hks ?_
  refine o.cM (pc := 260) (As := [.int (xs (i + 1)), .int (xs (i + 2)), .int (xs (i + 3))]) vL_22 (m_brings hM hY.2.1.2) (fun M' hM' => ?_) hkc hks
  exact o.1 kc ks 1 [] 263 _ _ _ hkc hks ⟨fun _ => K Y' M' _ hY' hM', fun q => absurd rfl q⟩
set_option maxRecDepth 10000 in
theorem lc_2 (o : zOpL l D C kLc_2 L xs Z) (hY : repY P Y S c) (hM : repM M S) (hP : P.length ≤ 5000) (hc : c ≤ 100) (hi : i + 4 < L) (hkc : kc ≤ 600000) (hks : ks ≤ 7302250) (K : ∀ (Y' : zY) (M' : zM) (S' : zF), repY P Y' S' (c + 1) → repM M' S' → Z kc ks 1145 (LW M' Y' P) (lvL i) []) : Z kc ks 268 (LW M Y P) (lvL i) [] := by
  refine o.1 kc ks 1 [] 268 _ _ _ hkc hks ?_
  refine o.sa (pc := 269) (k := 1) (by omega) hkc hks ?_
  refine o.cY (pc := 274) (As := [.int (xs (i + 1))]) vL_23 (y_bestWay hY) (fun Y' hY' => ?_) hP hkc hks
  refine o.1 kc ks 1 [] 277 _ _ _ hkc hks ?_
  refine o.sa (pc := 278) (k := 1) (by omega) hkc hks ?_
  refine o.cM (pc := 283) (As := [.int (xs (i + 1))]) vL_27 (m_bestWay hM hY.2.1.2) (fun M' hM' => ?_) hkc hks
  exact o.1 kc ks 1 [] 286 _ _ _ hkc hks ⟨fun _ => K Y' M' _ hY' hM', fun q => absurd rfl q⟩
set_option maxRecDepth 10000 in
theorem lc_3 (o : zOpL l D C kLc_3 L xs Z) (hY : repY P Y S c) (hM : repM M S) (hP : P.length ≤ 5000) (hc : c ≤ 100) (hi : i + 4 < L) (hkc : kc ≤ 600000) (hks : ks ≤ 7302250) (K : ∀ (Y' : zY) (M' : zM) (S' : zF), repY P Y' S' (c + 1) → repM M' S' → Z kc ks 1145 (LW M' Y' P) (lvL i) []) : Z kc ks 291 (LW M Y P) (lvL i) [] := by
  refine o.1 kc ks 1 [] 291 _ _ _ hkc hks ?_
  refine o.sa (pc := 292) (k := 1) (by omega) hkc hks ?_
  refine o.sa (pc := 297) (k := 2) (by omega) hkc hks ?_
  refine o.1 kc ks 3 [] 302 _ _ _ hkc hks ?_
  refine o.sa (pc := 306) (k := 3) (by omega) hkc hks ?_
  refine o.1 kc ks 4 [] 311 _ _ _ hkc hks ?_
  refine o.cY (pc := 317) (As := [.int (xs (i + 1)), .long (lgL (xs (i + 2)) (xs (i + 3)))]) vL_30 (y_sky hY) (fun Y' hY' => ?_) hP hkc hks
  refine o.1 kc ks 1 [] 320 _ _ _ hkc hks ?_
  refine o.sa (pc := 321) (k := 1) (by omega) hkc hks ?_
  refine o.sa (pc := 326) (k := 2) (by omega) hkc hks ?_
  refine o.1 kc ks 3 [] 331 _ _ _ hkc hks ?_
  refine o.sa (pc := 335) (k := 3) (by omega) hkc hks ?_
  refine o.1 kc ks 4 [] 340 _ _ _ hkc hks ?_
  refine o.cM (pc := 346) (As := [.int (xs (i + 1)), .long (lgL (xs (i + 2)) (xs (i + 3)))]) vL_34 (m_sky hM hY.2.1.2) (fun M' hM' => ?_) hkc hks
  exact o.1 kc ks 1 [] 349 _ _ _ hkc hks ⟨fun _ => K Y' M' _ hY' hM', fun q => absurd rfl q⟩
set_option maxRecDepth 10000 in
theorem lc_4 (o : zOpL l D C kLc_4 L xs Z) (hY : repY P Y S c) (hM : repM M S) (hP : P.length ≤ 5000) (hc : c ≤ 100) (hi : i + 4 < L) (hkc : kc ≤ 600000) (hks : ks ≤ 7302250) (K : ∀ (Y' : zY) (M' : zM) (S' : zF), repY P Y' S' (c + 1) → repM M' S' → Z kc ks 1145 (LW M' Y' P) (lvL i) []) : Z kc ks 354 (LW M Y P) (lvL i) [] := by
  refine o.1 kc ks 1 [] 354 _ _ _ hkc hks ?_
  refine o.sa (pc := 355) (k := 1) (by omega) hkc hks ?_
  refine o.cY (pc := 360) (As := [.int (xs (i + 1))]) vL_35 (y_weather hY) (fun Y' hY' => ?_) hP hkc hks
  refine o.1 kc ks 1 [] 363 _ _ _ hkc hks ?_
  refine o.sa (pc := 364) (k := 1) (by omega) hkc hks ?_
  refine o.cM (pc := 369) (As := [.int (xs (i + 1))]) vL_38 (m_weather hM hY.2.1.2) (fun M' hM' => ?_) hkc hks
  exact o.1 kc ks 1 [] 372 _ _ _ hkc hks ⟨fun _ => K Y' M' _ hY' hM', fun q => absurd rfl q⟩
set_option maxRecDepth 10000 in
theorem lc_5 (o : zOpL l D C kLc_5 L xs Z) (hY : repY P Y S c) (hM : repM M S) (hP : P.length ≤ 5000) (hc : c ≤ 100) (hi : i + 4 < L) (hkc : kc ≤ 600000) (hks : ks ≤ 7302250) (K : ∀ (Y' : zY) (M' : zM) (S' : zF), repY P Y' S' (c + 1) → repM M' S' → Z kc ks 1145 (LW M' Y' P) (lvL i) []) : Z kc ks 377 (LW M Y P) (lvL i) [] := by
  refine o.1 kc ks 1 [] 377 _ _ _ hkc hks ?_
  refine o.sa (pc := 378) (k := 1) (by omega) hkc hks ?_
  refine o.sa (pc := 383) (k := 2) (by omega) hkc hks ?_
  refine o.1 kc ks 3 [] 388 _ _ _ hkc hks ?_
  refine o.sa (pc := 392) (k := 3) (by omega) hkc hks ?_
  refine o.1 kc ks 4 [] 397 _ _ _ hkc hks ?_
  refine o.cY (pc := 403) (As := [.int (xs (i + 1)), .long (lgL (xs (i + 2)) (xs (i + 3)))]) vL_39 (y_feed hY) (fun Y' hY' => ?_) hP hkc hks
  refine o.1 kc ks 1 [] 406 _ _ _ hkc hks ?_
  refine o.sa (pc := 407) (k := 1) (by omega) hkc hks ?_
  refine o.sa (pc := 412) (k := 2) (by omega) hkc hks ?_
  refine o.1 kc ks 3 [] 417 _ _ _ hkc hks ?_
  refine o.sa (pc := 421) (k := 3) (by omega) hkc hks ?_
  refine o.1 kc ks 4 [] 426 _ _ _ hkc hks ?_
  refine o.cM (pc := 432) (As := [.int (xs (i + 1)), .long (lgL (xs (i + 2)) (xs (i + 3)))]) vL_42 (m_feed hM hY.2.1.2) (fun M' hM' => ?_) hkc hks
  exact o.1 kc ks 1 [] 435 _ _ _ hkc hks ⟨fun _ => K Y' M' _ hY' hM', fun q => absurd rfl q⟩
set_option maxRecDepth 10000 in
theorem lc_7 (o : zOpL l D C kLc_7 L xs Z) (hY : repY P Y S c) (hM : repM M S) (hP : P.length ≤ 5000) (hc : c ≤ 100) (hi : i + 4 < L) (hkc : kc ≤ 600000) (hks : ks ≤ 7302250) (K : ∀ (Y' : zY) (M' : zM) (S' : zF), repY P Y' S' (c + 1) → repM M' S' → Z kc ks 1145 (LW M' Y' P) (lvL i) []) : Z kc ks 453 (LW M Y P) (lvL i) [] := by
  refine o.1 kc ks 1 [] 453 _ _ _ hkc hks ?_
  refine o.sa (pc := 454) (k := 1) (by omega) hkc hks ?_
  refine o.sa (pc := 459) (k := 2) (by omega) hkc hks ?_
  refine o.cY (pc := 464) (As := [.int (xs (i + 1)), .int (xs (i + 2))]) vL_48 (y_person hY) (fun Y' hY' => ?_) hP hkc hks
  refine o.1 kc ks 1 [] 467 _ _ _ hkc hks ?_
  refine o.sa (pc := 468) (k := 1) (by omega) hkc hks ?_
  refine o.sa (pc := 473) (k := 2) (by omega) hkc hks ?_
  refine o.cM (pc := 478) (As := [.int (xs (i + 1)), .int (xs (i + 2))]) vL_52 (m_person hM hY.2.1.2) (fun M' hM' => ?_) hkc hks
  exact o.1 kc ks 1 [] 481 _ _ _ hkc hks ⟨fun _ => K Y' M' _ hY' hM', fun q => absurd rfl q⟩
set_option maxRecDepth 10000 in
theorem lc_8 (o : zOpL l D C kLc_8 L xs Z) (hY : repY P Y S c) (hM : repM M S) (hP : P.length ≤ 5000) (hc : c ≤ 100) (hi : i + 4 < L) (hkc : kc ≤ 600000) (hks : ks ≤ 7302250) (K : ∀ (Y' : zY) (M' : zM) (S' : zF), repY P Y' S' (c + 1) → repM M' S' → Z kc ks 1145 (LW M' Y' P) (lvL i) []) : Z kc ks 486 (LW M Y P) (lvL i) [] := by
  refine o.1 kc ks 1 [] 486 _ _ _ hkc hks ?_
  refine o.sa (pc := 487) (k := 1) (by omega) hkc hks ?_
  refine o.sa (pc := 492) (k := 2) (by omega) hkc hks ?_
  refine o.cY (pc := 497) (As := [.int (xs (i + 1)), .int (xs (i + 2))]) vL_53 (y_sees hY) (fun Y' hY' => ?_) hP hkc hks
  refine o.1 kc ks 1 [] 500 _ _ _ hkc hks ?_
  refine o.sa (pc := 501) (k := 1) (by omega) hkc hks ?_
  refine o.sa (pc := 506) (k := 2) (by omega) hkc hks ?_
  refine o.cM (pc := 511) (As := [.int (xs (i + 1)), .int (xs (i + 2))]) vL_56 (m_sees hM hY.2.1.2) (fun M' hM' => ?_) hkc hks
  exact o.1 kc ks 1 [] 514 _ _ _ hkc hks ⟨fun _ => K Y' M' _ hY' hM', fun q => absurd rfl q⟩
set_option maxRecDepth 10000 in
theorem lc_9 (o : zOpL l D C kLc_9 L xs Z) (hY : repY P Y S c) (hM : repM M S) (hP : P.length ≤ 5000) (hc : c ≤ 100) (hi : i + 4 < L) (hkc : kc ≤ 600000) (hks : ks ≤ 7302250) (K : ∀ (Y' : zY) (M' : zM) (S' : zF), repY P Y' S' (c + 1) → repM M' S' → Z kc ks 1145 (LW M' Y' P) (lvL i) []) : Z kc ks 519 (LW M Y P) (lvL i) [] := by
  refine o.1 kc ks 1 [] 519 _ _ _ hkc hks ?_
  refine o.sa (pc := 520) (k := 1) (by omega) hkc hks ?_
  refine o.sa (pc := 525) (k := 2) (by omega) hkc hks ?_
  refine o.cY (pc := 530) (As := [.int (xs (i + 1)), .int (xs (i + 2))]) vL_57 (y_lives hY) (fun Y' hY' => ?_) hP hkc hks
  refine o.1 kc ks 1 [] 533 _ _ _ hkc hks ?_
  refine o.sa (pc := 534) (k := 1) (by omega) hkc hks ?_
  refine o.sa (pc := 539) (k := 2) (by omega) hkc hks ?_
  refine o.cM (pc := 544) (As := [.int (xs (i + 1)), .int (xs (i + 2))]) vL_60 (m_lives hM hY.2.1.2) (fun M' hM' => ?_) hkc hks
  exact o.1 kc ks 1 [] 547 _ _ _ hkc hks ⟨fun _ => K Y' M' _ hY' hM', fun q => absurd rfl q⟩
set_option maxRecDepth 10000 in
theorem lc_10 (o : zOpL l D C kLc_10 L xs Z) (hY : repY P Y S c) (hM : repM M S) (hP : P.length ≤ 5000) (hc : c ≤ 100) (hi : i + 4 < L) (hkc : kc ≤ 600000) (hks : ks ≤ 7302250) (K : ∀ (Y' : zY) (M' : zM) (S' : zF), repY P Y' S' (c + 1) → repM M' S' → Z kc ks 1145 (LW M' Y' P) (lvL i) []) : Z kc ks 552 (LW M Y P) (lvL i) [] := by
  refine o.1 kc ks 1 [] 552 _ _ _ hkc hks ?_
  refine o.sa (pc := 553) (k := 1) (by omega) hkc hks ?_
  refine o.sa (pc := 558) (k := 2) (by omega) hkc hks ?_
  refine o.cY (pc := 563) (As := [.int (xs (i + 1)), .int (xs (i + 2))]) vL_61 (y_plants hY) (fun Y' hY' => ?_) hP hkc hks
  refine o.1 kc ks 1 [] 566 _ _ _ hkc hks ?_
  refine o.sa (pc := 567) (k := 1) (by omega) hkc hks ?_
  refine o.sa (pc := 572) (k := 2) (by omega) hkc hks ?_
  refine o.cM (pc := 577) (As := [.int (xs (i + 1)), .int (xs (i + 2))]) vL_64 (m_plants hM hY.2.1.2) (fun M' hM' => ?_) hkc hks
  exact o.1 kc ks 1 [] 580 _ _ _ hkc hks ⟨fun _ => K Y' M' _ hY' hM', fun q => absurd rfl q⟩
set_option maxRecDepth 10000 in
theorem lc_11 (o : zOpL l D C kLc_11 L xs Z) (hY : repY P Y S c) (hM : repM M S) (hP : P.length ≤ 5000) (hc : c ≤ 100) (hi : i + 4 < L) (hkc : kc ≤ 600000) (hks : ks ≤ 7302250) (K : ∀ (Y' : zY) (M' : zM) (S' : zF), repY P Y' S' (c + 1) → repM M' S' → Z kc ks 1145 (LW M' Y' P) (lvL i) []) : Z kc ks 585 (LW M Y P) (lvL i) [] := by
  refine o.1 kc ks 1 [] 585 _ _ _ hkc hks ?_
  refine o.sa (pc := 586) (k := 1) (by omega) hkc hks ?_
  refine o.cY (pc := 591) (As := [.int (xs (i + 1))]) vL_65 (y_show hY) (fun Y' hY' => ?_) hP hkc hks
  refine o.1 kc ks 1 [] 594 _ _ _ hkc hks ?_
  refine o.sa (pc := 595) (k := 1) (by omega) hkc hks ?_
  refine o.cM (pc := 600) (As := [.int (xs (i + 1))]) vL_68 (m_show hM hY.2.1.2) (fun M' hM' => ?_) hkc hks
  exact o.1 kc ks 1 [] 603 _ _ _ hkc hks ⟨fun _ => K Y' M' _ hY' hM', fun q => absurd rfl q⟩
set_option maxRecDepth 10000 in
theorem lc_12 (o : zOpL l D C kLc_12 L xs Z) (hY : repY P Y S c) (hM : repM M S) (hP : P.length ≤ 5000) (hc : c ≤ 100) (hi : i + 4 < L) (hkc : kc ≤ 600000) (hks : ks ≤ 7302250) (K : ∀ (Y' : zY) (M' : zM) (S' : zF), repY P Y' S' (c + 1) → repM M' S' → Z kc ks 1145 (LW M' Y' P) (lvL i) []) : Z kc ks 608 (LW M Y P) (lvL i) [] := by
  refine o.1 kc ks 1 [] 608 _ _ _ hkc hks ?_
  refine o.sa (pc := 609) (k := 1) (by omega) hkc hks ?_
  refine o.sa (pc := 614) (k := 2) (by omega) hkc hks ?_
  refine o.cY (pc := 619) (As := [.int (xs (i + 1)), .int (xs (i + 2))]) vL_69 (y_of hY hc) (fun Y' hY' => ?_) hP hkc hks
  refine o.1 kc ks 1 [] 622 _ _ _ hkc hks ?_
  refine o.sa (pc := 623) (k := 1) (by omega) hkc hks ?_
  refine o.sa (pc := 628) (k := 2) (by omega) hkc hks ?_
  refine o.cM (pc := 633) (As := [.int (xs (i + 1)), .int (xs (i + 2))]) vL_72 (m_of hM hY.2.1.2 hc) (fun M' hM' => ?_) hkc hks
  exact o.1 kc ks 1 [] 636 _ _ _ hkc hks ⟨fun _ => K Y' M' _ hY' hM', fun q => absurd rfl q⟩
set_option maxRecDepth 10000 in
theorem lc_13 (o : zOpL l D C kLc_13 L xs Z) (hY : repY P Y S c) (hM : repM M S) (hP : P.length ≤ 5000) (hc : c ≤ 100) (hi : i + 4 < L) (hkc : kc ≤ 600000) (hks : ks ≤ 7302250) (K : ∀ (Y' : zY) (M' : zM) (S' : zF), repY P Y' S' (c + 1) → repM M' S' → Z kc ks 1145 (LW M' Y' P) (lvL i) []) : Z kc ks 641 (LW M Y P) (lvL i) [] := by
  refine o.1 kc ks 1 [] 641 _ _ _ hkc hks ?_
  refine o.sa (pc := 642) (k := 1) (by omega) hkc hks ?_
  refine o.cY (pc := 647) (As := [.int (xs (i + 1))]) vL_73 (y_next hY hc) (fun Y' hY' => ?_) hP hkc hks
  refine o.1 kc ks 1 [] 650 _ _ _ hkc hks ?_
  refine o.sa (pc := 651) (k := 1) (by omega) hkc hks ?_
  refine o.cM (pc := 656) (As := [.int (xs (i + 1))]) vL_76 (m_next hM hY.2.1.2 hc) (fun M' hM' => ?_) hkc hks
  exact o.1 kc ks 1 [] 659 _ _ _ hkc hks ⟨fun _ => K Y' M' _ hY' hM', fun q => absurd rfl q⟩
set_option maxRecDepth 10000 in
theorem lc_14 (o : zOpL l D C kLc_14 L xs Z) (hY : repY P Y S c) (hM : repM M S) (hP : P.length ≤ 5000) (hc : c ≤ 100) (hi : i + 4 < L) (hkc : kc ≤ 600000) (hks : ks ≤ 7302250) (K : ∀ (Y' : zY) (M' : zM) (S' : zF), repY P Y' S' (c + 1) → repM M' S' → Z kc ks 1145 (LW M' Y' P) (lvL i) []) : Z kc ks 664 (LW M Y P) (lvL i) [] := by
  refine o.1 kc ks 1 [] 664 _ _ _ hkc hks ?_
  refine o.sa (pc := 665) (k := 1) (by omega) hkc hks ?_
  refine o.cY (pc := 670) (As := [.int (xs (i + 1))]) vL_77 (y_go hY hc) (fun Y' hY' => ?_) hP hkc hks
  refine o.1 kc ks 1 [] 673 _ _ _ hkc hks ?_
  refine o.sa (pc := 674) (k := 1) (by omega) hkc hks ?_
  refine o.cM (pc := 679) (As := [.int (xs (i + 1))]) vL_80 (m_go hM hY.2.1.2 hc) (fun M' hM' => ?_) hkc hks
  exact o.1 kc ks 1 [] 682 _ _ _ hkc hks ⟨fun _ => K Y' M' _ hY' hM', fun q => absurd rfl q⟩
set_option maxRecDepth 10000 in
theorem lc_15 (o : zOpL l D C kLc_15 L xs Z) (hY : repY P Y S c) (hM : repM M S) (hP : P.length ≤ 5000) (hc : c ≤ 100) (hi : i + 4 < L) (hkc : kc ≤ 600000) (hks : ks ≤ 7302250) (K : ∀ (Y' : zY) (M' : zM) (S' : zF), repY P Y' S' (c + 1) → repM M' S' → Z kc ks 1145 (LW M' Y' P) (lvL i) []) : Z kc ks 687 (LW M Y P) (lvL i) [] := by
  refine o.1 kc ks 1 [] 687 _ _ _ hkc hks ?_
  refine o.sa (pc := 688) (k := 1) (by omega) hkc hks ?_
  refine o.cY (pc := 693) (As := [.int (xs (i + 1))]) vL_81 (y_share hY) (fun Y' hY' => ?_) hP hkc hks
  refine o.1 kc ks 1 [] 696 _ _ _ hkc hks ?_
  refine o.sa (pc := 697) (k := 1) (by omega) hkc hks ?_
  refine o.cM (pc := 702) (As := [.int (xs (i + 1))]) vL_84 (m_share hM hY.2.1.2) (fun M' hM' => ?_) hkc hks
  exact o.1 kc ks 1 [] 705 _ _ _ hkc hks ⟨fun _ => K Y' M' _ hY' hM', fun q => absurd rfl q⟩
set_option maxRecDepth 10000 in
theorem lc_16 (o : zOpL l D C kLc_16 L xs Z) (hY : repY P Y S c) (hM : repM M S) (hP : P.length ≤ 5000) (hc : c ≤ 100) (hi : i + 4 < L) (hkc : kc ≤ 600000) (hks : ks ≤ 7302250) (K : ∀ (Y' : zY) (M' : zM) (S' : zF), repY P Y' S' (c + 1) → repM M' S' → Z kc ks 1145 (LW M' Y' P) (lvL i) []) : Z kc ks 710 (LW M Y P) (lvL i) [] := by
  refine o.1 kc ks 1 [] 710 _ _ _ hkc hks ?_
  refine o.sa (pc := 711) (k := 1) (by omega) hkc hks ?_
  refine o.cY (pc := 716) (As := [.int (xs (i + 1))]) vL_85 (y_fares hY hc) (fun Y' hY' => ?_) hP hkc hks
  refine o.1 kc ks 1 [] 719 _ _ _ hkc hks ?_
  refine o.sa (pc := 720) (k := 1) (by omega) hkc hks ?_
  refine o.cM (pc := 725) (As := [.int (xs (i + 1))]) vL_88 (m_fares hM hY.2.1.2 hc) (fun M' hM' => ?_) hkc hks
  exact o.1 kc ks 1 [] 728 _ _ _ hkc hks ⟨fun _ => K Y' M' _ hY' hM', fun q => absurd rfl q⟩
set_option maxRecDepth 10000 in
theorem lc_17 (o : zOpL l D C kLc_17 L xs Z) (hY : repY P Y S c) (hM : repM M S) (hP : P.length ≤ 5000) (hc : c ≤ 100) (hi : i + 4 < L) (hkc : kc ≤ 600000) (hks : ks ≤ 7302250) (K : ∀ (Y' : zY) (M' : zM) (S' : zF), repY P Y' S' (c + 1) → repM M' S' → Z kc ks 1145 (LW M' Y' P) (lvL i) []) : Z kc ks 733 (LW M Y P) (lvL i) [] := by
  refine o.1 kc ks 1 [] 733 _ _ _ hkc hks ?_
  refine o.sa (pc := 734) (k := 1) (by omega) hkc hks ?_
  refine o.cY (pc := 739) (As := [.int (xs (i + 1))]) vL_89 (y_wrong hY hc) (fun Y' hY' => ?_) hP hkc hks
  refine o.1 kc ks 1 [] 742 _ _ _ hkc hks ?_
  refine o.sa (pc := 743) (k := 1) (by omega) hkc hks ?_
  refine o.cM (pc := 748) (As := [.int (xs (i + 1))]) vL_92 (m_wrong hM hY.2.1.2 hc) (fun M' hM' => ?_) hkc hks
  exact o.1 kc ks 1 [] 751 _ _ _ hkc hks ⟨fun _ => K Y' M' _ hY' hM', fun q => absurd rfl q⟩
set_option maxRecDepth 10000 in
theorem lc_18 (o : zOpL l D C kLc_18 L xs Z) (hY : repY P Y S c) (hM : repM M S) (hP : P.length ≤ 5000) (hc : c ≤ 100) (hi : i + 4 < L) (hkc : kc ≤ 600000) (hks : ks ≤ 7302250) (K : ∀ (Y' : zY) (M' : zM) (S' : zF), repY P Y' S' (c + 1) → repM M' S' → Z kc ks 1145 (LW M' Y' P) (lvL i) []) : Z kc ks 756 (LW M Y P) (lvL i) [] := by
  refine o.1 kc ks 1 [] 756 _ _ _ hkc hks ?_
  refine o.sa (pc := 757) (k := 1) (by omega) hkc hks ?_
  refine o.cY (pc := 762) (As := [.int (xs (i + 1))]) vL_93 (y_alike hY hc) (fun Y' hY' => ?_) hP hkc hks
  refine o.1 kc ks 1 [] 765 _ _ _ hkc hks ?_
  refine o.sa (pc := 766) (k := 1) (by omega) hkc hks ?_
  refine o.cM (pc := 771) (As := [.int (xs (i + 1))]) vL_96 (m_alike hM hY.2.1.2 hc) (fun M' hM' => ?_) hkc hks
  exact o.1 kc ks 1 [] 774 _ _ _ hkc hks ⟨fun _ => K Y' M' _ hY' hM', fun q => absurd rfl q⟩
set_option maxRecDepth 10000 in
theorem lc_19 (o : zOpL l D C kLc_19 L xs Z) (hY : repY P Y S c) (hM : repM M S) (hP : P.length ≤ 5000) (hc : c ≤ 100) (hi : i + 4 < L) (hkc : kc ≤ 600000) (hks : ks ≤ 7302250) (K : ∀ (Y' : zY) (M' : zM) (S' : zF), repY P Y' S' (c + 1) → repM M' S' → Z kc ks 1145 (LW M' Y' P) (lvL i) []) : Z kc ks 779 (LW M Y P) (lvL i) [] := by
  refine o.1 kc ks 1 [] 779 _ _ _ hkc hks ?_
  refine o.sa (pc := 780) (k := 1) (by omega) hkc hks ?_
  refine o.sa (pc := 785) (k := 2) (by omega) hkc hks ?_
  refine o.sa (pc := 790) (k := 3) (by omega) hkc hks ?_
  refine o.cY (pc := 795) (As := [.int (xs (i + 1)), .int (xs (i + 2)), .int (xs (i + 3))]) vL_97 (y_gain hY hc) (fun Y' hY' => ?_) hP hkc hks
  refine o.1 kc ks 1 [] 798 _ _ _ hkc hks ?_
  refine o.sa (pc := 799) (k := 1) (by omega) hkc hks ?_
  refine o.sa (pc := 804) (k := 2) (by omega) hkc hks ?_
  refine o.sa (pc := 809) (k := 3) (by omega) hkc hks ?_
  refine o.cM (pc := 814) (As := [.int (xs (i + 1)), .int (xs (i + 2)), .int (xs (i + 3))]) vL_100 (m_gain hM hY.2.1.2 hc) (fun M' hM' => ?_) hkc hks
  exact o.1 kc ks 1 [] 817 _ _ _ hkc hks ⟨fun _ => K Y' M' _ hY' hM', fun q => absurd rfl q⟩
set_option maxRecDepth 10000 in
theorem lc_20 (o : zOpL l D C kLc_20 L xs Z) (hY : repY P Y S c) (hM : repM M S) (hP : P.length ≤ 5000) (hc : c ≤ 100) (hi : i + 4 < L) (hkc : kc ≤ 600000) (hks : ks ≤ 7302250) (K : ∀ (Y' : zY) (M' : zM) (S' : zF), repY P Y' S' (c + 1) → repM M' S' → Z kc ks 1145 (LW M' Y' P) (lvL i) []) : Z kc ks 822 (LW M Y P) (lvL i) [] := by
  refine o.1 kc ks 1 [] 822 _ _ _ hkc hks ?_
  refine o.sa (pc := 823) (k := 1) (by omega) hkc hks ?_
  refine o.cY (pc := 828) (As := [.int (xs (i + 1))]) vL_101 (y_rest hY hc) (fun Y' hY' => ?_) hP hkc hks
  refine o.1 kc ks 1 [] 831 _ _ _ hkc hks ?_
  refine o.sa (pc := 832) (k := 1) (by omega) hkc hks ?_
  refine o.cM (pc := 837) (As := [.int (xs (i + 1))]) vL_104 (m_rest hM hY.2.1.2 hc) (fun M' hM' => ?_) hkc hks
  exact o.1 kc ks 1 [] 840 _ _ _ hkc hks ⟨fun _ => K Y' M' _ hY' hM', fun q => absurd rfl q⟩
set_option maxRecDepth 10000 in
theorem lc_21 (o : zOpL l D C kLc_21 L xs Z) (hY : repY P Y S c) (hM : repM M S) (hP : P.length ≤ 5000) (hc : c ≤ 100) (hi : i + 4 < L) (hkc : kc ≤ 600000) (hks : ks ≤ 7302250) (K : ∀ (Y' : zY) (M' : zM) (S' : zF), repY P Y' S' (c + 1) → repM M' S' → Z kc ks 1145 (LW M' Y' P) (lvL i) []) : Z kc ks 845 (LW M Y P) (lvL i) [] := by
  refine o.1 kc ks 1 [] 845 _ _ _ hkc hks ?_
  refine o.sa (pc := 846) (k := 1) (by omega) hkc hks ?_
  refine o.sa (pc := 851) (k := 2) (by omega) hkc hks ?_
  refine o.cY (pc := 856) (As := [.int (xs (i + 1)), .int (xs (i + 2))]) vL_105 (y_ifAll hY hc) (fun Y' hY' => ?_) hP hkc hks
  refine o.1 kc ks 1 [] 859 _ _ _ hkc hks ?_
  refine o.sa (pc := 860) (k := 1) (by omega) hkc hks ?_
  refine o.sa (pc := 865) (k := 2) (by omega) hkc hks ?_
  refine o.cM (pc := 870) (As := [.int (xs (i + 1)), .int (xs (i + 2))]) vL_108 (m_ifAll hM hY.2.1.2 hc) (fun M' hM' => ?_) hkc hks
  exact o.1 kc ks 1 [] 873 _ _ _ hkc hks ⟨fun _ => K Y' M' _ hY' hM', fun q => absurd rfl q⟩
set_option maxRecDepth 10000 in
theorem lc_22 (o : zOpL l D C kLc_22 L xs Z) (hY : repY P Y S c) (hM : repM M S) (hP : P.length ≤ 5000) (hc : c ≤ 100) (hi : i + 4 < L) (hkc : kc ≤ 600000) (hks : ks ≤ 7302250) (K : ∀ (Y' : zY) (M' : zM) (S' : zF), repY P Y' S' (c + 1) → repM M' S' → Z kc ks 1145 (LW M' Y' P) (lvL i) []) : Z kc ks 878 (LW M Y P) (lvL i) [] := by
  refine o.1 kc ks 1 [] 878 _ _ _ hkc hks ?_
  refine o.sa (pc := 879) (k := 1) (by omega) hkc hks ?_
  refine o.cY (pc := 884) (As := [.int (xs (i + 1))]) vL_109 (y_bestRule hY hc) (fun Y' hY' => ?_) hP hkc hks
  refine o.1 kc ks 1 [] 887 _ _ _ hkc hks ?_
  refine o.sa (pc := 888) (k := 1) (by omega) hkc hks ?_
  refine o.cM (pc := 893) (As := [.int (xs (i + 1))]) vL_112 (m_bestRule hM hY.2.1.2 hc) (fun M' hM' => ?_) hkc hks
  exact o.1 kc ks 1 [] 896 _ _ _ hkc hks ⟨fun _ => K Y' M' _ hY' hM', fun q => absurd rfl q⟩
set_option maxRecDepth 10000 in
theorem lc_23 (o : zOpL l D C kLc_23 L xs Z) (hY : repY P Y S c) (hM : repM M S) (hP : P.length ≤ 5000) (hc : c ≤ 100) (hi : i + 4 < L) (hkc : kc ≤ 600000) (hks : ks ≤ 7302250) (K : ∀ (Y' : zY) (M' : zM) (S' : zF), repY P Y' S' (c + 1) → repM M' S' → Z kc ks 1145 (LW M' Y' P) (lvL i) []) : Z kc ks 901 (LW M Y P) (lvL i) [] := by
  refine o.1 kc ks 1 [] 901 _ _ _ hkc hks ?_
  refine o.sa (pc := 902) (k := 1) (by omega) hkc hks ?_
  refine o.sa (pc := 907) (k := 2) (by omega) hkc hks ?_
  refine o.sa (pc := 912) (k := 3) (by omega) hkc hks ?_
  refine o.sa (pc := 917) (k := 4) (by omega) hkc hks ?_
  refine o.cY (pc := 922) (As := [.int (xs (i + 1)), .int (xs (i + 2)), .int (xs (i + 3)), .int (xs (i + 4))]) vL_113 (y_part hY hc) (fun Y' hY' => ?_) hP hkc hks
  refine o.1 kc ks 1 [] 925 _ _ _ hkc hks ?_
  refine o.sa (pc := 926) (k := 1) (by omega) hkc hks ?_
  refine o.sa (pc := 931) (k := 2) (by omega) hkc hks ?_
  refine o.sa (pc := 936) (k := 3) (by omega) hkc hks ?_
  refine o.sa (pc := 941) (k := 4) (by omega) hkc hks ?_
  refine o.cM (pc := 946) (As := [.int (xs (i + 1)), .int (xs (i + 2)), .int (xs (i + 3)), .int (xs (i + 4))]) vL_116 (m_part hM hY.2.1.2 hc) (fun M' hM' => ?_) hkc hks
  exact o.1 kc ks 1 [] 949 _ _ _ hkc hks ⟨fun _ => K Y' M' _ hY' hM', fun q => absurd rfl q⟩
set_option maxRecDepth 10000 in
theorem lc_24 (o : zOpL l D C kLc_24 L xs Z) (hY : repY P Y S c) (hM : repM M S) (hP : P.length ≤ 5000) (hc : c ≤ 100) (hi : i + 4 < L) (hkc : kc ≤ 600000) (hks : ks ≤ 7302250) (K : ∀ (Y' : zY) (M' : zM) (S' : zF), repY P Y' S' (c + 1) → repM M' S' → Z kc ks 1145 (LW M' Y' P) (lvL i) []) : Z kc ks 954 (LW M Y P) (lvL i) [] := by
  refine o.1 kc ks 1 [] 954 _ _ _ hkc hks ?_
  refine o.sa (pc := 955) (k := 1) (by omega) hkc hks ?_
  refine o.sa (pc := 960) (k := 2) (by omega) hkc hks ?_
  refine o.sa (pc := 965) (k := 3) (by omega) hkc hks ?_
  refine o.sa (pc := 970) (k := 4) (by omega) hkc hks ?_
  refine o.cY (pc := 975) (As := [.int (xs (i + 1)), .int (xs (i + 2)), .int (xs (i + 3)), .int (xs (i + 4))]) vL_117 (y_edge hY hc) (fun Y' hY' => ?_) hP hkc hks
  refine o.1 kc ks 1 [] 978 _ _ _ hkc hks ?_
  refine o.sa (pc := 979) (k := 1) (by omega) hkc hks ?_
  refine o.sa (pc := 984) (k := 2) (by omega) hkc hks ?_
  refine o.sa (pc := 989) (k := 3) (by omega) hkc hks ?_
  refine o.sa (pc := 994) (k := 4) (by omega) hkc hks ?_
  refine o.cM (pc := 999) (As := [.int (xs (i + 1)), .int (xs (i + 2)), .int (xs (i + 3)), .int (xs (i + 4))]) vL_120 (m_edge hM hY.2.1.2 hc) (fun M' hM' => ?_) hkc hks
  exact o.1 kc ks 1 [] 1002 _ _ _ hkc hks ⟨fun _ => K Y' M' _ hY' hM', fun q => absurd rfl q⟩
set_option maxRecDepth 10000 in
theorem lc_25 (o : zOpL l D C kLc_25 L xs Z) (hY : repY P Y S c) (hM : repM M S) (hP : P.length ≤ 5000) (hc : c ≤ 100) (hi : i + 4 < L) (hkc : kc ≤ 600000) (hks : ks ≤ 7302250) (K : ∀ (Y' : zY) (M' : zM) (S' : zF), repY P Y' S' (c + 1) → repM M' S' → Z kc ks 1145 (LW M' Y' P) (lvL i) []) : Z kc ks 1007 (LW M Y P) (lvL i) [] := by
  refine o.1 kc ks 1 [] 1007 _ _ _ hkc hks ?_
  refine o.sa (pc := 1008) (k := 1) (by omega) hkc hks ?_
  refine o.sa (pc := 1013) (k := 2) (by omega) hkc hks ?_
  refine o.cY (pc := 1018) (As := [.int (xs (i + 1)), .int (xs (i + 2))]) vL_121 (y_lessSeen hY hc) (fun Y' hY' => ?_) hP hkc hks
  refine o.1 kc ks 1 [] 1021 _ _ _ hkc hks ?_
  refine o.sa (pc := 1022) (k := 1) (by omega) hkc hks ?_
  refine o.sa (pc := 1027) (k := 2) (by omega) hkc hks ?_
  refine o.cM (pc := 1032) (As := [.int (xs (i + 1)), .int (xs (i + 2))]) vL_124 (m_lessSeen hM hY.2.1.2 hc) (fun M' hM' => ?_) hkc hks
  exact o.1 kc ks 1 [] 1035 _ _ _ hkc hks ⟨fun _ => K Y' M' _ hY' hM', fun q => absurd rfl q⟩
set_option maxRecDepth 10000 in
theorem lc_26 (o : zOpL l D C kLc_26 L xs Z) (hY : repY P Y S c) (hM : repM M S) (hP : P.length ≤ 5000) (hc : c ≤ 100) (hi : i + 4 < L) (hkc : kc ≤ 600000) (hks : ks ≤ 7302250) (K : ∀ (Y' : zY) (M' : zM) (S' : zF), repY P Y' S' (c + 1) → repM M' S' → Z kc ks 1145 (LW M' Y' P) (lvL i) []) : Z kc ks 1040 (LW M Y P) (lvL i) [] := by
  refine o.1 kc ks 1 [] 1040 _ _ _ hkc hks ?_
  refine o.sa (pc := 1041) (k := 1) (by omega) hkc hks ?_
  refine o.sa (pc := 1046) (k := 2) (by omega) hkc hks ?_
  refine o.cY (pc := 1051) (As := [.int (xs (i + 1)), .int (xs (i + 2))]) vL_125 (y_shown hY hc) (fun Y' hY' => ?_) hP hkc hks
  refine o.1 kc ks 1 [] 1054 _ _ _ hkc hks ?_
  refine o.sa (pc := 1055) (k := 1) (by omega) hkc hks ?_
  refine o.sa (pc := 1060) (k := 2) (by omega) hkc hks ?_
  refine o.cM (pc := 1065) (As := [.int (xs (i + 1)), .int (xs (i + 2))]) vL_128 (m_shown hM hY.2.1.2 hc) (fun M' hM' => ?_) hkc hks
  exact o.1 kc ks 1 [] 1068 _ _ _ hkc hks ⟨fun _ => K Y' M' _ hY' hM', fun q => absurd rfl q⟩
set_option maxRecDepth 10000 in
theorem lc_27 (o : zOpL l D C kLc_27 L xs Z) (hY : repY P Y S c) (hM : repM M S) (hP : P.length ≤ 5000) (hc : c ≤ 100) (hi : i + 4 < L) (hkc : kc ≤ 600000) (hks : ks ≤ 7302250) (K : ∀ (Y' : zY) (M' : zM) (S' : zF), repY P Y' S' (c + 1) → repM M' S' → Z kc ks 1145 (LW M' Y' P) (lvL i) []) : Z kc ks 1073 (LW M Y P) (lvL i) [] := by
  refine o.1 kc ks 1 [] 1073 _ _ _ hkc hks ?_
  refine o.sa (pc := 1074) (k := 1) (by omega) hkc hks ?_
  refine o.cY (pc := 1079) (As := [.int (xs (i + 1))]) vL_129 (y_blind hY hc) (fun Y' hY' => ?_) hP hkc hks
  refine o.1 kc ks 1 [] 1082 _ _ _ hkc hks ?_
  refine o.sa (pc := 1083) (k := 1) (by omega) hkc hks ?_
  refine o.cM (pc := 1088) (As := [.int (xs (i + 1))]) vL_132 (m_blind hM hY.2.1.2 hc) (fun M' hM' => ?_) hkc hks
  exact o.1 kc ks 1 [] 1091 _ _ _ hkc hks ⟨fun _ => K Y' M' _ hY' hM', fun q => absurd rfl q⟩
set_option maxRecDepth 10000 in
theorem lc_28 (o : zOpL l D C kLc_28 L xs Z) (hY : repY P Y S c) (hM : repM M S) (hP : P.length ≤ 5000) (hc : c ≤ 100) (hi : i + 4 < L) (hkc : kc ≤ 600000) (hks : ks ≤ 7302250) (K : ∀ (Y' : zY) (M' : zM) (S' : zF), repY P Y' S' (c + 1) → repM M' S' → Z kc ks 1145 (LW M' Y' P) (lvL i) []) : Z kc ks 1096 (LW M Y P) (lvL i) [] := by
  refine o.1 kc ks 1 [] 1096 _ _ _ hkc hks ?_
  refine o.cY (pc := 1097) (As := []) vL_133 (y_image hY) (fun Y' hY' => ?_) hP hkc hks
  refine o.1 kc ks 1 [] 1100 _ _ _ hkc hks ?_
  refine o.cM (pc := 1101) (As := []) vL_136 (m_image hM hY.2.1.2) (fun M' hM' => ?_) hkc hks
  exact o.1 kc ks 1 [] 1104 _ _ _ hkc hks ⟨fun _ => K Y' M' _ hY' hM', fun q => absurd rfl q⟩
set_option maxRecDepth 10000 in
theorem lc_29 (o : zOpL l D C kLc_29 L xs Z) (hY : repY P Y S c) (hM : repM M S) (hP : P.length ≤ 5000) (hc : c ≤ 100) (hi : i + 4 < L) (hkc : kc ≤ 600000) (hks : ks ≤ 7302250) (K : ∀ (Y' : zY) (M' : zM) (S' : zF), repY P Y' S' (c + 1) → repM M' S' → Z kc ks 1145 (LW M' Y' P) (lvL i) []) : Z kc ks 1109 (LW M Y P) (lvL i) [] := by
  refine o.1 kc ks 1 [] 1109 _ _ _ hkc hks ?_
  refine o.cY (pc := 1110) (As := []) vL_137 (y_restore hY) (fun Y' hY' => ?_) hP hkc hks
  refine o.1 kc ks 1 [] 1113 _ _ _ hkc hks ?_
  refine o.cM (pc := 1114) (As := []) vL_140 (m_restore hM hY.2.1.2 (repY_im hY)) (fun M' hM' => ?_) hkc hks
  exact o.1 kc ks 1 [] 1117 _ _ _ hkc hks ⟨fun _ => K Y' M' _ hY' hM', fun q => absurd rfl q⟩
set_option maxRecDepth 10000 in
theorem lc_30 (o : zOpL l D C kLc_30 L xs Z) (hY : repY P Y S c) (hM : repM M S) (hP : P.length ≤ 5000) (hc : c ≤ 100) (hi : i + 4 < L) (hkc : kc ≤ 600000) (hks : ks ≤ 7302250) (K : ∀ (Y' : zY) (M' : zM) (S' : zF), repY P Y' S' (c + 1) → repM M' S' → Z kc ks 1145 (LW M' Y' P) (lvL i) []) : Z kc ks 1122 (LW M Y P) (lvL i) [] := by
  refine o.1 kc ks 1 [] 1122 _ _ _ hkc hks ?_
  refine o.sa (pc := 1123) (k := 1) (by omega) hkc hks ?_
  refine o.cY (pc := 1128) (As := [.int (xs (i + 1))]) vL_141 (y_count hY hc) (fun Y' hY' => ?_) hP hkc hks
  refine o.1 kc ks 1 [] 1131 _ _ _ hkc hks ?_
  refine o.sa (pc := 1132) (k := 1) (by omega) hkc hks ?_
  refine o.cM (pc := 1137) (As := [.int (xs (i + 1))]) vL_144 (m_count hM hY.2.1.2) (fun M' hM' => ?_) hkc hks
  exact o.1 kc ks 1 [] 1140 _ _ _ hkc hks ⟨fun _ => K Y' M' _ hY' hM', fun q => absurd rfl q⟩
end LC
