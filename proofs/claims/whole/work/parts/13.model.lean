def mX7_init : ZM := (yX7_init, cX7_init, 1, none)
def mX7_no : ZM := (yX7_no, cX7_no, 2, some .int)
def mX7_noTen : ZM := (yX7_noTen, cX7_noTen, 2, some .int)
def mX7_isShelf : ZM := (yX7_isShelf, cX7_isShelf, 2, some .boolean)
def mX7_isOne : ZM := (yX7_isOne, cX7_isOne, 2, some .boolean)
def mX7_isFrom : ZM := (yX7_isFrom, cX7_isFrom, 4, some .boolean)
def mX7_row : ZM := (yX7_row, cX7_row, 5, some .int)
def mX7_set : ZM := (yX7_set, cX7_set, 5, some .int)
def mX7_copy : ZM := (yX7_copy, cX7_copy, 7, some .int)
def mX7_element : ZM := (yX7_element, cX7_element, 3, some .long)
def mX7_show : ZM := (yX7_show, cX7_show, 3, some .int)
def mX7_holds : ZM := (yX7_holds, cX7_holds, 2, some .int)
def mX7_limit : ZM := (yX7_limit, cX7_limit, 2, some .int)
def mX7_toil : ZM := (yX7_toil, cX7_toil, 3, some .int)
def mX7_pace : ZM := (yX7_pace, cX7_pace, 3, some .int)
def mX7_says : ZM := (yX7_says, cX7_says, 6, some .int)
def mX7_wanted : ZM := (yX7_wanted, cX7_wanted, 2, some .int)
def mX7_intAt : ZM := (yX7_intAt, cX7_intAt, 3, some .int)
def mX7_adds : ZM := (yX7_adds, cX7_adds, 5, some .int)
def mX7_person : ZM := (yX7_person, cX7_person, 5, some .int)
def mX7_ask : ZM := (yX7_ask, cX7_ask, 5, some .int)
def mX7_tire : ZM := (yX7_tire, cX7_tire, 4, some .int)
def mX7_give : ZM := (yX7_give, cX7_give, 3, some .int)
def mX7_personOf : ZM := (yX7_personOf, cX7_personOf, 3, some .int)
def mX7_wrong : ZM := (yX7_wrong, cX7_wrong, 2, some .boolean)
def mX7_stands : ZM := (yX7_stands, cX7_stands, 4, some .boolean)
def mX7_word : ZM := (yX7_word, cX7_word, 6, some .int)
def mX7_isDigit : ZM := (yX7_isDigit, cX7_isDigit, 1, some .boolean)
def mX7_reads : ZM := (yX7_reads, cX7_reads, 2, some .boolean)
def mX7_isSo : ZM := (yX7_isSo, cX7_isSo, 3, some .boolean)
def mX7_item : ZM := (yX7_item, cX7_item, 4, some .boolean)
def mX7_carries : ZM := (yX7_carries, cX7_carries, 6, some .int)
def mX7_all : ZM := (yX7_all, cX7_all, 4, none)
def mX7_vow : ZM := (yX7_vow, cX7_vow, 5, some .int)
def mX7_fault : ZM := (yX7_fault, cX7_fault, 1, some .int)
def mX7_wouldSigh : ZM := (yX7_wouldSigh, cX7_wouldSigh, 3, some .boolean)
def mX7_tires : ZM := (yX7_tires, cX7_tires, 4, none)
def mX7_step : ZM := (yX7_step, cX7_step, 4, none)
def mX7_sighs : ZM := (yX7_sighs, cX7_sighs, 5, some .int)
def mX7_ready : ZM := (yX7_ready, cX7_ready, 2, some .int)
def mX7_ahead : ZM := (yX7_ahead, cX7_ahead, 4, some .int)
def mX7_tired : ZM := (yX7_tired, cX7_tired, 4, some .int)
def mX7_isOver : ZM := (yX7_isOver, cX7_isOver, 3, some .int)
def mX7_over : ZM := (yX7_over, cX7_over, 1, some .int)
def mX7_tillAbove : ZM := (yX7_tillAbove, cX7_tillAbove, 4, some .int)
def mX7_alone : ZM := (yX7_alone, cX7_alone, 3, some .int)
def mX7_goesLeg : ZM := (yX7_goesLeg, cX7_goesLeg, 5, some .boolean)
def mX7_legs : ZM := (yX7_legs, cX7_legs, 7, none)
def mX7_relay : ZM := (yX7_relay, cX7_relay, 4, some .int)
def mX7_barsOfCases : ZM := (yX7_barsOfCases, cX7_barsOfCases, 6, some .int)
def mX7_clashIn : ZM := (yX7_clashIn, cX7_clashIn, 5, some .int)
def mX7_cases : ZM := (yX7_cases, cX7_cases, 5, some .int)
def mX7_clash : ZM := (yX7_clash, cX7_clash, 4, some .int)
def mX7_bearsSo : ZM := (yX7_bearsSo, cX7_bearsSo, 7, some .boolean)
def mX7_borne : ZM := (yX7_borne, cX7_borne, 6, some .int)
def mX7_overWithout : ZM := (yX7_overWithout, cX7_overWithout, 4, some .int)
def mX7_without : ZM := (yX7_without, cX7_without, 5, some .int)
def mX7_overBy : ZM := (yX7_overBy, cX7_overBy, 4, some .int)
def mX7_weights : ZM := (yX7_weights, cX7_weights, 6, some .int)
def mX7_praise : ZM := (yX7_praise, cX7_praise, 5, some .int)
def mX7_speaks : ZM := (yX7_speaks, cX7_speaks, 3, none)
def mX7_talks : ZM := (yX7_talks, cX7_talks, 5, some .int)
def mX7_barsOfTalk : ZM := (yX7_barsOfTalk, cX7_barsOfTalk, 5, some .int)
def mX7_judge : ZM := (yX7_judge, cX7_judge, 5, some .int)
def mX7_behind : ZM := (yX7_behind, cX7_behind, 7, some .int)
def mX7_done : ZM := (yX7_done, cX7_done, 4, some .int)
def mX7_say : ZM := (yX7_say, cX7_say, 3, some .int)
def mX7_steps : ZM := (yX7_steps, cX7_steps, 3, some .int)
def mX7_draw : ZM := (yX7_draw, cX7_draw, 2, some .int)
def mX7_days : ZM := (yX7_days, cX7_days, 5, some .int)
def mX7_seed : ZM := (yX7_seed, cX7_seed, 3, some .int)
def mX7_body : ZM := (yX7_body, cX7_body, 2, none)
def mX7_walking : ZM := (yX7_walking, cX7_walking, 8, some .int)
def mX7_bearing : ZM := (yX7_bearing, cX7_bearing, 7, some .int)
def mX7_speaking : ZM := (yX7_speaking, cX7_speaking, 6, some .int)
def mX7_act : ZM := (yX7_act, cX7_act, 4, some .int)
def mX7_trace : ZM := (yX7_trace, cX7_trace, 2, some .int)
def mX7_image : ZM := (yX7_image, cX7_image, 1, some .int)
def mX7_restore : ZM := (yX7_restore, cX7_restore, 2, some .int)
def mX7_status : ZM := (yX7_status, cX7_status, 4, some .int)
-- WhoComplainsCarriesModel.<init>
def tbX7_init_0 : List (Nat × Instr × Nat) := [(0, .aload_n 0, 1), (1, .invokespecial 1, 3), (4, .aload_n 0, 1), (5, .bipush 20, 2), (7, .putfield 7, 3), (10, .aload_n 0, 1), (11, .bipush 100, 2), (13, .putfield 13, 3), (16, .aload_n 0, 1), (17, .iconst (-1), 1), (18, .putfield 16, 3), (21, .aload_n 0, 1), (22, .bipush 31, 2), (24, .putfield 19, 3), (27, .aload_n 0, 1), (28, .iconst 1, 1), (29, .putfield 22, 3), (32, .aload_n 0, 1), (33, .iconst (-1), 1), (34, .putfield 25, 3), (37, .aload_n 0, 1), (38, .bipush 8, 2), (40, .newarray .int, 2), (42, .putfield 28, 3), (45, .aload_n 0, 1), (46, .bipush 7, 2), (48, .newarray .int, 2), (50, .putfield 32, 3), (53, .aload_n 0, 1), (54, .bipush 7, 2), (56, .newarray .int, 2), (58, .putfield 35, 3), (61, .aload_n 0, 1), (62, .bipush 7, 2), (64, .newarray .int, 2), (66, .putfield 38, 3), (69, .aload_n 0, 1), (70, .bipush 7, 2), (72, .newarray .int, 2), (74, .putfield 41, 3), (77, .aload_n 0, 1), (78, .bipush 7, 2), (80, .newarray .int, 2), (82, .putfield 44, 3), (85, .aload_n 0, 1), (86, .bipush 8, 2), (88, .newarray .int, 2), (90, .putfield 47, 3), (93, .aload_n 0, 1), (94, .bipush 8, 2)]
theorem tbX7_init_0_ok : ∀ q ∈ tbX7_init_0, decode cX7_init q.1 = .ok (q.2.1, q.2.2) := by decide +kernel
def tbX7_init_1 : List (Nat × Instr × Nat) := [(96, .newarray .int, 2), (98, .putfield 50, 3), (101, .aload_n 0, 1), (102, .bipush 8, 2), (104, .newarray .int, 2), (106, .putfield 53, 3), (109, .aload_n 0, 1), (110, .bipush 8, 2), (112, .newarray .int, 2), (114, .putfield 56, 3), (117, .aload_n 0, 1), (118, .sipush 1280, 3), (121, .newarray .long, 2), (123, .putfield 59, 3), (126, .aload_n 0, 1), (127, .sipush 160, 3), (130, .newarray .long, 2), (132, .putfield 63, 3), (135, .aload_n 0, 1), (136, .bipush 47, 2), (138, .newarray .int, 2), (140, .dup, 1), (141, .iconst 0, 1), (142, .bipush 112, 2), (144, .iastore, 1), (145, .dup, 1), (146, .iconst 1, 1), (147, .bipush 101, 2), (149, .iastore, 1), (150, .dup, 1), (151, .iconst 2, 1), (152, .bipush 114, 2), (154, .iastore, 1), (155, .dup, 1), (156, .iconst 3, 1), (157, .bipush 115, 2), (159, .iastore, 1), (160, .dup, 1), (161, .iconst 4, 1), (162, .bipush 111, 2), (164, .iastore, 1), (165, .dup, 1), (166, .iconst 5, 1), (167, .bipush 110, 2), (169, .iastore, 1), (170, .dup, 1), (171, .bipush 6, 2), (173, .bipush 32, 2), (175, .iastore, 1), (176, .dup, 1)]
theorem tbX7_init_1_ok : ∀ q ∈ tbX7_init_1, decode cX7_init q.1 = .ok (q.2.1, q.2.2) := by decide +kernel
def tbX7_init_2 : List (Nat × Instr × Nat) := [(177, .bipush 7, 2), (179, .iconst 0, 1), (180, .iastore, 1), (181, .dup, 1), (182, .bipush 8, 2), (184, .bipush 119, 2), (186, .iastore, 1), (187, .dup, 1), (188, .bipush 9, 2), (190, .bipush 101, 2), (192, .iastore, 1), (193, .dup, 1), (194, .bipush 10, 2), (196, .bipush 105, 2), (198, .iastore, 1), (199, .dup, 1), (200, .bipush 11, 2), (202, .bipush 103, 2), (204, .iastore, 1), (205, .dup, 1), (206, .bipush 12, 2), (208, .bipush 104, 2), (210, .iastore, 1), (211, .dup, 1), (212, .bipush 13, 2), (214, .bipush 116, 2), (216, .iastore, 1), (217, .dup, 1), (218, .bipush 14, 2), (220, .bipush 32, 2), (222, .iastore, 1), (223, .dup, 1), (224, .bipush 15, 2), (226, .iconst 0, 1), (227, .iastore, 1), (228, .dup, 1), (229, .bipush 16, 2), (231, .bipush 119, 2), (233, .iastore, 1), (234, .dup, 1), (235, .bipush 17, 2), (237, .bipush 97, 2), (239, .iastore, 1), (240, .dup, 1), (241, .bipush 18, 2), (243, .bipush 121, 2), (245, .iastore, 1), (246, .dup, 1), (247, .bipush 19, 2), (249, .bipush 32, 2)]
theorem tbX7_init_2_ok : ∀ q ∈ tbX7_init_2, decode cX7_init q.1 = .ok (q.2.1, q.2.2) := by decide +kernel
def tbX7_init_3 : List (Nat × Instr × Nat) := [(251, .iastore, 1), (252, .dup, 1), (253, .bipush 20, 2), (255, .iconst 0, 1), (256, .iastore, 1), (257, .dup, 1), (258, .bipush 21, 2), (260, .bipush 98, 2), (262, .iastore, 1), (263, .dup, 1), (264, .bipush 22, 2), (266, .bipush 101, 2), (268, .iastore, 1), (269, .dup, 1), (270, .bipush 23, 2), (272, .bipush 97, 2), (274, .iastore, 1), (275, .dup, 1), (276, .bipush 24, 2), (278, .bipush 114, 2), (280, .iastore, 1), (281, .dup, 1), (282, .bipush 25, 2), (284, .bipush 115, 2), (286, .iastore, 1), (287, .dup, 1), (288, .bipush 26, 2), (290, .bipush 32, 2), (292, .iastore, 1), (293, .dup, 1), (294, .bipush 27, 2), (296, .iconst 0, 1), (297, .iastore, 1), (298, .dup, 1), (299, .bipush 28, 2), (301, .bipush 108, 2), (303, .iastore, 1), (304, .dup, 1), (305, .bipush 29, 2), (307, .bipush 105, 2), (309, .iastore, 1), (310, .dup, 1), (311, .bipush 30, 2), (313, .bipush 101, 2), (315, .iastore, 1), (316, .dup, 1), (317, .bipush 31, 2), (319, .bipush 115, 2), (321, .iastore, 1), (322, .dup, 1)]
theorem tbX7_init_3_ok : ∀ q ∈ tbX7_init_3, decode cX7_init q.1 = .ok (q.2.1, q.2.2) := by decide +kernel
def tbX7_init_4 : List (Nat × Instr × Nat) := [(323, .bipush 32, 2), (325, .iconst 0, 1), (326, .iastore, 1), (327, .dup, 1), (328, .bipush 33, 2), (330, .bipush 99, 2), (332, .iastore, 1), (333, .dup, 1), (334, .bipush 34, 2), (336, .bipush 111, 2), (338, .iastore, 1), (339, .dup, 1), (340, .bipush 35, 2), (342, .bipush 117, 2), (344, .iastore, 1), (345, .dup, 1), (346, .bipush 36, 2), (348, .bipush 110, 2), (350, .iastore, 1), (351, .dup, 1), (352, .bipush 37, 2), (354, .bipush 116, 2), (356, .iastore, 1), (357, .dup, 1), (358, .bipush 38, 2), (360, .bipush 115, 2), (362, .iastore, 1), (363, .dup, 1), (364, .bipush 39, 2), (366, .bipush 32, 2), (368, .iastore, 1), (369, .dup, 1), (370, .bipush 40, 2), (372, .iconst 0, 1), (373, .iastore, 1), (374, .dup, 1), (375, .bipush 41, 2), (377, .bipush 102, 2), (379, .iastore, 1), (380, .dup, 1), (381, .bipush 42, 2), (383, .bipush 114, 2), (385, .iastore, 1), (386, .dup, 1), (387, .bipush 43, 2), (389, .bipush 101, 2), (391, .iastore, 1), (392, .dup, 1), (393, .bipush 44, 2), (395, .bipush 101, 2)]
theorem tbX7_init_4_ok : ∀ q ∈ tbX7_init_4, decode cX7_init q.1 = .ok (q.2.1, q.2.2) := by decide +kernel
def tbX7_init_5 : List (Nat × Instr × Nat) := [(397, .iastore, 1), (398, .dup, 1), (399, .bipush 45, 2), (401, .bipush 32, 2), (403, .iastore, 1), (404, .dup, 1), (405, .bipush 46, 2), (407, .iconst 0, 1), (408, .iastore, 1), (409, .putfield 66, 3), (412, .aload_n 0, 1), (413, .bipush 7, 2), (415, .newarray .int, 2), (417, .dup, 1), (418, .iconst 0, 1), (419, .iconst 4, 1), (420, .iastore, 1), (421, .dup, 1), (422, .iconst 1, 1), (423, .iconst 1, 1), (424, .iastore, 1), (425, .dup, 1), (426, .iconst 2, 1), (427, .iconst 1, 1), (428, .iastore, 1), (429, .dup, 1), (430, .iconst 3, 1), (431, .iconst 1, 1), (432, .iastore, 1), (433, .dup, 1), (434, .iconst 4, 1), (435, .iconst 0, 1), (436, .iastore, 1), (437, .dup, 1), (438, .iconst 5, 1), (439, .iconst 1, 1), (440, .iastore, 1), (441, .dup, 1), (442, .bipush 6, 2), (444, .iconst 1, 1), (445, .iastore, 1), (446, .putfield 69, 3), (449, .aload_n 0, 1), (450, .iconst 4, 1), (451, .newarray .int, 2), (453, .dup, 1), (454, .iconst 0, 1), (455, .bipush 6, 2), (457, .iastore, 1), (458, .dup, 1)]
theorem tbX7_init_5_ok : ∀ q ∈ tbX7_init_5, decode cX7_init q.1 = .ok (q.2.1, q.2.2) := by decide +kernel
def tbX7_init_6 : List (Nat × Instr × Nat) := [(459, .iconst 1, 1), (460, .bipush 9, 2), (462, .iastore, 1), (463, .dup, 1), (464, .iconst 2, 1), (465, .bipush 40, 2), (467, .iastore, 1), (468, .dup, 1), (469, .iconst 3, 1), (470, .bipush 40, 2), (472, .iastore, 1), (473, .putfield 72, 3), (476, .aload_n 0, 1), (477, .iconst 4, 1), (478, .newarray .int, 2), (480, .putfield 75, 3), (483, .aload_n 0, 1), (484, .bipush 45, 2), (486, .newarray .int, 2), (488, .putfield 78, 3), (491, .aload_n 0, 1), (492, .bipush 45, 2), (494, .newarray .int, 2), (496, .putfield 81, 3), (499, .aload_n 0, 1), (500, .bipush 45, 2), (502, .newarray .int, 2), (504, .putfield 84, 3), (507, .aload_n 0, 1), (508, .iconst (-1), 1), (509, .putfield 87, 3), (512, .aload_n 0, 1), (513, .iconst 4, 1), (514, .newarray .int, 2), (516, .putfield 90, 3), (519, .aload_n 0, 1), (520, .iconst 4, 1), (521, .newarray .int, 2), (523, .putfield 93, 3), (526, .aload_n 0, 1), (527, .bipush 20, 2), (529, .newarray .int, 2), (531, .putfield 96, 3), (534, .return_, 1)]
theorem tbX7_init_6_ok : ∀ q ∈ tbX7_init_6, decode cX7_init q.1 = .ok (q.2.1, q.2.2) := by decide +kernel
theorem fF7_78 : zF RX7 78 7 30 := ⟨_, rfl, by decide, zin (i := 847) (by decide +kernel) rfl⟩
theorem fF7_81 : zF RX7 81 7 31 := ⟨_, rfl, by decide, zin (i := 848) (by decide +kernel) rfl⟩
theorem fF7_84 : zF RX7 84 7 32 := ⟨_, rfl, by decide, zin (i := 849) (by decide +kernel) rfl⟩
theorem fF7_87 : zF RX7 87 7 33 := ⟨_, rfl, by decide, zin (i := 850) (by decide +kernel) rfl⟩
theorem fF7_90 : zF RX7 90 7 34 := ⟨_, rfl, by decide, zin (i := 851) (by decide +kernel) rfl⟩
theorem fF7_93 : zF RX7 93 7 35 := ⟨_, rfl, by decide, zin (i := 852) (by decide +kernel) rfl⟩
theorem fF7_96 : zF RX7 96 7 39 := ⟨_, rfl, by decide, zin (i := 856) (by decide +kernel) rfl⟩
theorem fF7_72 : zF RX7 72 7 23 := ⟨_, rfl, by decide, zin (i := 840) (by decide +kernel) rfl⟩
theorem fF7_75 : zF RX7 75 7 24 := ⟨_, rfl, by decide, zin (i := 841) (by decide +kernel) rfl⟩
theorem fF7_69 : zF RX7 69 7 22 := ⟨_, rfl, by decide, zin (i := 839) (by decide +kernel) rfl⟩
theorem fF7_50 : zF RX7 50 7 16 := ⟨_, rfl, by decide, zin (i := 833) (by decide +kernel) rfl⟩
theorem fF7_53 : zF RX7 53 7 17 := ⟨_, rfl, by decide, zin (i := 834) (by decide +kernel) rfl⟩
theorem fF7_56 : zF RX7 56 7 18 := ⟨_, rfl, by decide, zin (i := 835) (by decide +kernel) rfl⟩
theorem fF7_59 : zF RX7 59 7 19 := ⟨_, rfl, by decide, zin (i := 836) (by decide +kernel) rfl⟩
theorem fF7_63 : zF RX7 63 7 20 := ⟨_, rfl, by decide, zin (i := 837) (by decide +kernel) rfl⟩
theorem fF7_66 : zF RX7 66 7 21 := ⟨_, rfl, by decide, zin (i := 838) (by decide +kernel) rfl⟩
theorem fF7_32 : zF RX7 32 7 10 := ⟨_, rfl, by decide, zin (i := 827) (by decide +kernel) rfl⟩
theorem fF7_35 : zF RX7 35 7 11 := ⟨_, rfl, by decide, zin (i := 828) (by decide +kernel) rfl⟩
theorem fF7_38 : zF RX7 38 7 12 := ⟨_, rfl, by decide, zin (i := 829) (by decide +kernel) rfl⟩
theorem fF7_41 : zF RX7 41 7 13 := ⟨_, rfl, by decide, zin (i := 830) (by decide +kernel) rfl⟩
theorem fF7_44 : zF RX7 44 7 14 := ⟨_, rfl, by decide, zin (i := 831) (by decide +kernel) rfl⟩
theorem fF7_47 : zF RX7 47 7 15 := ⟨_, rfl, by decide, zin (i := 832) (by decide +kernel) rfl⟩
theorem wO7_1 : Cond.methodLink RX7 1 Lib.objectInit ∈ zT := zin (i := 816) (by decide +kernel) rfl
theorem fF7_7 : zF RX7 7 7 1 := ⟨_, rfl, by decide, zin (i := 818) (by decide +kernel) rfl⟩
theorem fF7_13 : zF RX7 13 7 2 := ⟨_, rfl, by decide, zin (i := 819) (by decide +kernel) rfl⟩
theorem fF7_16 : zF RX7 16 7 4 := ⟨_, rfl, by decide, zin (i := 821) (by decide +kernel) rfl⟩
theorem fF7_19 : zF RX7 19 7 6 := ⟨_, rfl, by decide, zin (i := 823) (by decide +kernel) rfl⟩
theorem fF7_22 : zF RX7 22 7 7 := ⟨_, rfl, by decide, zin (i := 824) (by decide +kernel) rfl⟩
theorem fF7_25 : zF RX7 25 7 8 := ⟨_, rfl, by decide, zin (i := 825) (by decide +kernel) rfl⟩
theorem fF7_28 : zF RX7 28 7 9 := ⟨_, rfl, by decide, zin (i := 826) (by decide +kernel) rfl⟩
def fX7_init_b534 (n0 : Nat) (n : Nat) (μ : ZMem) : Option (Nat × ZMem) := some (n, μ)
theorem tX7_init_b534 {l : Launch} {n0 : Nat} {z : Nat × ZMem} (n : Nat) (μ : ZMem) (hn0 : n0 ≤ n) (h : fX7_init_b534 n0 n μ = some z) : V (zkC l mX7_init (rmc 1 22 1740) n0 z) true 534 [] [] n μ := by
  unfold fX7_init_b534 at h
  cases h
  exact V_vret (zdk tbX7_init_6_ok 43 rfl) rfl rfl
def fX7_init_b483 (n0 : Nat) (n : Nat) (v0 : Nat) (μ : ZMem) : Option (Nat × ZMem) := chk (nwa n 100 45) (chk (zrm (n + 1) n0 22 1740) (lt (zmk μ n) (fun μ3 => lt (zpR μ3 v0 30 n) (fun μ6 => chk (nwa (n + 1) 100 45) (chk (zrm ((n + 1) + 1) n0 22 1740) (lt (zmk μ6 (n + 1)) (fun μ10 => lt (zpR μ10 v0 31 (n + 1)) (fun μ13 => chk (nwa ((n + 1) + 1) 100 45) (chk (zrm (((n + 1) + 1) + 1) n0 22 1740) (lt (zmk μ13 ((n + 1) + 1)) (fun μ17 => lt (zpR μ17 v0 32 ((n + 1) + 1)) (fun μ20 => lt (zpI μ20 v0 33 (-1 : Int32)) (fun μ22 => chk (nwa (((n + 1) + 1) + 1) 100 4) (chk (zrm ((((n + 1) + 1) + 1) + 1) n0 22 1740) (lt (zmk μ22 (((n + 1) + 1) + 1)) (fun μ26 => lt (zpR μ26 v0 34 (((n + 1) + 1) + 1)) (fun μ29 => chk (nwa ((((n + 1) + 1) + 1) + 1) 100 4) (chk (zrm (((((n + 1) + 1) + 1) + 1) + 1) n0 22 1740) (lt (zmk μ29 ((((n + 1) + 1) + 1) + 1)) (fun μ33 => lt (zpR μ33 v0 35 ((((n + 1) + 1) + 1) + 1)) (fun μ36 => chk (nwa (((((n + 1) + 1) + 1) + 1) + 1) 100 20) (chk (zrm ((((((n + 1) + 1) + 1) + 1) + 1) + 1) n0 22 1740) (lt (zmk μ36 (((((n + 1) + 1) + 1) + 1) + 1)) (fun μ40 => lt (zpR μ40 v0 39 (((((n + 1) + 1) + 1) + 1) + 1)) (fun μ43 => (fX7_init_b534 n0 ((((((n + 1) + 1) + 1) + 1) + 1) + 1)  μ43))))))))))))))))))))))))))
theorem tX7_init_b483 {l : Launch} {n0 : Nat} {z : Nat × ZMem} (n : Nat) (v0 : Nat) (μ : ZMem) (c_v0 : isC n 7 v0 = true) (hn0 : n0 ≤ n) (h : fX7_init_b483 n0 n v0 μ = some z) : V (zkC l mX7_init (rmc 1 22 1740) n0 z) true 483 [(0, .ref v0)] [] n μ := by
  unfold fX7_init_b483 at h
  refine V_aload_n 0 (zdk tbX7_init_6_ok 16 rfl) rfl ?_
  refine V_bipush (v := 45) (zdk tbX7_init_6_ok 17 rfl) rfl ?_
  obtain ⟨w1, h⟩ := chk_some h
  obtain ⟨w2, h⟩ := chk_some h
  obtain ⟨μ3, e4, h⟩ := lt_some h
  refine V_newi (zdk tbX7_init_6_ok 18 rfl) rfl (by decide) w1 wA100 (zrm_room w2 rfl rfl rfl) e4 ?_
  replace c_v0 := isC_mono c_v0 (Nat.le_succ n)
  replace hn0 := Nat.le_succ_of_le hn0
  have c5 := isC_newa w1
  obtain ⟨μ6, e7, h⟩ := lt_some h
  refine V_putR (zdk tbX7_init_6_ok 19 rfl) c_v0 fF7_78 rfl (Or.inr ⟨rfl, fun q hq => by cases hq; rfl⟩) rfl (fun _ => rfl) (fun _ => rfl) e7 ?_
  refine V_aload_n 0 (zdk tbX7_init_6_ok 20 rfl) rfl ?_
  refine V_bipush (v := 45) (zdk tbX7_init_6_ok 21 rfl) rfl ?_
  obtain ⟨w8, h⟩ := chk_some h
  obtain ⟨w9, h⟩ := chk_some h
  obtain ⟨μ10, e11, h⟩ := lt_some h
  refine V_newi (zdk tbX7_init_6_ok 22 rfl) rfl (by decide) w8 wA100 (zrm_room w9 rfl rfl rfl) e11 ?_
  replace c_v0 := isC_mono c_v0 (Nat.le_succ (n + 1))
  replace c5 := isC_mono c5 (Nat.le_succ (n + 1))
  replace hn0 := Nat.le_succ_of_le hn0
  have c12 := isC_newa w8
  obtain ⟨μ13, e14, h⟩ := lt_some h
  refine V_putR (zdk tbX7_init_6_ok 23 rfl) c_v0 fF7_81 rfl (Or.inr ⟨rfl, fun q hq => by cases hq; rfl⟩) rfl (fun _ => rfl) (fun _ => rfl) e14 ?_
  refine V_aload_n 0 (zdk tbX7_init_6_ok 24 rfl) rfl ?_
  refine V_bipush (v := 45) (zdk tbX7_init_6_ok 25 rfl) rfl ?_
  obtain ⟨w15, h⟩ := chk_some h
  obtain ⟨w16, h⟩ := chk_some h
  obtain ⟨μ17, e18, h⟩ := lt_some h
  refine V_newi (zdk tbX7_init_6_ok 26 rfl) rfl (by decide) w15 wA100 (zrm_room w16 rfl rfl rfl) e18 ?_
  replace c_v0 := isC_mono c_v0 (Nat.le_succ ((n + 1) + 1))
  replace c5 := isC_mono c5 (Nat.le_succ ((n + 1) + 1))
  replace c12 := isC_mono c12 (Nat.le_succ ((n + 1) + 1))
  replace hn0 := Nat.le_succ_of_le hn0
  have c19 := isC_newa w15
  obtain ⟨μ20, e21, h⟩ := lt_some h
  refine V_putR (zdk tbX7_init_6_ok 27 rfl) c_v0 fF7_84 rfl (Or.inr ⟨rfl, fun q hq => by cases hq; rfl⟩) rfl (fun _ => rfl) (fun _ => rfl) e21 ?_
  refine V_aload_n 0 (zdk tbX7_init_6_ok 28 rfl) rfl ?_
  refine V_iconst (v := (-1)) (zdk tbX7_init_6_ok 29 rfl) rfl ?_
  obtain ⟨μ22, e23, h⟩ := lt_some h
  refine V_putI (zdk tbX7_init_6_ok 30 rfl) c_v0 fF7_87 rfl rfl rfl e23 ?_
  refine V_aload_n 0 (zdk tbX7_init_6_ok 31 rfl) rfl ?_
  refine V_iconst (v := 4) (zdk tbX7_init_6_ok 32 rfl) rfl ?_
  obtain ⟨w24, h⟩ := chk_some h
  obtain ⟨w25, h⟩ := chk_some h
  obtain ⟨μ26, e27, h⟩ := lt_some h
  refine V_newi (zdk tbX7_init_6_ok 33 rfl) rfl (by decide) w24 wA100 (zrm_room w25 rfl rfl rfl) e27 ?_
  replace c_v0 := isC_mono c_v0 (Nat.le_succ (((n + 1) + 1) + 1))
  replace c5 := isC_mono c5 (Nat.le_succ (((n + 1) + 1) + 1))
  replace c12 := isC_mono c12 (Nat.le_succ (((n + 1) + 1) + 1))
  replace c19 := isC_mono c19 (Nat.le_succ (((n + 1) + 1) + 1))
  replace hn0 := Nat.le_succ_of_le hn0
  have c28 := isC_newa w24
  obtain ⟨μ29, e30, h⟩ := lt_some h
  refine V_putR (zdk tbX7_init_6_ok 34 rfl) c_v0 fF7_90 rfl (Or.inr ⟨rfl, fun q hq => by cases hq; rfl⟩) rfl (fun _ => rfl) (fun _ => rfl) e30 ?_
  refine V_aload_n 0 (zdk tbX7_init_6_ok 35 rfl) rfl ?_
  refine V_iconst (v := 4) (zdk tbX7_init_6_ok 36 rfl) rfl ?_
  obtain ⟨w31, h⟩ := chk_some h
  obtain ⟨w32, h⟩ := chk_some h
  obtain ⟨μ33, e34, h⟩ := lt_some h
  refine V_newi (zdk tbX7_init_6_ok 37 rfl) rfl (by decide) w31 wA100 (zrm_room w32 rfl rfl rfl) e34 ?_
  replace c_v0 := isC_mono c_v0 (Nat.le_succ ((((n + 1) + 1) + 1) + 1))
  replace c5 := isC_mono c5 (Nat.le_succ ((((n + 1) + 1) + 1) + 1))
  replace c12 := isC_mono c12 (Nat.le_succ ((((n + 1) + 1) + 1) + 1))
  replace c19 := isC_mono c19 (Nat.le_succ ((((n + 1) + 1) + 1) + 1))
  replace c28 := isC_mono c28 (Nat.le_succ ((((n + 1) + 1) + 1) + 1))
  replace hn0 := Nat.le_succ_of_le hn0
  have c35 := isC_newa w31
  obtain ⟨μ36, e37, h⟩ := lt_some h
  refine V_putR (zdk tbX7_init_6_ok 38 rfl) c_v0 fF7_93 rfl (Or.inr ⟨rfl, fun q hq => by cases hq; rfl⟩) rfl (fun _ => rfl) (fun _ => rfl) e37 ?_
  refine V_aload_n 0 (zdk tbX7_init_6_ok 39 rfl) rfl ?_
  refine V_bipush (v := 20) (zdk tbX7_init_6_ok 40 rfl) rfl ?_
  obtain ⟨w38, h⟩ := chk_some h
  obtain ⟨w39, h⟩ := chk_some h
  obtain ⟨μ40, e41, h⟩ := lt_some h
  refine V_newi (zdk tbX7_init_6_ok 41 rfl) rfl (by decide) w38 wA100 (zrm_room w39 rfl rfl rfl) e41 ?_
  replace c_v0 := isC_mono c_v0 (Nat.le_succ (((((n + 1) + 1) + 1) + 1) + 1))
  replace c5 := isC_mono c5 (Nat.le_succ (((((n + 1) + 1) + 1) + 1) + 1))
  replace c12 := isC_mono c12 (Nat.le_succ (((((n + 1) + 1) + 1) + 1) + 1))
  replace c19 := isC_mono c19 (Nat.le_succ (((((n + 1) + 1) + 1) + 1) + 1))
  replace c28 := isC_mono c28 (Nat.le_succ (((((n + 1) + 1) + 1) + 1) + 1))
  replace c35 := isC_mono c35 (Nat.le_succ (((((n + 1) + 1) + 1) + 1) + 1))
  replace hn0 := Nat.le_succ_of_le hn0
  have c42 := isC_newa w38
  obtain ⟨μ43, e44, h⟩ := lt_some h
  refine V_putR (zdk tbX7_init_6_ok 42 rfl) c_v0 fF7_96 rfl (Or.inr ⟨rfl, fun q hq => by cases hq; rfl⟩) rfl (fun _ => rfl) (fun _ => rfl) e44 ?_
  refine V_sub (ls' := []) [] rfl ?_
  exact tX7_init_b534 ((((((n + 1) + 1) + 1) + 1) + 1) + 1)  μ43  hn0 h
def fX7_init_b449 (n0 : Nat) (n : Nat) (v0 : Nat) (μ : ZMem) : Option (Nat × ZMem) := chk (nwa n 100 4) (chk (zrm (n + 1) n0 22 1740) (lt (zmk μ n) (fun μ3 => chk (inb (0 : Int32) n) (lt (zpI μ3 n (0 : Int32).toNatClampNeg (6 : Int32)) (fun μ7 => chk (inb (1 : Int32) n) (lt (zpI μ7 n (1 : Int32).toNatClampNeg (9 : Int32)) (fun μ10 => chk (inb (2 : Int32) n) (lt (zpI μ10 n (2 : Int32).toNatClampNeg (40 : Int32)) (fun μ13 => chk (inb (3 : Int32) n) (lt (zpI μ13 n (3 : Int32).toNatClampNeg (40 : Int32)) (fun μ16 => lt (zpR μ16 v0 23 n) (fun μ18 => chk (nwa (n + 1) 100 4) (chk (zrm ((n + 1) + 1) n0 22 1740) (lt (zmk μ18 (n + 1)) (fun μ22 => lt (zpR μ22 v0 24 (n + 1)) (fun μ25 => (fX7_init_b483 n0 ((n + 1) + 1) v0 μ25)))))))))))))))))
theorem tX7_init_b449 {l : Launch} {n0 : Nat} {z : Nat × ZMem} (n : Nat) (v0 : Nat) (μ : ZMem) (c_v0 : isC n 7 v0 = true) (hn0 : n0 ≤ n) (h : fX7_init_b449 n0 n v0 μ = some z) : V (zkC l mX7_init (rmc 1 22 1740) n0 z) true 449 [(0, .ref v0)] [] n μ := by
  unfold fX7_init_b449 at h
  refine V_aload_n 0 (zdk tbX7_init_5_ok 42 rfl) rfl ?_
  refine V_iconst (v := 4) (zdk tbX7_init_5_ok 43 rfl) rfl ?_
  obtain ⟨w1, h⟩ := chk_some h
  obtain ⟨w2, h⟩ := chk_some h
  obtain ⟨μ3, e4, h⟩ := lt_some h
  refine V_newi (zdk tbX7_init_5_ok 44 rfl) rfl (by decide) w1 wA100 (zrm_room w2 rfl rfl rfl) e4 ?_
  replace c_v0 := isC_mono c_v0 (Nat.le_succ n)
  replace hn0 := Nat.le_succ_of_le hn0
  have c5 := isC_newa w1
  refine V_dup_r (zdk tbX7_init_5_ok 45 rfl) ?_
  refine V_iconst (v := 0) (zdk tbX7_init_5_ok 46 rfl) rfl ?_
  refine V_bipush (v := 6) (zdk tbX7_init_5_ok 47 rfl) rfl ?_
  obtain ⟨b6, h⟩ := chk_some h
  obtain ⟨μ7, e8, h⟩ := lt_some h
  refine V_iast (zdk tbX7_init_5_ok 48 rfl) c5 b6 e8 ?_
  refine V_dup_r (zdk tbX7_init_5_ok 49 rfl) ?_
  refine V_iconst (v := 1) (zdk tbX7_init_6_ok 0 rfl) rfl ?_
  refine V_bipush (v := 9) (zdk tbX7_init_6_ok 1 rfl) rfl ?_
  obtain ⟨b9, h⟩ := chk_some h
  obtain ⟨μ10, e11, h⟩ := lt_some h
  refine V_iast (zdk tbX7_init_6_ok 2 rfl) c5 b9 e11 ?_
  refine V_dup_r (zdk tbX7_init_6_ok 3 rfl) ?_
  refine V_iconst (v := 2) (zdk tbX7_init_6_ok 4 rfl) rfl ?_
  refine V_bipush (v := 40) (zdk tbX7_init_6_ok 5 rfl) rfl ?_
  obtain ⟨b12, h⟩ := chk_some h
  obtain ⟨μ13, e14, h⟩ := lt_some h
  refine V_iast (zdk tbX7_init_6_ok 6 rfl) c5 b12 e14 ?_
  refine V_dup_r (zdk tbX7_init_6_ok 7 rfl) ?_
  refine V_iconst (v := 3) (zdk tbX7_init_6_ok 8 rfl) rfl ?_
  refine V_bipush (v := 40) (zdk tbX7_init_6_ok 9 rfl) rfl ?_
  obtain ⟨b15, h⟩ := chk_some h
  obtain ⟨μ16, e17, h⟩ := lt_some h
  refine V_iast (zdk tbX7_init_6_ok 10 rfl) c5 b15 e17 ?_
  obtain ⟨μ18, e19, h⟩ := lt_some h
  refine V_putR (zdk tbX7_init_6_ok 11 rfl) c_v0 fF7_72 rfl (Or.inr ⟨rfl, fun q hq => by cases hq; rfl⟩) rfl (fun _ => rfl) (fun _ => rfl) e19 ?_
  refine V_aload_n 0 (zdk tbX7_init_6_ok 12 rfl) rfl ?_
  refine V_iconst (v := 4) (zdk tbX7_init_6_ok 13 rfl) rfl ?_
  obtain ⟨w20, h⟩ := chk_some h
  obtain ⟨w21, h⟩ := chk_some h
  obtain ⟨μ22, e23, h⟩ := lt_some h
  refine V_newi (zdk tbX7_init_6_ok 14 rfl) rfl (by decide) w20 wA100 (zrm_room w21 rfl rfl rfl) e23 ?_
  replace c_v0 := isC_mono c_v0 (Nat.le_succ (n + 1))
  replace c5 := isC_mono c5 (Nat.le_succ (n + 1))
  replace hn0 := Nat.le_succ_of_le hn0
  have c24 := isC_newa w20
  obtain ⟨μ25, e26, h⟩ := lt_some h
  refine V_putR (zdk tbX7_init_6_ok 15 rfl) c_v0 fF7_75 rfl (Or.inr ⟨rfl, fun q hq => by cases hq; rfl⟩) rfl (fun _ => rfl) (fun _ => rfl) e26 ?_
  exact tX7_init_b483 ((n + 1) + 1) v0 μ25 c_v0 hn0 h
def fX7_init_b412 (n0 : Nat) (n : Nat) (v0 : Nat) (μ : ZMem) : Option (Nat × ZMem) := chk (nwa n 100 7) (chk (zrm (n + 1) n0 22 1740) (lt (zmk μ n) (fun μ3 => chk (inb (0 : Int32) n) (lt (zpI μ3 n (0 : Int32).toNatClampNeg (4 : Int32)) (fun μ7 => chk (inb (1 : Int32) n) (lt (zpI μ7 n (1 : Int32).toNatClampNeg (1 : Int32)) (fun μ10 => chk (inb (2 : Int32) n) (lt (zpI μ10 n (2 : Int32).toNatClampNeg (1 : Int32)) (fun μ13 => chk (inb (3 : Int32) n) (lt (zpI μ13 n (3 : Int32).toNatClampNeg (1 : Int32)) (fun μ16 => chk (inb (4 : Int32) n) (lt (zpI μ16 n (4 : Int32).toNatClampNeg (0 : Int32)) (fun μ19 => chk (inb (5 : Int32) n) (lt (zpI μ19 n (5 : Int32).toNatClampNeg (1 : Int32)) (fun μ22 => chk (inb (6 : Int32) n) (lt (zpI μ22 n (6 : Int32).toNatClampNeg (1 : Int32)) (fun μ25 => lt (zpR μ25 v0 22 n) (fun μ27 => (fX7_init_b449 n0 (n + 1) v0 μ27)))))))))))))))))))
theorem tX7_init_b412 {l : Launch} {n0 : Nat} {z : Nat × ZMem} (n : Nat) (v0 : Nat) (μ : ZMem) (c_v0 : isC n 7 v0 = true) (hn0 : n0 ≤ n) (h : fX7_init_b412 n0 n v0 μ = some z) : V (zkC l mX7_init (rmc 1 22 1740) n0 z) true 412 [(0, .ref v0)] [] n μ := by
  unfold fX7_init_b412 at h
  refine V_aload_n 0 (zdk tbX7_init_5_ok 10 rfl) rfl ?_
  refine V_bipush (v := 7) (zdk tbX7_init_5_ok 11 rfl) rfl ?_
  obtain ⟨w1, h⟩ := chk_some h
  obtain ⟨w2, h⟩ := chk_some h
  obtain ⟨μ3, e4, h⟩ := lt_some h
  refine V_newi (zdk tbX7_init_5_ok 12 rfl) rfl (by decide) w1 wA100 (zrm_room w2 rfl rfl rfl) e4 ?_
  replace c_v0 := isC_mono c_v0 (Nat.le_succ n)
  replace hn0 := Nat.le_succ_of_le hn0
  have c5 := isC_newa w1
  refine V_dup_r (zdk tbX7_init_5_ok 13 rfl) ?_
  refine V_iconst (v := 0) (zdk tbX7_init_5_ok 14 rfl) rfl ?_
  refine V_iconst (v := 4) (zdk tbX7_init_5_ok 15 rfl) rfl ?_
  obtain ⟨b6, h⟩ := chk_some h
  obtain ⟨μ7, e8, h⟩ := lt_some h
  refine V_iast (zdk tbX7_init_5_ok 16 rfl) c5 b6 e8 ?_
  refine V_dup_r (zdk tbX7_init_5_ok 17 rfl) ?_
  refine V_iconst (v := 1) (zdk tbX7_init_5_ok 18 rfl) rfl ?_
  refine V_iconst (v := 1) (zdk tbX7_init_5_ok 19 rfl) rfl ?_
  obtain ⟨b9, h⟩ := chk_some h
  obtain ⟨μ10, e11, h⟩ := lt_some h
  refine V_iast (zdk tbX7_init_5_ok 20 rfl) c5 b9 e11 ?_
  refine V_dup_r (zdk tbX7_init_5_ok 21 rfl) ?_
  refine V_iconst (v := 2) (zdk tbX7_init_5_ok 22 rfl) rfl ?_
  refine V_iconst (v := 1) (zdk tbX7_init_5_ok 23 rfl) rfl ?_
  obtain ⟨b12, h⟩ := chk_some h
  obtain ⟨μ13, e14, h⟩ := lt_some h
  refine V_iast (zdk tbX7_init_5_ok 24 rfl) c5 b12 e14 ?_
  refine V_dup_r (zdk tbX7_init_5_ok 25 rfl) ?_
  refine V_iconst (v := 3) (zdk tbX7_init_5_ok 26 rfl) rfl ?_
  refine V_iconst (v := 1) (zdk tbX7_init_5_ok 27 rfl) rfl ?_
  obtain ⟨b15, h⟩ := chk_some h
  obtain ⟨μ16, e17, h⟩ := lt_some h
  refine V_iast (zdk tbX7_init_5_ok 28 rfl) c5 b15 e17 ?_
  refine V_dup_r (zdk tbX7_init_5_ok 29 rfl) ?_
  refine V_iconst (v := 4) (zdk tbX7_init_5_ok 30 rfl) rfl ?_
  refine V_iconst (v := 0) (zdk tbX7_init_5_ok 31 rfl) rfl ?_
  obtain ⟨b18, h⟩ := chk_some h
  obtain ⟨μ19, e20, h⟩ := lt_some h
  refine V_iast (zdk tbX7_init_5_ok 32 rfl) c5 b18 e20 ?_
  refine V_dup_r (zdk tbX7_init_5_ok 33 rfl) ?_
  refine V_iconst (v := 5) (zdk tbX7_init_5_ok 34 rfl) rfl ?_
  refine V_iconst (v := 1) (zdk tbX7_init_5_ok 35 rfl) rfl ?_
  obtain ⟨b21, h⟩ := chk_some h
  obtain ⟨μ22, e23, h⟩ := lt_some h
  refine V_iast (zdk tbX7_init_5_ok 36 rfl) c5 b21 e23 ?_
  refine V_dup_r (zdk tbX7_init_5_ok 37 rfl) ?_
  refine V_bipush (v := 6) (zdk tbX7_init_5_ok 38 rfl) rfl ?_
  refine V_iconst (v := 1) (zdk tbX7_init_5_ok 39 rfl) rfl ?_
  obtain ⟨b24, h⟩ := chk_some h
  obtain ⟨μ25, e26, h⟩ := lt_some h
  refine V_iast (zdk tbX7_init_5_ok 40 rfl) c5 b24 e26 ?_
  obtain ⟨μ27, e28, h⟩ := lt_some h
  refine V_putR (zdk tbX7_init_5_ok 41 rfl) c_v0 fF7_69 rfl (Or.inr ⟨rfl, fun q hq => by cases hq; rfl⟩) rfl (fun _ => rfl) (fun _ => rfl) e28 ?_
  exact tX7_init_b449 (n + 1) v0 μ27 c_v0 hn0 h
def fX7_init_b93 (n0 : Nat) (n : Nat) (v0 : Nat) (μ : ZMem) : Option (Nat × ZMem) := chk (nwa n 100 8) (chk (zrm (n + 1) n0 22 1740) (lt (zmk μ n) (fun μ3 => lt (zpR μ3 v0 16 n) (fun μ6 => chk (nwa (n + 1) 100 8) (chk (zrm ((n + 1) + 1) n0 22 1740) (lt (zmk μ6 (n + 1)) (fun μ10 => lt (zpR μ10 v0 17 (n + 1)) (fun μ13 => chk (nwa ((n + 1) + 1) 100 8) (chk (zrm (((n + 1) + 1) + 1) n0 22 1740) (lt (zmk μ13 ((n + 1) + 1)) (fun μ17 => lt (zpR μ17 v0 18 ((n + 1) + 1)) (fun μ20 => chk (nwa (((n + 1) + 1) + 1) 101 1280) (chk (zrm ((((n + 1) + 1) + 1) + 1) n0 22 1740) (lt (zmk μ20 (((n + 1) + 1) + 1)) (fun μ24 => lt (zpR μ24 v0 19 (((n + 1) + 1) + 1)) (fun μ27 => chk (nwa ((((n + 1) + 1) + 1) + 1) 101 160) (chk (zrm (((((n + 1) + 1) + 1) + 1) + 1) n0 22 1740) (lt (zmk μ27 ((((n + 1) + 1) + 1) + 1)) (fun μ31 => lt (zpR μ31 v0 20 ((((n + 1) + 1) + 1) + 1)) (fun μ34 => chk (nwa (((((n + 1) + 1) + 1) + 1) + 1) 100 47) (chk (zrm ((((((n + 1) + 1) + 1) + 1) + 1) + 1) n0 22 1740) (lt (zmk μ34 (((((n + 1) + 1) + 1) + 1) + 1)) (fun μ38 => chk (inb (0 : Int32) (((((n + 1) + 1) + 1) + 1) + 1)) (lt (zpI μ38 (((((n + 1) + 1) + 1) + 1) + 1) (0 : Int32).toNatClampNeg (112 : Int32)) (fun μ42 => chk (inb (1 : Int32) (((((n + 1) + 1) + 1) + 1) + 1)) (lt (zpI μ42 (((((n + 1) + 1) + 1) + 1) + 1) (1 : Int32).toNatClampNeg (101 : Int32)) (fun μ45 => chk (inb (2 : Int32) (((((n + 1) + 1) + 1) + 1) + 1)) (lt (zpI μ45 (((((n + 1) + 1) + 1) + 1) + 1) (2 : Int32).toNatClampNeg (114 : Int32)) (fun μ48 => chk (inb (3 : Int32) (((((n + 1) + 1) + 1) + 1) + 1)) (lt (zpI μ48 (((((n + 1) + 1) + 1) + 1) + 1) (3 : Int32).toNatClampNeg (115 : Int32)) (fun μ51 => chk (inb (4 : Int32) (((((n + 1) + 1) + 1) + 1) + 1)) (lt (zpI μ51 (((((n + 1) + 1) + 1) + 1) + 1) (4 : Int32).toNatClampNeg (111 : Int32)) (fun μ54 => chk (inb (5 : Int32) (((((n + 1) + 1) + 1) + 1) + 1)) (lt (zpI μ54 (((((n + 1) + 1) + 1) + 1) + 1) (5 : Int32).toNatClampNeg (110 : Int32)) (fun μ57 => chk (inb (6 : Int32) (((((n + 1) + 1) + 1) + 1) + 1)) (lt (zpI μ57 (((((n + 1) + 1) + 1) + 1) + 1) (6 : Int32).toNatClampNeg (32 : Int32)) (fun μ60 => chk (inb (7 : Int32) (((((n + 1) + 1) + 1) + 1) + 1)) (lt (zpI μ60 (((((n + 1) + 1) + 1) + 1) + 1) (7 : Int32).toNatClampNeg (0 : Int32)) (fun μ63 => chk (inb (8 : Int32) (((((n + 1) + 1) + 1) + 1) + 1)) (lt (zpI μ63 (((((n + 1) + 1) + 1) + 1) + 1) (8 : Int32).toNatClampNeg (119 : Int32)) (fun μ66 => chk (inb (9 : Int32) (((((n + 1) + 1) + 1) + 1) + 1)) (lt (zpI μ66 (((((n + 1) + 1) + 1) + 1) + 1) (9 : Int32).toNatClampNeg (101 : Int32)) (fun μ69 => chk (inb (10 : Int32) (((((n + 1) + 1) + 1) + 1) + 1)) (lt (zpI μ69 (((((n + 1) + 1) + 1) + 1) + 1) (10 : Int32).toNatClampNeg (105 : Int32)) (fun μ72 => chk (inb (11 : Int32) (((((n + 1) + 1) + 1) + 1) + 1)) (lt (zpI μ72 (((((n + 1) + 1) + 1) + 1) + 1) (11 : Int32).toNatClampNeg (103 : Int32)) (fun μ75 => chk (inb (12 : Int32) (((((n + 1) + 1) + 1) + 1) + 1)) (lt (zpI μ75 (((((n + 1) + 1) + 1) + 1) + 1) (12 : Int32).toNatClampNeg (104 : Int32)) (fun μ78 => chk (inb (13 : Int32) (((((n + 1) + 1) + 1) + 1) + 1)) (lt (zpI μ78 (((((n + 1) + 1) + 1) + 1) + 1) (13 : Int32).toNatClampNeg (116 : Int32)) (fun μ81 => chk (inb (14 : Int32) (((((n + 1) + 1) + 1) + 1) + 1)) (lt (zpI μ81 (((((n + 1) + 1) + 1) + 1) + 1) (14 : Int32).toNatClampNeg (32 : Int32)) (fun μ84 => chk (inb (15 : Int32) (((((n + 1) + 1) + 1) + 1) + 1)) (lt (zpI μ84 (((((n + 1) + 1) + 1) + 1) + 1) (15 : Int32).toNatClampNeg (0 : Int32)) (fun μ87 => chk (inb (16 : Int32) (((((n + 1) + 1) + 1) + 1) + 1)) (lt (zpI μ87 (((((n + 1) + 1) + 1) + 1) + 1) (16 : Int32).toNatClampNeg (119 : Int32)) (fun μ90 => chk (inb (17 : Int32) (((((n + 1) + 1) + 1) + 1) + 1)) (lt (zpI μ90 (((((n + 1) + 1) + 1) + 1) + 1) (17 : Int32).toNatClampNeg (97 : Int32)) (fun μ93 => chk (inb (18 : Int32) (((((n + 1) + 1) + 1) + 1) + 1)) (lt (zpI μ93 (((((n + 1) + 1) + 1) + 1) + 1) (18 : Int32).toNatClampNeg (121 : Int32)) (fun μ96 => chk (inb (19 : Int32) (((((n + 1) + 1) + 1) + 1) + 1)) (lt (zpI μ96 (((((n + 1) + 1) + 1) + 1) + 1) (19 : Int32).toNatClampNeg (32 : Int32)) (fun μ99 => chk (inb (20 : Int32) (((((n + 1) + 1) + 1) + 1) + 1)) (lt (zpI μ99 (((((n + 1) + 1) + 1) + 1) + 1) (20 : Int32).toNatClampNeg (0 : Int32)) (fun μ102 => chk (inb (21 : Int32) (((((n + 1) + 1) + 1) + 1) + 1)) (lt (zpI μ102 (((((n + 1) + 1) + 1) + 1) + 1) (21 : Int32).toNatClampNeg (98 : Int32)) (fun μ105 => chk (inb (22 : Int32) (((((n + 1) + 1) + 1) + 1) + 1)) (lt (zpI μ105 (((((n + 1) + 1) + 1) + 1) + 1) (22 : Int32).toNatClampNeg (101 : Int32)) (fun μ108 => chk (inb (23 : Int32) (((((n + 1) + 1) + 1) + 1) + 1)) (lt (zpI μ108 (((((n + 1) + 1) + 1) + 1) + 1) (23 : Int32).toNatClampNeg (97 : Int32)) (fun μ111 => chk (inb (24 : Int32) (((((n + 1) + 1) + 1) + 1) + 1)) (lt (zpI μ111 (((((n + 1) + 1) + 1) + 1) + 1) (24 : Int32).toNatClampNeg (114 : Int32)) (fun μ114 => chk (inb (25 : Int32) (((((n + 1) + 1) + 1) + 1) + 1)) (lt (zpI μ114 (((((n + 1) + 1) + 1) + 1) + 1) (25 : Int32).toNatClampNeg (115 : Int32)) (fun μ117 => chk (inb (26 : Int32) (((((n + 1) + 1) + 1) + 1) + 1)) (lt (zpI μ117 (((((n + 1) + 1) + 1) + 1) + 1) (26 : Int32).toNatClampNeg (32 : Int32)) (fun μ120 => chk (inb (27 : Int32) (((((n + 1) + 1) + 1) + 1) + 1)) (lt (zpI μ120 (((((n + 1) + 1) + 1) + 1) + 1) (27 : Int32).toNatClampNeg (0 : Int32)) (fun μ123 => chk (inb (28 : Int32) (((((n + 1) + 1) + 1) + 1) + 1)) (lt (zpI μ123 (((((n + 1) + 1) + 1) + 1) + 1) (28 : Int32).toNatClampNeg (108 : Int32)) (fun μ126 => chk (inb (29 : Int32) (((((n + 1) + 1) + 1) + 1) + 1)) (lt (zpI μ126 (((((n + 1) + 1) + 1) + 1) + 1) (29 : Int32).toNatClampNeg (105 : Int32)) (fun μ129 => chk (inb (30 : Int32) (((((n + 1) + 1) + 1) + 1) + 1)) (lt (zpI μ129 (((((n + 1) + 1) + 1) + 1) + 1) (30 : Int32).toNatClampNeg (101 : Int32)) (fun μ132 => chk (inb (31 : Int32) (((((n + 1) + 1) + 1) + 1) + 1)) (lt (zpI μ132 (((((n + 1) + 1) + 1) + 1) + 1) (31 : Int32).toNatClampNeg (115 : Int32)) (fun μ135 => chk (inb (32 : Int32) (((((n + 1) + 1) + 1) + 1) + 1)) (lt (zpI μ135 (((((n + 1) + 1) + 1) + 1) + 1) (32 : Int32).toNatClampNeg (0 : Int32)) (fun μ138 => chk (inb (33 : Int32) (((((n + 1) + 1) + 1) + 1) + 1)) (lt (zpI μ138 (((((n + 1) + 1) + 1) + 1) + 1) (33 : Int32).toNatClampNeg (99 : Int32)) (fun μ141 => chk (inb (34 : Int32) (((((n + 1) + 1) + 1) + 1) + 1)) (lt (zpI μ141 (((((n + 1) + 1) + 1) + 1) + 1) (34 : Int32).toNatClampNeg (111 : Int32)) (fun μ144 => chk (inb (35 : Int32) (((((n + 1) + 1) + 1) + 1) + 1)) (lt (zpI μ144 (((((n + 1) + 1) + 1) + 1) + 1) (35 : Int32).toNatClampNeg (117 : Int32)) (fun μ147 => chk (inb (36 : Int32) (((((n + 1) + 1) + 1) + 1) + 1)) (lt (zpI μ147 (((((n + 1) + 1) + 1) + 1) + 1) (36 : Int32).toNatClampNeg (110 : Int32)) (fun μ150 => chk (inb (37 : Int32) (((((n + 1) + 1) + 1) + 1) + 1)) (lt (zpI μ150 (((((n + 1) + 1) + 1) + 1) + 1) (37 : Int32).toNatClampNeg (116 : Int32)) (fun μ153 => chk (inb (38 : Int32) (((((n + 1) + 1) + 1) + 1) + 1)) (lt (zpI μ153 (((((n + 1) + 1) + 1) + 1) + 1) (38 : Int32).toNatClampNeg (115 : Int32)) (fun μ156 => chk (inb (39 : Int32) (((((n + 1) + 1) + 1) + 1) + 1)) (lt (zpI μ156 (((((n + 1) + 1) + 1) + 1) + 1) (39 : Int32).toNatClampNeg (32 : Int32)) (fun μ159 => chk (inb (40 : Int32) (((((n + 1) + 1) + 1) + 1) + 1)) (lt (zpI μ159 (((((n + 1) + 1) + 1) + 1) + 1) (40 : Int32).toNatClampNeg (0 : Int32)) (fun μ162 => chk (inb (41 : Int32) (((((n + 1) + 1) + 1) + 1) + 1)) (lt (zpI μ162 (((((n + 1) + 1) + 1) + 1) + 1) (41 : Int32).toNatClampNeg (102 : Int32)) (fun μ165 => chk (inb (42 : Int32) (((((n + 1) + 1) + 1) + 1) + 1)) (lt (zpI μ165 (((((n + 1) + 1) + 1) + 1) + 1) (42 : Int32).toNatClampNeg (114 : Int32)) (fun μ168 => chk (inb (43 : Int32) (((((n + 1) + 1) + 1) + 1) + 1)) (lt (zpI μ168 (((((n + 1) + 1) + 1) + 1) + 1) (43 : Int32).toNatClampNeg (101 : Int32)) (fun μ171 => chk (inb (44 : Int32) (((((n + 1) + 1) + 1) + 1) + 1)) (lt (zpI μ171 (((((n + 1) + 1) + 1) + 1) + 1) (44 : Int32).toNatClampNeg (101 : Int32)) (fun μ174 => chk (inb (45 : Int32) (((((n + 1) + 1) + 1) + 1) + 1)) (lt (zpI μ174 (((((n + 1) + 1) + 1) + 1) + 1) (45 : Int32).toNatClampNeg (32 : Int32)) (fun μ177 => chk (inb (46 : Int32) (((((n + 1) + 1) + 1) + 1) + 1)) (lt (zpI μ177 (((((n + 1) + 1) + 1) + 1) + 1) (46 : Int32).toNatClampNeg (0 : Int32)) (fun μ180 => lt (zpR μ180 v0 21 (((((n + 1) + 1) + 1) + 1) + 1)) (fun μ182 => (fX7_init_b412 n0 ((((((n + 1) + 1) + 1) + 1) + 1) + 1) v0 μ182)))))))))))))))))))))))))))))))))))))))))))))))))))))))))))))))))))))))))))))))))))))))))))))))))))))))))))))))))))))))
theorem tX7_init_b93 {l : Launch} {n0 : Nat} {z : Nat × ZMem} (n : Nat) (v0 : Nat) (μ : ZMem) (c_v0 : isC n 7 v0 = true) (hn0 : n0 ≤ n) (h : fX7_init_b93 n0 n v0 μ = some z) : V (zkC l mX7_init (rmc 1 22 1740) n0 z) true 93 [(0, .ref v0)] [] n μ := by
  unfold fX7_init_b93 at h
  refine V_aload_n 0 (zdk tbX7_init_0_ok 48 rfl) rfl ?_
  refine V_bipush (v := 8) (zdk tbX7_init_0_ok 49 rfl) rfl ?_
  obtain ⟨w1, h⟩ := chk_some h
  obtain ⟨w2, h⟩ := chk_some h
  obtain ⟨μ3, e4, h⟩ := lt_some h
  refine V_newi (zdk tbX7_init_1_ok 0 rfl) rfl (by decide) w1 wA100 (zrm_room w2 rfl rfl rfl) e4 ?_
  replace c_v0 := isC_mono c_v0 (Nat.le_succ n)
  replace hn0 := Nat.le_succ_of_le hn0
  have c5 := isC_newa w1
  obtain ⟨μ6, e7, h⟩ := lt_some h
  refine V_putR (zdk tbX7_init_1_ok 1 rfl) c_v0 fF7_50 rfl (Or.inr ⟨rfl, fun q hq => by cases hq; rfl⟩) rfl (fun _ => rfl) (fun _ => rfl) e7 ?_
  refine V_aload_n 0 (zdk tbX7_init_1_ok 2 rfl) rfl ?_
  refine V_bipush (v := 8) (zdk tbX7_init_1_ok 3 rfl) rfl ?_
  obtain ⟨w8, h⟩ := chk_some h
  obtain ⟨w9, h⟩ := chk_some h
  obtain ⟨μ10, e11, h⟩ := lt_some h
  refine V_newi (zdk tbX7_init_1_ok 4 rfl) rfl (by decide) w8 wA100 (zrm_room w9 rfl rfl rfl) e11 ?_
  replace c_v0 := isC_mono c_v0 (Nat.le_succ (n + 1))
  replace c5 := isC_mono c5 (Nat.le_succ (n + 1))
  replace hn0 := Nat.le_succ_of_le hn0
  have c12 := isC_newa w8
  obtain ⟨μ13, e14, h⟩ := lt_some h
  refine V_putR (zdk tbX7_init_1_ok 5 rfl) c_v0 fF7_53 rfl (Or.inr ⟨rfl, fun q hq => by cases hq; rfl⟩) rfl (fun _ => rfl) (fun _ => rfl) e14 ?_
  refine V_aload_n 0 (zdk tbX7_init_1_ok 6 rfl) rfl ?_
  refine V_bipush (v := 8) (zdk tbX7_init_1_ok 7 rfl) rfl ?_
  obtain ⟨w15, h⟩ := chk_some h
  obtain ⟨w16, h⟩ := chk_some h
  obtain ⟨μ17, e18, h⟩ := lt_some h
  refine V_newi (zdk tbX7_init_1_ok 8 rfl) rfl (by decide) w15 wA100 (zrm_room w16 rfl rfl rfl) e18 ?_
  replace c_v0 := isC_mono c_v0 (Nat.le_succ ((n + 1) + 1))
  replace c5 := isC_mono c5 (Nat.le_succ ((n + 1) + 1))
  replace c12 := isC_mono c12 (Nat.le_succ ((n + 1) + 1))
  replace hn0 := Nat.le_succ_of_le hn0
  have c19 := isC_newa w15
  obtain ⟨μ20, e21, h⟩ := lt_some h
  refine V_putR (zdk tbX7_init_1_ok 9 rfl) c_v0 fF7_56 rfl (Or.inr ⟨rfl, fun q hq => by cases hq; rfl⟩) rfl (fun _ => rfl) (fun _ => rfl) e21 ?_
  refine V_aload_n 0 (zdk tbX7_init_1_ok 10 rfl) rfl ?_
  refine V_sipush (v := 1280) (zdk tbX7_init_1_ok 11 rfl) rfl ?_
  obtain ⟨w22, h⟩ := chk_some h
  obtain ⟨w23, h⟩ := chk_some h
  obtain ⟨μ24, e25, h⟩ := lt_some h
  refine V_newl (zdk tbX7_init_1_ok 12 rfl) rfl (by decide) w22 wA101 (zrm_room w23 rfl rfl rfl) e25 ?_
  replace c_v0 := isC_mono c_v0 (Nat.le_succ (((n + 1) + 1) + 1))
  replace c5 := isC_mono c5 (Nat.le_succ (((n + 1) + 1) + 1))
  replace c12 := isC_mono c12 (Nat.le_succ (((n + 1) + 1) + 1))
  replace c19 := isC_mono c19 (Nat.le_succ (((n + 1) + 1) + 1))
  replace hn0 := Nat.le_succ_of_le hn0
  have c26 := isC_newa w22
  obtain ⟨μ27, e28, h⟩ := lt_some h
  refine V_putR (zdk tbX7_init_1_ok 13 rfl) c_v0 fF7_59 rfl (Or.inr ⟨rfl, fun q hq => by cases hq; rfl⟩) rfl (fun _ => rfl) (fun _ => rfl) e28 ?_
  refine V_aload_n 0 (zdk tbX7_init_1_ok 14 rfl) rfl ?_
  refine V_sipush (v := 160) (zdk tbX7_init_1_ok 15 rfl) rfl ?_
  obtain ⟨w29, h⟩ := chk_some h
  obtain ⟨w30, h⟩ := chk_some h
  obtain ⟨μ31, e32, h⟩ := lt_some h
  refine V_newl (zdk tbX7_init_1_ok 16 rfl) rfl (by decide) w29 wA101 (zrm_room w30 rfl rfl rfl) e32 ?_
  replace c_v0 := isC_mono c_v0 (Nat.le_succ ((((n + 1) + 1) + 1) + 1))
  replace c5 := isC_mono c5 (Nat.le_succ ((((n + 1) + 1) + 1) + 1))
  replace c12 := isC_mono c12 (Nat.le_succ ((((n + 1) + 1) + 1) + 1))
  replace c19 := isC_mono c19 (Nat.le_succ ((((n + 1) + 1) + 1) + 1))
  replace c26 := isC_mono c26 (Nat.le_succ ((((n + 1) + 1) + 1) + 1))
  replace hn0 := Nat.le_succ_of_le hn0
  have c33 := isC_newa w29
  obtain ⟨μ34, e35, h⟩ := lt_some h
  refine V_putR (zdk tbX7_init_1_ok 17 rfl) c_v0 fF7_63 rfl (Or.inr ⟨rfl, fun q hq => by cases hq; rfl⟩) rfl (fun _ => rfl) (fun _ => rfl) e35 ?_
  refine V_aload_n 0 (zdk tbX7_init_1_ok 18 rfl) rfl ?_
  refine V_bipush (v := 47) (zdk tbX7_init_1_ok 19 rfl) rfl ?_
  obtain ⟨w36, h⟩ := chk_some h
  obtain ⟨w37, h⟩ := chk_some h
  obtain ⟨μ38, e39, h⟩ := lt_some h
  refine V_newi (zdk tbX7_init_1_ok 20 rfl) rfl (by decide) w36 wA100 (zrm_room w37 rfl rfl rfl) e39 ?_
  replace c_v0 := isC_mono c_v0 (Nat.le_succ (((((n + 1) + 1) + 1) + 1) + 1))
  replace c5 := isC_mono c5 (Nat.le_succ (((((n + 1) + 1) + 1) + 1) + 1))
  replace c12 := isC_mono c12 (Nat.le_succ (((((n + 1) + 1) + 1) + 1) + 1))
  replace c19 := isC_mono c19 (Nat.le_succ (((((n + 1) + 1) + 1) + 1) + 1))
  replace c26 := isC_mono c26 (Nat.le_succ (((((n + 1) + 1) + 1) + 1) + 1))
  replace c33 := isC_mono c33 (Nat.le_succ (((((n + 1) + 1) + 1) + 1) + 1))
  replace hn0 := Nat.le_succ_of_le hn0
  have c40 := isC_newa w36
  refine V_dup_r (zdk tbX7_init_1_ok 21 rfl) ?_
  refine V_iconst (v := 0) (zdk tbX7_init_1_ok 22 rfl) rfl ?_
  refine V_bipush (v := 112) (zdk tbX7_init_1_ok 23 rfl) rfl ?_
  obtain ⟨b41, h⟩ := chk_some h
  obtain ⟨μ42, e43, h⟩ := lt_some h
  refine V_iast (zdk tbX7_init_1_ok 24 rfl) c40 b41 e43 ?_
  refine V_dup_r (zdk tbX7_init_1_ok 25 rfl) ?_
  refine V_iconst (v := 1) (zdk tbX7_init_1_ok 26 rfl) rfl ?_
  refine V_bipush (v := 101) (zdk tbX7_init_1_ok 27 rfl) rfl ?_
  obtain ⟨b44, h⟩ := chk_some h
  obtain ⟨μ45, e46, h⟩ := lt_some h
  refine V_iast (zdk tbX7_init_1_ok 28 rfl) c40 b44 e46 ?_
  refine V_dup_r (zdk tbX7_init_1_ok 29 rfl) ?_
  refine V_iconst (v := 2) (zdk tbX7_init_1_ok 30 rfl) rfl ?_
  refine V_bipush (v := 114) (zdk tbX7_init_1_ok 31 rfl) rfl ?_
  obtain ⟨b47, h⟩ := chk_some h
  obtain ⟨μ48, e49, h⟩ := lt_some h
  refine V_iast (zdk tbX7_init_1_ok 32 rfl) c40 b47 e49 ?_
  refine V_dup_r (zdk tbX7_init_1_ok 33 rfl) ?_
  refine V_iconst (v := 3) (zdk tbX7_init_1_ok 34 rfl) rfl ?_
  refine V_bipush (v := 115) (zdk tbX7_init_1_ok 35 rfl) rfl ?_
  obtain ⟨b50, h⟩ := chk_some h
  obtain ⟨μ51, e52, h⟩ := lt_some h
  refine V_iast (zdk tbX7_init_1_ok 36 rfl) c40 b50 e52 ?_
  refine V_dup_r (zdk tbX7_init_1_ok 37 rfl) ?_
  refine V_iconst (v := 4) (zdk tbX7_init_1_ok 38 rfl) rfl ?_
  refine V_bipush (v := 111) (zdk tbX7_init_1_ok 39 rfl) rfl ?_
  obtain ⟨b53, h⟩ := chk_some h
  obtain ⟨μ54, e55, h⟩ := lt_some h
  refine V_iast (zdk tbX7_init_1_ok 40 rfl) c40 b53 e55 ?_
  refine V_dup_r (zdk tbX7_init_1_ok 41 rfl) ?_
  refine V_iconst (v := 5) (zdk tbX7_init_1_ok 42 rfl) rfl ?_
  refine V_bipush (v := 110) (zdk tbX7_init_1_ok 43 rfl) rfl ?_
  obtain ⟨b56, h⟩ := chk_some h
  obtain ⟨μ57, e58, h⟩ := lt_some h
  refine V_iast (zdk tbX7_init_1_ok 44 rfl) c40 b56 e58 ?_
  refine V_dup_r (zdk tbX7_init_1_ok 45 rfl) ?_
  refine V_bipush (v := 6) (zdk tbX7_init_1_ok 46 rfl) rfl ?_
  refine V_bipush (v := 32) (zdk tbX7_init_1_ok 47 rfl) rfl ?_
  obtain ⟨b59, h⟩ := chk_some h
  obtain ⟨μ60, e61, h⟩ := lt_some h
  refine V_iast (zdk tbX7_init_1_ok 48 rfl) c40 b59 e61 ?_
  refine V_dup_r (zdk tbX7_init_1_ok 49 rfl) ?_
  refine V_bipush (v := 7) (zdk tbX7_init_2_ok 0 rfl) rfl ?_
  refine V_iconst (v := 0) (zdk tbX7_init_2_ok 1 rfl) rfl ?_
  obtain ⟨b62, h⟩ := chk_some h
  obtain ⟨μ63, e64, h⟩ := lt_some h
  refine V_iast (zdk tbX7_init_2_ok 2 rfl) c40 b62 e64 ?_
  refine V_dup_r (zdk tbX7_init_2_ok 3 rfl) ?_
  refine V_bipush (v := 8) (zdk tbX7_init_2_ok 4 rfl) rfl ?_
  refine V_bipush (v := 119) (zdk tbX7_init_2_ok 5 rfl) rfl ?_
  obtain ⟨b65, h⟩ := chk_some h
  obtain ⟨μ66, e67, h⟩ := lt_some h
  refine V_iast (zdk tbX7_init_2_ok 6 rfl) c40 b65 e67 ?_
  refine V_dup_r (zdk tbX7_init_2_ok 7 rfl) ?_
  refine V_bipush (v := 9) (zdk tbX7_init_2_ok 8 rfl) rfl ?_
  refine V_bipush (v := 101) (zdk tbX7_init_2_ok 9 rfl) rfl ?_
  obtain ⟨b68, h⟩ := chk_some h
  obtain ⟨μ69, e70, h⟩ := lt_some h
  refine V_iast (zdk tbX7_init_2_ok 10 rfl) c40 b68 e70 ?_
  refine V_dup_r (zdk tbX7_init_2_ok 11 rfl) ?_
  refine V_bipush (v := 10) (zdk tbX7_init_2_ok 12 rfl) rfl ?_
  refine V_bipush (v := 105) (zdk tbX7_init_2_ok 13 rfl) rfl ?_
  obtain ⟨b71, h⟩ := chk_some h
  obtain ⟨μ72, e73, h⟩ := lt_some h
  refine V_iast (zdk tbX7_init_2_ok 14 rfl) c40 b71 e73 ?_
  refine V_dup_r (zdk tbX7_init_2_ok 15 rfl) ?_
  refine V_bipush (v := 11) (zdk tbX7_init_2_ok 16 rfl) rfl ?_
  refine V_bipush (v := 103) (zdk tbX7_init_2_ok 17 rfl) rfl ?_
  obtain ⟨b74, h⟩ := chk_some h
  obtain ⟨μ75, e76, h⟩ := lt_some h
  refine V_iast (zdk tbX7_init_2_ok 18 rfl) c40 b74 e76 ?_
  refine V_dup_r (zdk tbX7_init_2_ok 19 rfl) ?_
  refine V_bipush (v := 12) (zdk tbX7_init_2_ok 20 rfl) rfl ?_
  refine V_bipush (v := 104) (zdk tbX7_init_2_ok 21 rfl) rfl ?_
  obtain ⟨b77, h⟩ := chk_some h
  obtain ⟨μ78, e79, h⟩ := lt_some h
  refine V_iast (zdk tbX7_init_2_ok 22 rfl) c40 b77 e79 ?_
  refine V_dup_r (zdk tbX7_init_2_ok 23 rfl) ?_
  refine V_bipush (v := 13) (zdk tbX7_init_2_ok 24 rfl) rfl ?_
  refine V_bipush (v := 116) (zdk tbX7_init_2_ok 25 rfl) rfl ?_
  obtain ⟨b80, h⟩ := chk_some h
  obtain ⟨μ81, e82, h⟩ := lt_some h
  refine V_iast (zdk tbX7_init_2_ok 26 rfl) c40 b80 e82 ?_
  refine V_dup_r (zdk tbX7_init_2_ok 27 rfl) ?_
  refine V_bipush (v := 14) (zdk tbX7_init_2_ok 28 rfl) rfl ?_
  refine V_bipush (v := 32) (zdk tbX7_init_2_ok 29 rfl) rfl ?_
  obtain ⟨b83, h⟩ := chk_some h
  obtain ⟨μ84, e85, h⟩ := lt_some h
  refine V_iast (zdk tbX7_init_2_ok 30 rfl) c40 b83 e85 ?_
  refine V_dup_r (zdk tbX7_init_2_ok 31 rfl) ?_
  refine V_bipush (v := 15) (zdk tbX7_init_2_ok 32 rfl) rfl ?_
  refine V_iconst (v := 0) (zdk tbX7_init_2_ok 33 rfl) rfl ?_
  obtain ⟨b86, h⟩ := chk_some h
  obtain ⟨μ87, e88, h⟩ := lt_some h
  refine V_iast (zdk tbX7_init_2_ok 34 rfl) c40 b86 e88 ?_
  refine V_dup_r (zdk tbX7_init_2_ok 35 rfl) ?_
  refine V_bipush (v := 16) (zdk tbX7_init_2_ok 36 rfl) rfl ?_
  refine V_bipush (v := 119) (zdk tbX7_init_2_ok 37 rfl) rfl ?_
  obtain ⟨b89, h⟩ := chk_some h
  obtain ⟨μ90, e91, h⟩ := lt_some h
  refine V_iast (zdk tbX7_init_2_ok 38 rfl) c40 b89 e91 ?_
  refine V_dup_r (zdk tbX7_init_2_ok 39 rfl) ?_
  refine V_bipush (v := 17) (zdk tbX7_init_2_ok 40 rfl) rfl ?_
  refine V_bipush (v := 97) (zdk tbX7_init_2_ok 41 rfl) rfl ?_
  obtain ⟨b92, h⟩ := chk_some h
  obtain ⟨μ93, e94, h⟩ := lt_some h
  refine V_iast (zdk tbX7_init_2_ok 42 rfl) c40 b92 e94 ?_
  refine V_dup_r (zdk tbX7_init_2_ok 43 rfl) ?_
  refine V_bipush (v := 18) (zdk tbX7_init_2_ok 44 rfl) rfl ?_
  refine V_bipush (v := 121) (zdk tbX7_init_2_ok 45 rfl) rfl ?_
  obtain ⟨b95, h⟩ := chk_some h
  obtain ⟨μ96, e97, h⟩ := lt_some h
  refine V_iast (zdk tbX7_init_2_ok 46 rfl) c40 b95 e97 ?_
  refine V_dup_r (zdk tbX7_init_2_ok 47 rfl) ?_
  refine V_bipush (v := 19) (zdk tbX7_init_2_ok 48 rfl) rfl ?_
  refine V_bipush (v := 32) (zdk tbX7_init_2_ok 49 rfl) rfl ?_
  obtain ⟨b98, h⟩ := chk_some h
  obtain ⟨μ99, e100, h⟩ := lt_some h
  refine V_iast (zdk tbX7_init_3_ok 0 rfl) c40 b98 e100 ?_
  refine V_dup_r (zdk tbX7_init_3_ok 1 rfl) ?_
  refine V_bipush (v := 20) (zdk tbX7_init_3_ok 2 rfl) rfl ?_
  refine V_iconst (v := 0) (zdk tbX7_init_3_ok 3 rfl) rfl ?_
  obtain ⟨b101, h⟩ := chk_some h
  obtain ⟨μ102, e103, h⟩ := lt_some h
  refine V_iast (zdk tbX7_init_3_ok 4 rfl) c40 b101 e103 ?_
  refine V_dup_r (zdk tbX7_init_3_ok 5 rfl) ?_
  refine V_bipush (v := 21) (zdk tbX7_init_3_ok 6 rfl) rfl ?_
  refine V_bipush (v := 98) (zdk tbX7_init_3_ok 7 rfl) rfl ?_
  obtain ⟨b104, h⟩ := chk_some h
  obtain ⟨μ105, e106, h⟩ := lt_some h
  refine V_iast (zdk tbX7_init_3_ok 8 rfl) c40 b104 e106 ?_
  refine V_dup_r (zdk tbX7_init_3_ok 9 rfl) ?_
  refine V_bipush (v := 22) (zdk tbX7_init_3_ok 10 rfl) rfl ?_
  refine V_bipush (v := 101) (zdk tbX7_init_3_ok 11 rfl) rfl ?_
  obtain ⟨b107, h⟩ := chk_some h
  obtain ⟨μ108, e109, h⟩ := lt_some h
  refine V_iast (zdk tbX7_init_3_ok 12 rfl) c40 b107 e109 ?_
  refine V_dup_r (zdk tbX7_init_3_ok 13 rfl) ?_
  refine V_bipush (v := 23) (zdk tbX7_init_3_ok 14 rfl) rfl ?_
  refine V_bipush (v := 97) (zdk tbX7_init_3_ok 15 rfl) rfl ?_
  obtain ⟨b110, h⟩ := chk_some h
  obtain ⟨μ111, e112, h⟩ := lt_some h
  refine V_iast (zdk tbX7_init_3_ok 16 rfl) c40 b110 e112 ?_
  refine V_dup_r (zdk tbX7_init_3_ok 17 rfl) ?_
  refine V_bipush (v := 24) (zdk tbX7_init_3_ok 18 rfl) rfl ?_
  refine V_bipush (v := 114) (zdk tbX7_init_3_ok 19 rfl) rfl ?_
  obtain ⟨b113, h⟩ := chk_some h
  obtain ⟨μ114, e115, h⟩ := lt_some h
  refine V_iast (zdk tbX7_init_3_ok 20 rfl) c40 b113 e115 ?_
  refine V_dup_r (zdk tbX7_init_3_ok 21 rfl) ?_
  refine V_bipush (v := 25) (zdk tbX7_init_3_ok 22 rfl) rfl ?_
  refine V_bipush (v := 115) (zdk tbX7_init_3_ok 23 rfl) rfl ?_
  obtain ⟨b116, h⟩ := chk_some h
  obtain ⟨μ117, e118, h⟩ := lt_some h
  refine V_iast (zdk tbX7_init_3_ok 24 rfl) c40 b116 e118 ?_
  refine V_dup_r (zdk tbX7_init_3_ok 25 rfl) ?_
  refine V_bipush (v := 26) (zdk tbX7_init_3_ok 26 rfl) rfl ?_
  refine V_bipush (v := 32) (zdk tbX7_init_3_ok 27 rfl) rfl ?_
  obtain ⟨b119, h⟩ := chk_some h
  obtain ⟨μ120, e121, h⟩ := lt_some h
  refine V_iast (zdk tbX7_init_3_ok 28 rfl) c40 b119 e121 ?_
  refine V_dup_r (zdk tbX7_init_3_ok 29 rfl) ?_
  refine V_bipush (v := 27) (zdk tbX7_init_3_ok 30 rfl) rfl ?_
  refine V_iconst (v := 0) (zdk tbX7_init_3_ok 31 rfl) rfl ?_
  obtain ⟨b122, h⟩ := chk_some h
  obtain ⟨μ123, e124, h⟩ := lt_some h
  refine V_iast (zdk tbX7_init_3_ok 32 rfl) c40 b122 e124 ?_
  refine V_dup_r (zdk tbX7_init_3_ok 33 rfl) ?_
  refine V_bipush (v := 28) (zdk tbX7_init_3_ok 34 rfl) rfl ?_
  refine V_bipush (v := 108) (zdk tbX7_init_3_ok 35 rfl) rfl ?_
  obtain ⟨b125, h⟩ := chk_some h
  obtain ⟨μ126, e127, h⟩ := lt_some h
  refine V_iast (zdk tbX7_init_3_ok 36 rfl) c40 b125 e127 ?_
  refine V_dup_r (zdk tbX7_init_3_ok 37 rfl) ?_
  refine V_bipush (v := 29) (zdk tbX7_init_3_ok 38 rfl) rfl ?_
  refine V_bipush (v := 105) (zdk tbX7_init_3_ok 39 rfl) rfl ?_
  obtain ⟨b128, h⟩ := chk_some h
  obtain ⟨μ129, e130, h⟩ := lt_some h
  refine V_iast (zdk tbX7_init_3_ok 40 rfl) c40 b128 e130 ?_
  refine V_dup_r (zdk tbX7_init_3_ok 41 rfl) ?_
  refine V_bipush (v := 30) (zdk tbX7_init_3_ok 42 rfl) rfl ?_
  refine V_bipush (v := 101) (zdk tbX7_init_3_ok 43 rfl) rfl ?_
  obtain ⟨b131, h⟩ := chk_some h
  obtain ⟨μ132, e133, h⟩ := lt_some h
  refine V_iast (zdk tbX7_init_3_ok 44 rfl) c40 b131 e133 ?_
  refine V_dup_r (zdk tbX7_init_3_ok 45 rfl) ?_
  refine V_bipush (v := 31) (zdk tbX7_init_3_ok 46 rfl) rfl ?_
  refine V_bipush (v := 115) (zdk tbX7_init_3_ok 47 rfl) rfl ?_
  obtain ⟨b134, h⟩ := chk_some h
  obtain ⟨μ135, e136, h⟩ := lt_some h
  refine V_iast (zdk tbX7_init_3_ok 48 rfl) c40 b134 e136 ?_
  refine V_dup_r (zdk tbX7_init_3_ok 49 rfl) ?_
  refine V_bipush (v := 32) (zdk tbX7_init_4_ok 0 rfl) rfl ?_
  refine V_iconst (v := 0) (zdk tbX7_init_4_ok 1 rfl) rfl ?_
  obtain ⟨b137, h⟩ := chk_some h
  obtain ⟨μ138, e139, h⟩ := lt_some h
  refine V_iast (zdk tbX7_init_4_ok 2 rfl) c40 b137 e139 ?_
  refine V_dup_r (zdk tbX7_init_4_ok 3 rfl) ?_
  refine V_bipush (v := 33) (zdk tbX7_init_4_ok 4 rfl) rfl ?_
  refine V_bipush (v := 99) (zdk tbX7_init_4_ok 5 rfl) rfl ?_
  obtain ⟨b140, h⟩ := chk_some h
  obtain ⟨μ141, e142, h⟩ := lt_some h
  refine V_iast (zdk tbX7_init_4_ok 6 rfl) c40 b140 e142 ?_
  refine V_dup_r (zdk tbX7_init_4_ok 7 rfl) ?_
  refine V_bipush (v := 34) (zdk tbX7_init_4_ok 8 rfl) rfl ?_
  refine V_bipush (v := 111) (zdk tbX7_init_4_ok 9 rfl) rfl ?_
  obtain ⟨b143, h⟩ := chk_some h
  obtain ⟨μ144, e145, h⟩ := lt_some h
  refine V_iast (zdk tbX7_init_4_ok 10 rfl) c40 b143 e145 ?_
  refine V_dup_r (zdk tbX7_init_4_ok 11 rfl) ?_
  refine V_bipush (v := 35) (zdk tbX7_init_4_ok 12 rfl) rfl ?_
  refine V_bipush (v := 117) (zdk tbX7_init_4_ok 13 rfl) rfl ?_
  obtain ⟨b146, h⟩ := chk_some h
  obtain ⟨μ147, e148, h⟩ := lt_some h
  refine V_iast (zdk tbX7_init_4_ok 14 rfl) c40 b146 e148 ?_
  refine V_dup_r (zdk tbX7_init_4_ok 15 rfl) ?_
  refine V_bipush (v := 36) (zdk tbX7_init_4_ok 16 rfl) rfl ?_
  refine V_bipush (v := 110) (zdk tbX7_init_4_ok 17 rfl) rfl ?_
  obtain ⟨b149, h⟩ := chk_some h
  obtain ⟨μ150, e151, h⟩ := lt_some h
  refine V_iast (zdk tbX7_init_4_ok 18 rfl) c40 b149 e151 ?_
  refine V_dup_r (zdk tbX7_init_4_ok 19 rfl) ?_
  refine V_bipush (v := 37) (zdk tbX7_init_4_ok 20 rfl) rfl ?_
  refine V_bipush (v := 116) (zdk tbX7_init_4_ok 21 rfl) rfl ?_
  obtain ⟨b152, h⟩ := chk_some h
  obtain ⟨μ153, e154, h⟩ := lt_some h
  refine V_iast (zdk tbX7_init_4_ok 22 rfl) c40 b152 e154 ?_
  refine V_dup_r (zdk tbX7_init_4_ok 23 rfl) ?_
  refine V_bipush (v := 38) (zdk tbX7_init_4_ok 24 rfl) rfl ?_
  refine V_bipush (v := 115) (zdk tbX7_init_4_ok 25 rfl) rfl ?_
  obtain ⟨b155, h⟩ := chk_some h
  obtain ⟨μ156, e157, h⟩ := lt_some h
  refine V_iast (zdk tbX7_init_4_ok 26 rfl) c40 b155 e157 ?_
  refine V_dup_r (zdk tbX7_init_4_ok 27 rfl) ?_
  refine V_bipush (v := 39) (zdk tbX7_init_4_ok 28 rfl) rfl ?_
  refine V_bipush (v := 32) (zdk tbX7_init_4_ok 29 rfl) rfl ?_
  obtain ⟨b158, h⟩ := chk_some h
  obtain ⟨μ159, e160, h⟩ := lt_some h
  refine V_iast (zdk tbX7_init_4_ok 30 rfl) c40 b158 e160 ?_
  refine V_dup_r (zdk tbX7_init_4_ok 31 rfl) ?_
  refine V_bipush (v := 40) (zdk tbX7_init_4_ok 32 rfl) rfl ?_
  refine V_iconst (v := 0) (zdk tbX7_init_4_ok 33 rfl) rfl ?_
  obtain ⟨b161, h⟩ := chk_some h
  obtain ⟨μ162, e163, h⟩ := lt_some h
  refine V_iast (zdk tbX7_init_4_ok 34 rfl) c40 b161 e163 ?_
  refine V_dup_r (zdk tbX7_init_4_ok 35 rfl) ?_
  refine V_bipush (v := 41) (zdk tbX7_init_4_ok 36 rfl) rfl ?_
  refine V_bipush (v := 102) (zdk tbX7_init_4_ok 37 rfl) rfl ?_
  obtain ⟨b164, h⟩ := chk_some h
  obtain ⟨μ165, e166, h⟩ := lt_some h
  refine V_iast (zdk tbX7_init_4_ok 38 rfl) c40 b164 e166 ?_
  refine V_dup_r (zdk tbX7_init_4_ok 39 rfl) ?_
  refine V_bipush (v := 42) (zdk tbX7_init_4_ok 40 rfl) rfl ?_
  refine V_bipush (v := 114) (zdk tbX7_init_4_ok 41 rfl) rfl ?_
  obtain ⟨b167, h⟩ := chk_some h
  obtain ⟨μ168, e169, h⟩ := lt_some h
  refine V_iast (zdk tbX7_init_4_ok 42 rfl) c40 b167 e169 ?_
  refine V_dup_r (zdk tbX7_init_4_ok 43 rfl) ?_
  refine V_bipush (v := 43) (zdk tbX7_init_4_ok 44 rfl) rfl ?_
  refine V_bipush (v := 101) (zdk tbX7_init_4_ok 45 rfl) rfl ?_
  obtain ⟨b170, h⟩ := chk_some h
  obtain ⟨μ171, e172, h⟩ := lt_some h
  refine V_iast (zdk tbX7_init_4_ok 46 rfl) c40 b170 e172 ?_
  refine V_dup_r (zdk tbX7_init_4_ok 47 rfl) ?_
  refine V_bipush (v := 44) (zdk tbX7_init_4_ok 48 rfl) rfl ?_
  refine V_bipush (v := 101) (zdk tbX7_init_4_ok 49 rfl) rfl ?_
  obtain ⟨b173, h⟩ := chk_some h
  obtain ⟨μ174, e175, h⟩ := lt_some h
  refine V_iast (zdk tbX7_init_5_ok 0 rfl) c40 b173 e175 ?_
  refine V_dup_r (zdk tbX7_init_5_ok 1 rfl) ?_
  refine V_bipush (v := 45) (zdk tbX7_init_5_ok 2 rfl) rfl ?_
  refine V_bipush (v := 32) (zdk tbX7_init_5_ok 3 rfl) rfl ?_
  obtain ⟨b176, h⟩ := chk_some h
  obtain ⟨μ177, e178, h⟩ := lt_some h
  refine V_iast (zdk tbX7_init_5_ok 4 rfl) c40 b176 e178 ?_
  refine V_dup_r (zdk tbX7_init_5_ok 5 rfl) ?_
  refine V_bipush (v := 46) (zdk tbX7_init_5_ok 6 rfl) rfl ?_
  refine V_iconst (v := 0) (zdk tbX7_init_5_ok 7 rfl) rfl ?_
  obtain ⟨b179, h⟩ := chk_some h
  obtain ⟨μ180, e181, h⟩ := lt_some h
  refine V_iast (zdk tbX7_init_5_ok 8 rfl) c40 b179 e181 ?_
  obtain ⟨μ182, e183, h⟩ := lt_some h
  refine V_putR (zdk tbX7_init_5_ok 9 rfl) c_v0 fF7_66 rfl (Or.inr ⟨rfl, fun q hq => by cases hq; rfl⟩) rfl (fun _ => rfl) (fun _ => rfl) e183 ?_
  exact tX7_init_b412 ((((((n + 1) + 1) + 1) + 1) + 1) + 1) v0 μ182 c_v0 hn0 h
def fX7_init_b45 (n0 : Nat) (n : Nat) (v0 : Nat) (μ : ZMem) : Option (Nat × ZMem) := chk (nwa n 100 7) (chk (zrm (n + 1) n0 22 1740) (lt (zmk μ n) (fun μ3 => lt (zpR μ3 v0 10 n) (fun μ6 => chk (nwa (n + 1) 100 7) (chk (zrm ((n + 1) + 1) n0 22 1740) (lt (zmk μ6 (n + 1)) (fun μ10 => lt (zpR μ10 v0 11 (n + 1)) (fun μ13 => chk (nwa ((n + 1) + 1) 100 7) (chk (zrm (((n + 1) + 1) + 1) n0 22 1740) (lt (zmk μ13 ((n + 1) + 1)) (fun μ17 => lt (zpR μ17 v0 12 ((n + 1) + 1)) (fun μ20 => chk (nwa (((n + 1) + 1) + 1) 100 7) (chk (zrm ((((n + 1) + 1) + 1) + 1) n0 22 1740) (lt (zmk μ20 (((n + 1) + 1) + 1)) (fun μ24 => lt (zpR μ24 v0 13 (((n + 1) + 1) + 1)) (fun μ27 => chk (nwa ((((n + 1) + 1) + 1) + 1) 100 7) (chk (zrm (((((n + 1) + 1) + 1) + 1) + 1) n0 22 1740) (lt (zmk μ27 ((((n + 1) + 1) + 1) + 1)) (fun μ31 => lt (zpR μ31 v0 14 ((((n + 1) + 1) + 1) + 1)) (fun μ34 => chk (nwa (((((n + 1) + 1) + 1) + 1) + 1) 100 8) (chk (zrm ((((((n + 1) + 1) + 1) + 1) + 1) + 1) n0 22 1740) (lt (zmk μ34 (((((n + 1) + 1) + 1) + 1) + 1)) (fun μ38 => lt (zpR μ38 v0 15 (((((n + 1) + 1) + 1) + 1) + 1)) (fun μ41 => (fX7_init_b93 n0 ((((((n + 1) + 1) + 1) + 1) + 1) + 1) v0 μ41)))))))))))))))))))))))))
theorem tX7_init_b45 {l : Launch} {n0 : Nat} {z : Nat × ZMem} (n : Nat) (v0 : Nat) (μ : ZMem) (c_v0 : isC n 7 v0 = true) (hn0 : n0 ≤ n) (h : fX7_init_b45 n0 n v0 μ = some z) : V (zkC l mX7_init (rmc 1 22 1740) n0 z) true 45 [(0, .ref v0)] [] n μ := by
  unfold fX7_init_b45 at h
  refine V_aload_n 0 (zdk tbX7_init_0_ok 24 rfl) rfl ?_
  refine V_bipush (v := 7) (zdk tbX7_init_0_ok 25 rfl) rfl ?_
  obtain ⟨w1, h⟩ := chk_some h
  obtain ⟨w2, h⟩ := chk_some h
  obtain ⟨μ3, e4, h⟩ := lt_some h
  refine V_newi (zdk tbX7_init_0_ok 26 rfl) rfl (by decide) w1 wA100 (zrm_room w2 rfl rfl rfl) e4 ?_
  replace c_v0 := isC_mono c_v0 (Nat.le_succ n)
  replace hn0 := Nat.le_succ_of_le hn0
  have c5 := isC_newa w1
  obtain ⟨μ6, e7, h⟩ := lt_some h
  refine V_putR (zdk tbX7_init_0_ok 27 rfl) c_v0 fF7_32 rfl (Or.inr ⟨rfl, fun q hq => by cases hq; rfl⟩) rfl (fun _ => rfl) (fun _ => rfl) e7 ?_
  refine V_aload_n 0 (zdk tbX7_init_0_ok 28 rfl) rfl ?_
  refine V_bipush (v := 7) (zdk tbX7_init_0_ok 29 rfl) rfl ?_
  obtain ⟨w8, h⟩ := chk_some h
  obtain ⟨w9, h⟩ := chk_some h
  obtain ⟨μ10, e11, h⟩ := lt_some h
  refine V_newi (zdk tbX7_init_0_ok 30 rfl) rfl (by decide) w8 wA100 (zrm_room w9 rfl rfl rfl) e11 ?_
  replace c_v0 := isC_mono c_v0 (Nat.le_succ (n + 1))
  replace c5 := isC_mono c5 (Nat.le_succ (n + 1))
  replace hn0 := Nat.le_succ_of_le hn0
  have c12 := isC_newa w8
  obtain ⟨μ13, e14, h⟩ := lt_some h
  refine V_putR (zdk tbX7_init_0_ok 31 rfl) c_v0 fF7_35 rfl (Or.inr ⟨rfl, fun q hq => by cases hq; rfl⟩) rfl (fun _ => rfl) (fun _ => rfl) e14 ?_
  refine V_aload_n 0 (zdk tbX7_init_0_ok 32 rfl) rfl ?_
  refine V_bipush (v := 7) (zdk tbX7_init_0_ok 33 rfl) rfl ?_
  obtain ⟨w15, h⟩ := chk_some h
  obtain ⟨w16, h⟩ := chk_some h
  obtain ⟨μ17, e18, h⟩ := lt_some h
  refine V_newi (zdk tbX7_init_0_ok 34 rfl) rfl (by decide) w15 wA100 (zrm_room w16 rfl rfl rfl) e18 ?_
  replace c_v0 := isC_mono c_v0 (Nat.le_succ ((n + 1) + 1))
  replace c5 := isC_mono c5 (Nat.le_succ ((n + 1) + 1))
  replace c12 := isC_mono c12 (Nat.le_succ ((n + 1) + 1))
  replace hn0 := Nat.le_succ_of_le hn0
  have c19 := isC_newa w15
  obtain ⟨μ20, e21, h⟩ := lt_some h
  refine V_putR (zdk tbX7_init_0_ok 35 rfl) c_v0 fF7_38 rfl (Or.inr ⟨rfl, fun q hq => by cases hq; rfl⟩) rfl (fun _ => rfl) (fun _ => rfl) e21 ?_
  refine V_aload_n 0 (zdk tbX7_init_0_ok 36 rfl) rfl ?_
  refine V_bipush (v := 7) (zdk tbX7_init_0_ok 37 rfl) rfl ?_
  obtain ⟨w22, h⟩ := chk_some h
  obtain ⟨w23, h⟩ := chk_some h
  obtain ⟨μ24, e25, h⟩ := lt_some h
  refine V_newi (zdk tbX7_init_0_ok 38 rfl) rfl (by decide) w22 wA100 (zrm_room w23 rfl rfl rfl) e25 ?_
  replace c_v0 := isC_mono c_v0 (Nat.le_succ (((n + 1) + 1) + 1))
  replace c5 := isC_mono c5 (Nat.le_succ (((n + 1) + 1) + 1))
  replace c12 := isC_mono c12 (Nat.le_succ (((n + 1) + 1) + 1))
  replace c19 := isC_mono c19 (Nat.le_succ (((n + 1) + 1) + 1))
  replace hn0 := Nat.le_succ_of_le hn0
  have c26 := isC_newa w22
  obtain ⟨μ27, e28, h⟩ := lt_some h
  refine V_putR (zdk tbX7_init_0_ok 39 rfl) c_v0 fF7_41 rfl (Or.inr ⟨rfl, fun q hq => by cases hq; rfl⟩) rfl (fun _ => rfl) (fun _ => rfl) e28 ?_
  refine V_aload_n 0 (zdk tbX7_init_0_ok 40 rfl) rfl ?_
  refine V_bipush (v := 7) (zdk tbX7_init_0_ok 41 rfl) rfl ?_
  obtain ⟨w29, h⟩ := chk_some h
  obtain ⟨w30, h⟩ := chk_some h
  obtain ⟨μ31, e32, h⟩ := lt_some h
  refine V_newi (zdk tbX7_init_0_ok 42 rfl) rfl (by decide) w29 wA100 (zrm_room w30 rfl rfl rfl) e32 ?_
  replace c_v0 := isC_mono c_v0 (Nat.le_succ ((((n + 1) + 1) + 1) + 1))
  replace c5 := isC_mono c5 (Nat.le_succ ((((n + 1) + 1) + 1) + 1))
  replace c12 := isC_mono c12 (Nat.le_succ ((((n + 1) + 1) + 1) + 1))
  replace c19 := isC_mono c19 (Nat.le_succ ((((n + 1) + 1) + 1) + 1))
  replace c26 := isC_mono c26 (Nat.le_succ ((((n + 1) + 1) + 1) + 1))
  replace hn0 := Nat.le_succ_of_le hn0
  have c33 := isC_newa w29
  obtain ⟨μ34, e35, h⟩ := lt_some h
  refine V_putR (zdk tbX7_init_0_ok 43 rfl) c_v0 fF7_44 rfl (Or.inr ⟨rfl, fun q hq => by cases hq; rfl⟩) rfl (fun _ => rfl) (fun _ => rfl) e35 ?_
  refine V_aload_n 0 (zdk tbX7_init_0_ok 44 rfl) rfl ?_
  refine V_bipush (v := 8) (zdk tbX7_init_0_ok 45 rfl) rfl ?_
  obtain ⟨w36, h⟩ := chk_some h
  obtain ⟨w37, h⟩ := chk_some h
  obtain ⟨μ38, e39, h⟩ := lt_some h
  refine V_newi (zdk tbX7_init_0_ok 46 rfl) rfl (by decide) w36 wA100 (zrm_room w37 rfl rfl rfl) e39 ?_
  replace c_v0 := isC_mono c_v0 (Nat.le_succ (((((n + 1) + 1) + 1) + 1) + 1))
  replace c5 := isC_mono c5 (Nat.le_succ (((((n + 1) + 1) + 1) + 1) + 1))
  replace c12 := isC_mono c12 (Nat.le_succ (((((n + 1) + 1) + 1) + 1) + 1))
  replace c19 := isC_mono c19 (Nat.le_succ (((((n + 1) + 1) + 1) + 1) + 1))
  replace c26 := isC_mono c26 (Nat.le_succ (((((n + 1) + 1) + 1) + 1) + 1))
  replace c33 := isC_mono c33 (Nat.le_succ (((((n + 1) + 1) + 1) + 1) + 1))
  replace hn0 := Nat.le_succ_of_le hn0
  have c40 := isC_newa w36
  obtain ⟨μ41, e42, h⟩ := lt_some h
  refine V_putR (zdk tbX7_init_0_ok 47 rfl) c_v0 fF7_47 rfl (Or.inr ⟨rfl, fun q hq => by cases hq; rfl⟩) rfl (fun _ => rfl) (fun _ => rfl) e42 ?_
  exact tX7_init_b93 ((((((n + 1) + 1) + 1) + 1) + 1) + 1) v0 μ41 c_v0 hn0 h
def fX7_init (n0 : Nat) (v0 : Nat) (μ : ZMem) : Option (Nat × ZMem) := chk (isC n0 7 v0) (lt (zpI μ v0 1 (20 : Int32)) (fun μ1 => lt (zpI μ1 v0 2 (100 : Int32)) (fun μ3 => lt (zpI μ3 v0 4 (-1 : Int32)) (fun μ5 => lt (zpI μ5 v0 6 (31 : Int32)) (fun μ7 => lt (zpI μ7 v0 7 (1 : Int32)) (fun μ9 => lt (zpI μ9 v0 8 (-1 : Int32)) (fun μ11 => chk (nwa n0 100 8) (chk (zrm (n0 + 1) n0 22 1740) (lt (zmk μ11 n0) (fun μ15 => lt (zpR μ15 v0 9 n0) (fun μ18 => (fX7_init_b45 n0 (n0 + 1) v0 μ18))))))))))))
theorem tX7_init {l : Launch} {n0 : Nat} {v0 : Nat} {μ : ZMem} {z : Nat × ZMem} (h : fX7_init n0 v0 μ = some z) : ZFn l mX7_init (rmc 1 22 1740) [.ref v0] true n0 μ (true, z.1, z.2, none) := by
  unfold fX7_init at h
  have hn0 : n0 ≤ n0 := Nat.le_refl n0
  obtain ⟨c_v0, h⟩ := chk_some h
  refine ZFn.of (ls := [(0, .ref v0)]) (by decide) (fun ξ => Nat.le_of_ble_eq_true rfl) (fun ξ => rfl) ?_
  refine V_aload_n 0 (zdk tbX7_init_0_ok 0 rfl) rfl ?_
  refine V_obj (zdk tbX7_init_0_ok 1 rfl) wO7_1 wOi wOc ⟨Nat.le_of_ble_eq_true rfl, Nat.le_of_ble_eq_true rfl⟩ (Nat.le_of_ble_eq_true rfl) ?_
  refine V_aload_n 0 (zdk tbX7_init_0_ok 2 rfl) rfl ?_
  refine V_bipush (v := 20) (zdk tbX7_init_0_ok 3 rfl) rfl ?_
  obtain ⟨μ1, e2, h⟩ := lt_some h
  refine V_putI (zdk tbX7_init_0_ok 4 rfl) c_v0 fF7_7 rfl rfl rfl e2 ?_
  refine V_aload_n 0 (zdk tbX7_init_0_ok 5 rfl) rfl ?_
  refine V_bipush (v := 100) (zdk tbX7_init_0_ok 6 rfl) rfl ?_
  obtain ⟨μ3, e4, h⟩ := lt_some h
  refine V_putI (zdk tbX7_init_0_ok 7 rfl) c_v0 fF7_13 rfl rfl rfl e4 ?_
  refine V_aload_n 0 (zdk tbX7_init_0_ok 8 rfl) rfl ?_
  refine V_iconst (v := (-1)) (zdk tbX7_init_0_ok 9 rfl) rfl ?_
  obtain ⟨μ5, e6, h⟩ := lt_some h
  refine V_putI (zdk tbX7_init_0_ok 10 rfl) c_v0 fF7_16 rfl rfl rfl e6 ?_
  refine V_aload_n 0 (zdk tbX7_init_0_ok 11 rfl) rfl ?_
  refine V_bipush (v := 31) (zdk tbX7_init_0_ok 12 rfl) rfl ?_
  obtain ⟨μ7, e8, h⟩ := lt_some h
  refine V_putI (zdk tbX7_init_0_ok 13 rfl) c_v0 fF7_19 rfl rfl rfl e8 ?_
  refine V_aload_n 0 (zdk tbX7_init_0_ok 14 rfl) rfl ?_
  refine V_iconst (v := 1) (zdk tbX7_init_0_ok 15 rfl) rfl ?_
  obtain ⟨μ9, e10, h⟩ := lt_some h
  refine V_putI (zdk tbX7_init_0_ok 16 rfl) c_v0 fF7_22 rfl rfl rfl e10 ?_
  refine V_aload_n 0 (zdk tbX7_init_0_ok 17 rfl) rfl ?_
  refine V_iconst (v := (-1)) (zdk tbX7_init_0_ok 18 rfl) rfl ?_
  obtain ⟨μ11, e12, h⟩ := lt_some h
  refine V_putI (zdk tbX7_init_0_ok 19 rfl) c_v0 fF7_25 rfl rfl rfl e12 ?_
  refine V_aload_n 0 (zdk tbX7_init_0_ok 20 rfl) rfl ?_
  refine V_bipush (v := 8) (zdk tbX7_init_0_ok 21 rfl) rfl ?_
  obtain ⟨w13, h⟩ := chk_some h
  obtain ⟨w14, h⟩ := chk_some h
  obtain ⟨μ15, e16, h⟩ := lt_some h
  refine V_newi (zdk tbX7_init_0_ok 22 rfl) rfl (by decide) w13 wA100 (zrm_room w14 rfl rfl rfl) e16 ?_
  replace c_v0 := isC_mono c_v0 (Nat.le_succ n0)
  replace hn0 := Nat.le_succ_of_le hn0
  have c17 := isC_newa w13
  obtain ⟨μ18, e19, h⟩ := lt_some h
  refine V_putR (zdk tbX7_init_0_ok 23 rfl) c_v0 fF7_28 rfl (Or.inr ⟨rfl, fun q hq => by cases hq; rfl⟩) rfl (fun _ => rfl) (fun _ => rfl) e19 ?_
  exact tX7_init_b45 (n0 + 1) v0 μ18 c_v0 hn0 h

-- WhoComplainsCarriesModel.no
def tbX7_no_0 : List (Nat × Instr × Nat) := [(0, .aload_n 0, 1), (1, .getfield 28, 3), (4, .iload_n 1, 1), (5, .ineg, 1), (6, .dup2, 1), (7, .iaload, 1), (8, .iconst 1, 1), (9, .iadd, 1), (10, .iastore, 1), (11, .iload_n 1, 1), (12, .ireturn, 1)]
theorem tbX7_no_0_ok : ∀ q ∈ tbX7_no_0, decode cX7_no q.1 = .ok (q.2.1, q.2.2) := by decide +kernel
def fX7_no (n : Nat) (v0 : Nat) (v1 : Int32) (μ : ZMem) : Option (ZMem × Int32) := chk (isC n 7 v0) (bd1 (zRc n 100 μ v0 9) (fun r1 => chk (inb (-v1) r1) (chk (inb (-v1) r1) (lt (zpI μ r1 (-v1).toNatClampNeg ((zI μ r1 (-v1).toNatClampNeg) + (1 : Int32))) (fun μ5 => some (μ5, v1))))))
theorem tX7_no {l : Launch} {fr : Bool} {n : Nat} {v0 : Nat} {v1 : Int32} {μ : ZMem} {z : ZMem × Int32} (h : fX7_no n v0 v1 μ = some z) : ZFn l mX7_no (rmd 1) [.ref v0, .int v1] fr n μ (fr, n, z.1, some (.int z.2)) := by
  unfold fX7_no at h
  obtain ⟨c_v0, h⟩ := chk_some h
  refine ZFn.of (ls := [(0, .ref v0), (1, .int v1)]) (by decide) (fun ξ => Nat.le_of_ble_eq_true rfl) (fun ξ => rfl) ?_
  refine V_aload_n 0 (zdk tbX7_no_0_ok 0 rfl) rfl ?_
  obtain ⟨r1, q2, h⟩ := bd1_some h
  obtain ⟨q2, c_r1⟩ := zRc_some q2
  refine V_getR (zdk tbX7_no_0_ok 1 rfl) c_v0 fF7_28 rfl q2 ?_
  refine V_iload_n 1 (zdk tbX7_no_0_ok 2 rfl) rfl ?_
  refine V_ineg (zdk tbX7_no_0_ok 3 rfl) ?_
  refine V_dup2 (zdk tbX7_no_0_ok 4 rfl) ?_
  obtain ⟨b3, h⟩ := chk_some h
  refine V_iald (zdk tbX7_no_0_ok 5 rfl) c_r1 b3 ?_
  refine V_iconst (v := 1) (zdk tbX7_no_0_ok 6 rfl) rfl ?_
  refine V_iadd (zdk tbX7_no_0_ok 7 rfl) ?_
  obtain ⟨b4, h⟩ := chk_some h
  obtain ⟨μ5, e6, h⟩ := lt_some h
  refine V_iast (zdk tbX7_no_0_ok 8 rfl) c_r1 b4 e6 ?_
  refine V_iload_n 1 (zdk tbX7_no_0_ok 9 rfl) rfl ?_
  cases h
  exact V_iret (zdk tbX7_no_0_ok 10 rfl) rfl rfl

-- WhoComplainsCarriesModel.noTen
def tbX7_noTen_0 : List (Nat × Instr × Nat) := [(0, .aload_n 0, 1), (1, .getfield 28, 3), (4, .iload_n 1, 1), (5, .ineg, 1), (6, .dup2, 1), (7, .iaload, 1), (8, .iconst 1, 1), (9, .iadd, 1), (10, .iastore, 1), (11, .iload_n 1, 1), (12, .bipush 10, 2), (14, .isub, 1), (15, .ireturn, 1)]
theorem tbX7_noTen_0_ok : ∀ q ∈ tbX7_noTen_0, decode cX7_noTen q.1 = .ok (q.2.1, q.2.2) := by decide +kernel
def fX7_noTen (n : Nat) (v0 : Nat) (v1 : Int32) (μ : ZMem) : Option (ZMem × Int32) := chk (isC n 7 v0) (bd1 (zRc n 100 μ v0 9) (fun r1 => chk (inb (-v1) r1) (chk (inb (-v1) r1) (lt (zpI μ r1 (-v1).toNatClampNeg ((zI μ r1 (-v1).toNatClampNeg) + (1 : Int32))) (fun μ5 => some (μ5, (v1 - (10 : Int32))))))))
theorem tX7_noTen {l : Launch} {fr : Bool} {n : Nat} {v0 : Nat} {v1 : Int32} {μ : ZMem} {z : ZMem × Int32} (h : fX7_noTen n v0 v1 μ = some z) : ZFn l mX7_noTen (rmd 1) [.ref v0, .int v1] fr n μ (fr, n, z.1, some (.int z.2)) := by
  unfold fX7_noTen at h
  obtain ⟨c_v0, h⟩ := chk_some h
  refine ZFn.of (ls := [(0, .ref v0), (1, .int v1)]) (by decide) (fun ξ => Nat.le_of_ble_eq_true rfl) (fun ξ => rfl) ?_
  refine V_aload_n 0 (zdk tbX7_noTen_0_ok 0 rfl) rfl ?_
  obtain ⟨r1, q2, h⟩ := bd1_some h
  obtain ⟨q2, c_r1⟩ := zRc_some q2
  refine V_getR (zdk tbX7_noTen_0_ok 1 rfl) c_v0 fF7_28 rfl q2 ?_
  refine V_iload_n 1 (zdk tbX7_noTen_0_ok 2 rfl) rfl ?_
  refine V_ineg (zdk tbX7_noTen_0_ok 3 rfl) ?_
  refine V_dup2 (zdk tbX7_noTen_0_ok 4 rfl) ?_
  obtain ⟨b3, h⟩ := chk_some h
  refine V_iald (zdk tbX7_noTen_0_ok 5 rfl) c_r1 b3 ?_
  refine V_iconst (v := 1) (zdk tbX7_noTen_0_ok 6 rfl) rfl ?_
  refine V_iadd (zdk tbX7_noTen_0_ok 7 rfl) ?_
  obtain ⟨b4, h⟩ := chk_some h
  obtain ⟨μ5, e6, h⟩ := lt_some h
  refine V_iast (zdk tbX7_noTen_0_ok 8 rfl) c_r1 b4 e6 ?_
  refine V_iload_n 1 (zdk tbX7_noTen_0_ok 9 rfl) rfl ?_
  refine V_bipush (v := 10) (zdk tbX7_noTen_0_ok 10 rfl) rfl ?_
  refine V_isub (zdk tbX7_noTen_0_ok 11 rfl) ?_
  cases h
  exact V_iret (zdk tbX7_noTen_0_ok 12 rfl) rfl rfl

-- WhoComplainsCarriesModel.isShelf
def tbX7_isShelf_0 : List (Nat × Instr × Nat) := [(0, .iload_n 1, 1), (1, .ifCond .lt 13, 3), (4, .iload_n 1, 1), (5, .bipush 8, 2), (7, .if_icmp .ge 7, 3), (10, .iconst 1, 1), (11, .goto 4, 3), (14, .iconst 0, 1), (15, .ireturn, 1)]
theorem tbX7_isShelf_0_ok : ∀ q ∈ tbX7_isShelf_0, decode cX7_isShelf q.1 = .ok (q.2.1, q.2.2) := by decide +kernel
def fX7_isShelf_b15 (n : Nat) (s0 : Int32) (μ : ZMem) : Option (ZMem × Int32) := chk (b01 s0) (some (μ, s0))
theorem tX7_isShelf_b15 {l : Launch} {fr : Bool} {n : Nat} {z : ZMem × Int32} (s0 : Int32) (μ : ZMem) (h : fX7_isShelf_b15 n s0 μ = some z) : V (zkI l mX7_isShelf (rmd 1) fr n z) fr 15 [] [.int s0] n μ := by
  unfold fX7_isShelf_b15 at h
  obtain ⟨b1, h⟩ := chk_some h
  cases h
  exact V_zret (zdk tbX7_isShelf_0_ok 8 rfl) rfl (b01_n b1) rfl
def fX7_isShelf_b14 (n : Nat) (μ : ZMem) : Option (ZMem × Int32) := (fX7_isShelf_b15 n (0 : Int32) μ)
theorem tX7_isShelf_b14 {l : Launch} {fr : Bool} {n : Nat} {z : ZMem × Int32} (μ : ZMem) (h : fX7_isShelf_b14 n μ = some z) : V (zkI l mX7_isShelf (rmd 1) fr n z) fr 14 [] [] n μ := by
  unfold fX7_isShelf_b14 at h
  refine V_iconst (v := 0) (zdk tbX7_isShelf_0_ok 7 rfl) rfl ?_
  exact tX7_isShelf_b15 (0 : Int32) μ  h
def fX7_isShelf (n : Nat) (v0 : Nat) (v1 : Int32) (μ : ZMem) : Option (ZMem × Int32) := chk (isC n 7 v0) ((if v1 < 0 then (fX7_isShelf_b14 n  μ) else (if (8 : Int32) ≤ v1 then (fX7_isShelf_b14 n  μ) else (fX7_isShelf_b15 n (1 : Int32) μ))))
theorem tX7_isShelf {l : Launch} {fr : Bool} {n : Nat} {v0 : Nat} {v1 : Int32} {μ : ZMem} {z : ZMem × Int32} (h : fX7_isShelf n v0 v1 μ = some z) : ZFn l mX7_isShelf (rmd 1) [.ref v0, .int v1] fr n μ (fr, n, z.1, some (.int z.2)) := by
  unfold fX7_isShelf at h
  obtain ⟨c_v0, h⟩ := chk_some h
  refine ZFn.of (ls := [(0, .ref v0), (1, .int v1)]) (by decide) (fun ξ => Nat.le_of_ble_eq_true rfl) (fun ξ => rfl) ?_
  refine V_iload_n 1 (zdk tbX7_isShelf_0_ok 0 rfl) rfl ?_
  refine V_if_lt (tgt := 14) (zdk tbX7_isShelf_0_ok 1 rfl) (by decide) (fun c1 => ?_) (fun c1 => ?_)
  · replace h := ite_t h c1
    refine V_sub (ls' := []) [] rfl ?_
    exact tX7_isShelf_b14  μ  h
  · replace h := ite_f h c1
    refine V_iload_n 1 (zdk tbX7_isShelf_0_ok 2 rfl) rfl ?_
    refine V_bipush (v := 8) (zdk tbX7_isShelf_0_ok 3 rfl) rfl ?_
    refine V_icmp_ge (tgt := 14) (zdk tbX7_isShelf_0_ok 4 rfl) (by decide) (fun c2 => ?_) (fun c2 => ?_)
    · replace h := ite_t h c2
      refine V_sub (ls' := []) [] rfl ?_
      exact tX7_isShelf_b14  μ  h
    · replace h := ite_f h c2
      refine V_iconst (v := 1) (zdk tbX7_isShelf_0_ok 5 rfl) rfl ?_
      refine V_goto (tgt := 15) (zdk tbX7_isShelf_0_ok 6 rfl) (by decide) ?_
      refine V_sub (ls' := []) [] rfl ?_
      exact tX7_isShelf_b15 (1 : Int32) μ  h

-- WhoComplainsCarriesModel.isOne
def tbX7_isOne_0 : List (Nat × Instr × Nat) := [(0, .iload_n 1, 1), (1, .ifCond .lt 15, 3), (4, .iload_n 1, 1), (5, .aload_n 0, 1), (6, .getfield 99, 3), (9, .if_icmp .ge 7, 3), (12, .iconst 1, 1), (13, .goto 4, 3), (16, .iconst 0, 1), (17, .ireturn, 1)]
theorem tbX7_isOne_0_ok : ∀ q ∈ tbX7_isOne_0, decode cX7_isOne q.1 = .ok (q.2.1, q.2.2) := by decide +kernel
theorem fF7_99 : zF RX7 99 7 0 := ⟨_, rfl, by decide, zin (i := 817) (by decide +kernel) rfl⟩
def fX7_isOne_b17 (n : Nat) (s0 : Int32) (μ : ZMem) : Option (ZMem × Int32) := chk (b01 s0) (some (μ, s0))
theorem tX7_isOne_b17 {l : Launch} {fr : Bool} {n : Nat} {z : ZMem × Int32} (s0 : Int32) (μ : ZMem) (h : fX7_isOne_b17 n s0 μ = some z) : V (zkI l mX7_isOne (rmd 1) fr n z) fr 17 [] [.int s0] n μ := by
  unfold fX7_isOne_b17 at h
  obtain ⟨b1, h⟩ := chk_some h
  cases h
  exact V_zret (zdk tbX7_isOne_0_ok 9 rfl) rfl (b01_n b1) rfl
def fX7_isOne_b16 (n : Nat) (μ : ZMem) : Option (ZMem × Int32) := (fX7_isOne_b17 n (0 : Int32) μ)
theorem tX7_isOne_b16 {l : Launch} {fr : Bool} {n : Nat} {z : ZMem × Int32} (μ : ZMem) (h : fX7_isOne_b16 n μ = some z) : V (zkI l mX7_isOne (rmd 1) fr n z) fr 16 [] [] n μ := by
  unfold fX7_isOne_b16 at h
  refine V_iconst (v := 0) (zdk tbX7_isOne_0_ok 8 rfl) rfl ?_
  exact tX7_isOne_b17 (0 : Int32) μ  h
def fX7_isOne (n : Nat) (v0 : Nat) (v1 : Int32) (μ : ZMem) : Option (ZMem × Int32) := chk (isC n 7 v0) ((if v1 < 0 then (fX7_isOne_b16 n  μ) else (if (zI μ v0 0) ≤ v1 then (fX7_isOne_b16 n  μ) else (fX7_isOne_b17 n (1 : Int32) μ))))
theorem tX7_isOne {l : Launch} {fr : Bool} {n : Nat} {v0 : Nat} {v1 : Int32} {μ : ZMem} {z : ZMem × Int32} (h : fX7_isOne n v0 v1 μ = some z) : ZFn l mX7_isOne (rmd 1) [.ref v0, .int v1] fr n μ (fr, n, z.1, some (.int z.2)) := by
  unfold fX7_isOne at h
  obtain ⟨c_v0, h⟩ := chk_some h
  refine ZFn.of (ls := [(0, .ref v0), (1, .int v1)]) (by decide) (fun ξ => Nat.le_of_ble_eq_true rfl) (fun ξ => rfl) ?_
  refine V_iload_n 1 (zdk tbX7_isOne_0_ok 0 rfl) rfl ?_
  refine V_if_lt (tgt := 16) (zdk tbX7_isOne_0_ok 1 rfl) (by decide) (fun c1 => ?_) (fun c1 => ?_)
  · replace h := ite_t h c1
    refine V_sub (ls' := []) [] rfl ?_
    exact tX7_isOne_b16  μ  h
  · replace h := ite_f h c1
    refine V_iload_n 1 (zdk tbX7_isOne_0_ok 2 rfl) rfl ?_
    refine V_aload_n 0 (zdk tbX7_isOne_0_ok 3 rfl) rfl ?_
    refine V_getI (zdk tbX7_isOne_0_ok 4 rfl) c_v0 fF7_99 rfl ?_
    refine V_icmp_ge (tgt := 16) (zdk tbX7_isOne_0_ok 5 rfl) (by decide) (fun c2 => ?_) (fun c2 => ?_)
    · replace h := ite_t h c2
      refine V_sub (ls' := []) [] rfl ?_
      exact tX7_isOne_b16  μ  h
    · replace h := ite_f h c2
      refine V_iconst (v := 1) (zdk tbX7_isOne_0_ok 6 rfl) rfl ?_
      refine V_goto (tgt := 17) (zdk tbX7_isOne_0_ok 7 rfl) (by decide) ?_
      refine V_sub (ls' := []) [] rfl ?_
      exact tX7_isOne_b17 (1 : Int32) μ  h

-- WhoComplainsCarriesModel.isFrom
def tbX7_isFrom_0 : List (Nat × Instr × Nat) := [(0, .iload_n 1, 1), (1, .iload_n 2, 1), (2, .if_icmp .lt 12, 3), (5, .iload_n 1, 1), (6, .iload_n 3, 1), (7, .if_icmp .gt 7, 3), (10, .iconst 1, 1), (11, .goto 4, 3), (14, .iconst 0, 1), (15, .ireturn, 1)]
theorem tbX7_isFrom_0_ok : ∀ q ∈ tbX7_isFrom_0, decode cX7_isFrom q.1 = .ok (q.2.1, q.2.2) := by decide +kernel
def fX7_isFrom_b15 (n : Nat) (s0 : Int32) (μ : ZMem) : Option (ZMem × Int32) := chk (b01 s0) (some (μ, s0))
theorem tX7_isFrom_b15 {l : Launch} {fr : Bool} {n : Nat} {z : ZMem × Int32} (s0 : Int32) (μ : ZMem) (h : fX7_isFrom_b15 n s0 μ = some z) : V (zkI l mX7_isFrom (rmd 1) fr n z) fr 15 [] [.int s0] n μ := by
  unfold fX7_isFrom_b15 at h
  obtain ⟨b1, h⟩ := chk_some h
  cases h
  exact V_zret (zdk tbX7_isFrom_0_ok 9 rfl) rfl (b01_n b1) rfl
def fX7_isFrom_b14 (n : Nat) (μ : ZMem) : Option (ZMem × Int32) := (fX7_isFrom_b15 n (0 : Int32) μ)
theorem tX7_isFrom_b14 {l : Launch} {fr : Bool} {n : Nat} {z : ZMem × Int32} (μ : ZMem) (h : fX7_isFrom_b14 n μ = some z) : V (zkI l mX7_isFrom (rmd 1) fr n z) fr 14 [] [] n μ := by
  unfold fX7_isFrom_b14 at h
  refine V_iconst (v := 0) (zdk tbX7_isFrom_0_ok 8 rfl) rfl ?_
  exact tX7_isFrom_b15 (0 : Int32) μ  h
def fX7_isFrom (n : Nat) (v0 : Nat) (v1 : Int32) (v2 : Int32) (v3 : Int32) (μ : ZMem) : Option (ZMem × Int32) := chk (isC n 7 v0) ((if v1 < v2 then (fX7_isFrom_b14 n  μ) else (if v3 < v1 then (fX7_isFrom_b14 n  μ) else (fX7_isFrom_b15 n (1 : Int32) μ))))
theorem tX7_isFrom {l : Launch} {fr : Bool} {n : Nat} {v0 : Nat} {v1 : Int32} {v2 : Int32} {v3 : Int32} {μ : ZMem} {z : ZMem × Int32} (h : fX7_isFrom n v0 v1 v2 v3 μ = some z) : ZFn l mX7_isFrom (rmd 1) [.ref v0, .int v1, .int v2, .int v3] fr n μ (fr, n, z.1, some (.int z.2)) := by
  unfold fX7_isFrom at h
  obtain ⟨c_v0, h⟩ := chk_some h
  refine ZFn.of (ls := [(0, .ref v0), (1, .int v1), (2, .int v2), (3, .int v3)]) (by decide) (fun ξ => Nat.le_of_ble_eq_true rfl) (fun ξ => rfl) ?_
  refine V_iload_n 1 (zdk tbX7_isFrom_0_ok 0 rfl) rfl ?_
  refine V_iload_n 2 (zdk tbX7_isFrom_0_ok 1 rfl) rfl ?_
  refine V_icmp_lt (tgt := 14) (zdk tbX7_isFrom_0_ok 2 rfl) (by decide) (fun c1 => ?_) (fun c1 => ?_)
  · replace h := ite_t h c1
    refine V_sub (ls' := []) [] rfl ?_
    exact tX7_isFrom_b14  μ  h
  · replace h := ite_f h c1
    refine V_iload_n 1 (zdk tbX7_isFrom_0_ok 3 rfl) rfl ?_
    refine V_iload_n 3 (zdk tbX7_isFrom_0_ok 4 rfl) rfl ?_
    refine V_icmp_gt (tgt := 14) (zdk tbX7_isFrom_0_ok 5 rfl) (by decide) (fun c2 => ?_) (fun c2 => ?_)
    · replace h := ite_t h c2
      refine V_sub (ls' := []) [] rfl ?_
      exact tX7_isFrom_b14  μ  h
    · replace h := ite_f h c2
      refine V_iconst (v := 1) (zdk tbX7_isFrom_0_ok 6 rfl) rfl ?_
      refine V_goto (tgt := 15) (zdk tbX7_isFrom_0_ok 7 rfl) (by decide) ?_
      refine V_sub (ls' := []) [] rfl ?_
      exact tX7_isFrom_b15 (1 : Int32) μ  h

-- WhoComplainsCarriesModel.row
def tbX7_row_0 : List (Nat × Instr × Nat) := [(0, .aload_n 0, 1), (1, .iload_n 1, 1), (2, .invokevirtual 102, 3), (5, .ifCond .ne 9, 3), (8, .aload_n 0, 1), (9, .iconst (-1), 1), (10, .invokevirtual 106, 3), (13, .ireturn, 1), (14, .iload_n 3, 1), (15, .ifCond .ge 10, 3), (18, .aload_n 0, 1), (19, .bipush (-4), 2), (21, .invokevirtual 106, 3), (24, .ireturn, 1), (25, .iload_n 2, 1), (26, .ifCond .lt 8, 3), (29, .iload_n 2, 1), (30, .iconst 3, 1), (31, .if_icmp .le 10, 3), (34, .aload_n 0, 1), (35, .bipush (-6), 2), (37, .invokevirtual 106, 3), (40, .ireturn, 1), (41, .iload_n 3, 1), (42, .sipush 160, 3), (45, .if_icmp .le 10, 3), (48, .aload_n 0, 1), (49, .bipush (-7), 2), (51, .invokevirtual 106, 3), (54, .ireturn, 1), (55, .aload_n 0, 1), (56, .getfield 47, 3), (59, .iload_n 1, 1), (60, .iconst 1, 1), (61, .iastore, 1), (62, .aload_n 0, 1), (63, .getfield 50, 3), (66, .iload_n 1, 1), (67, .iload_n 2, 1), (68, .iastore, 1), (69, .aload_n 0, 1), (70, .getfield 53, 3), (73, .iload_n 1, 1), (74, .iload_n 3, 1), (75, .iastore, 1), (76, .iconst 0, 1), (77, .istore 4, 2), (79, .iload 4, 2), (81, .sipush 160, 3), (84, .if_icmp .ge 23, 3)]
theorem tbX7_row_0_ok : ∀ q ∈ tbX7_row_0, decode cX7_row q.1 = .ok (q.2.1, q.2.2) := by decide +kernel
def tbX7_row_1 : List (Nat × Instr × Nat) := [(87, .aload_n 0, 1), (88, .getfield 59, 3), (91, .sipush 160, 3), (94, .iload_n 1, 1), (95, .imul, 1), (96, .iload 4, 2), (98, .iadd, 1), (99, .lconst 0, 1), (100, .lastore, 1), (101, .iinc 4 1, 3), (104, .goto (-25), 3), (107, .iconst 1, 1), (108, .ireturn, 1)]
theorem tbX7_row_1_ok : ∀ q ∈ tbX7_row_1, decode cX7_row q.1 = .ok (q.2.1, q.2.2) := by decide +kernel
theorem wCX7_no : zCW mX7_no 1 := ⟨zin (i := 8) (by decide +kernel) rfl, zin (i := 955) (by decide +kernel) rfl, by decide +kernel, by decide +kernel, by decide +kernel⟩
theorem sC7_106 : zCV RX7 106 mX7_no 1 := ⟨zin (i := 952) (by decide +kernel) rfl, zin (i := 954) (by decide +kernel) rfl, zinP (i := 30) (q := (yX7_no, 42)) (by decide +kernel) rfl, wCX7_no⟩
theorem wCX7_isShelf : zCW mX7_isShelf 1 := ⟨zin (i := 8) (by decide +kernel) rfl, zin (i := 951) (by decide +kernel) rfl, by decide +kernel, by decide +kernel, by decide +kernel⟩
theorem sC7_102 : zCV RX7 102 mX7_isShelf 1 := ⟨zin (i := 948) (by decide +kernel) rfl, zin (i := 950) (by decide +kernel) rfl, zinP (i := 29) (q := (yX7_isShelf, 42)) (by decide +kernel) rfl, wCX7_isShelf⟩
def fX7_row_b34 (n : Nat) (v0 : Nat) (μ : ZMem) : Option (ZMem × Int32) := bd2 (fX7_no n v0 (-6 : Int32) μ) (fun μ2 r3 => some (μ2, r3))
theorem tX7_row_b34 {l : Launch} {fr : Bool} {n : Nat} {z : ZMem × Int32} (v0 : Nat) (μ : ZMem) (c_v0 : isC n 7 v0 = true) (h : fX7_row_b34 n v0 μ = some z) : V (zkI l mX7_row (rmd 2) fr n z) fr 34 [(0, .ref v0)] [] n μ := by
  unfold fX7_row_b34 at h
  refine V_aload_n 0 (zdk tbX7_row_0_ok 19 rfl) rfl ?_
  refine V_bipush (v := (-6)) (zdk tbX7_row_0_ok 20 rfl) rfl ?_
  obtain ⟨μ2, r3, q1, h⟩ := bd2_some h
  refine V_callV (R1 := (rmd 1)) (As := [.int (-6 : Int32)]) (r := (some (.int r3))) (zdk tbX7_row_0_ok 21 rfl) sC7_106 (tX7_no q1) (c_v0) rfl rfl rfl ⟨Nat.le_of_ble_eq_true rfl, Nat.le_of_ble_eq_true rfl⟩ (Nat.le_of_ble_eq_true rfl) ⟨rfl, rfl⟩ id ?_
  cases h
  exact V_iret (zdk tbX7_row_0_ok 22 rfl) rfl rfl
def fX7_row_b79 (n : Nat) : Nat → Nat → Int32 → Int32 → ZMem → Option (ZMem × Int32)
  | 0, _, _, _, _ => none
  | k + 1, v0, v1, v4, μ => (if (160 : Int32) ≤ v4 then some (μ, (1 : Int32)) else bd1 (zRc n 101 μ v0 19) (fun r2 => chk (inb (((160 : Int32) * v1) + v4) r2) (lt (zpL μ r2 (((160 : Int32) * v1) + v4).toNatClampNeg (0 : Int64)) (fun μ5 => (fX7_row_b79 n k v0 v1 (v4 + (1 : Int32)) μ5)))))
theorem tX7_row_b79 {l : Launch} {fr : Bool} {n : Nat} {z : ZMem × Int32} : ∀ (k : Nat) (v0 : Nat) (v1 : Int32) (v4 : Int32) (μ : ZMem) (c_v0 : isC n 7 v0 = true), fX7_row_b79 n k v0 v1 v4 μ = some z → V (zkI l mX7_row (rmd 2) fr n z) fr 79 [(0, .ref v0), (1, .int v1), (4, .int v4)] [] n μ := by
  intro k
  induction k with
  | zero =>
    intro v0 v1 v4 μ c_v0 h
    unfold fX7_row_b79 at h
    cases h
  | succ k ih =>
    intro v0 v1 v4 μ c_v0 h
    unfold fX7_row_b79 at h
    refine V_iload 2 (zdk tbX7_row_0_ok 47 rfl) rfl ?_
    refine V_sipush (v := 160) (zdk tbX7_row_0_ok 48 rfl) rfl ?_
    refine V_icmp_ge (tgt := 107) (zdk tbX7_row_0_ok 49 rfl) (by decide) (fun c1 => ?_) (fun c1 => ?_)
    · replace h := ite_t h c1
      refine V_iconst (v := 1) (zdk tbX7_row_1_ok 11 rfl) rfl ?_
      cases h
      exact V_iret (zdk tbX7_row_1_ok 12 rfl) rfl rfl
    · replace h := ite_f h c1
      refine V_aload_n 0 (zdk tbX7_row_1_ok 0 rfl) rfl ?_
      obtain ⟨r2, q3, h⟩ := bd1_some h
      obtain ⟨q3, c_r2⟩ := zRc_some q3
      refine V_getR (zdk tbX7_row_1_ok 1 rfl) c_v0 fF7_59 rfl q3 ?_
      refine V_sipush (v := 160) (zdk tbX7_row_1_ok 2 rfl) rfl ?_
      refine V_iload_n 1 (zdk tbX7_row_1_ok 3 rfl) rfl ?_
      refine V_imul (zdk tbX7_row_1_ok 4 rfl) ?_
      refine V_iload 2 (zdk tbX7_row_1_ok 5 rfl) rfl ?_
      refine V_iadd (zdk tbX7_row_1_ok 6 rfl) ?_
      refine V_lconst (v := 0) (zdk tbX7_row_1_ok 7 rfl) rfl ?_
      obtain ⟨b4, h⟩ := chk_some h
      obtain ⟨μ5, e6, h⟩ := lt_some h
      refine V_last (zdk tbX7_row_1_ok 8 rfl) c_r2 b4 e6 ?_
      refine V_inc (dx := 1) (ls' := [(0, .ref v0), (1, .int v1), (4, .int (v4 + (1 : Int32)))]) 2 [1, 2, 0] (zdk tbX7_row_1_ok 9 rfl) rfl (Nat.le_of_ble_eq_true rfl) rfl rfl ?_
      refine V_goto (tgt := 79) (zdk tbX7_row_1_ok 10 rfl) (by decide) ?_
      exact ih v0 v1 (v4 + (1 : Int32)) μ5 c_v0 h
def fX7_row (n : Nat) (v0 : Nat) (v1 : Int32) (v2 : Int32) (v3 : Int32) (μ : ZMem) : Option (ZMem × Int32) := chk (isC n 7 v0) (bd2 (fX7_isShelf n v0 v1 μ) (fun μ2 r3 => (if r3 = 0 then bd2 (fX7_no n v0 (-1 : Int32) μ2) (fun μ31 r32 => some (μ31, r32)) else (if 0 ≤ v3 then (if v2 < 0 then (fX7_row_b34 n v0 μ2) else (if v2 ≤ (3 : Int32) then (if v3 ≤ (160 : Int32) then bd1 (zRc n 100 μ2 v0 15) (fun r9 => chk (inb v1 r9) (lt (zpI μ2 r9 v1.toNatClampNeg (1 : Int32)) (fun μ12 => bd1 (zRc n 100 μ12 v0 16) (fun r14 => chk (inb v1 r14) (lt (zpI μ12 r14 v1.toNatClampNeg v2) (fun μ17 => bd1 (zRc n 100 μ17 v0 17) (fun r19 => chk (inb v1 r19) (lt (zpI μ17 r19 v1.toNatClampNeg v3) (fun μ22 => (fX7_row_b79 n FU v0 v1 (0 : Int32) μ22)))))))))) else bd2 (fX7_no n v0 (-7 : Int32) μ2) (fun μ25 r26 => some (μ25, r26))) else (fX7_row_b34 n v0 μ2))) else bd2 (fX7_no n v0 (-4 : Int32) μ2) (fun μ28 r29 => some (μ28, r29))))))
theorem tX7_row {l : Launch} {fr : Bool} {n : Nat} {v0 : Nat} {v1 : Int32} {v2 : Int32} {v3 : Int32} {μ : ZMem} {z : ZMem × Int32} (h : fX7_row n v0 v1 v2 v3 μ = some z) : ZFn l mX7_row (rmd 2) [.ref v0, .int v1, .int v2, .int v3] fr n μ (fr, n, z.1, some (.int z.2)) := by
  unfold fX7_row at h
  obtain ⟨c_v0, h⟩ := chk_some h
  refine ZFn.of (ls := [(0, .ref v0), (1, .int v1), (2, .int v2), (3, .int v3)]) (by decide) (fun ξ => Nat.le_of_ble_eq_true rfl) (fun ξ => rfl) ?_
  refine V_aload_n 0 (zdk tbX7_row_0_ok 0 rfl) rfl ?_
  refine V_iload_n 1 (zdk tbX7_row_0_ok 1 rfl) rfl ?_
  obtain ⟨μ2, r3, q1, h⟩ := bd2_some h
  refine V_callV (R1 := (rmd 1)) (As := [.int v1]) (r := (some (.int r3))) (zdk tbX7_row_0_ok 2 rfl) sC7_102 (tX7_isShelf q1) (c_v0) rfl rfl rfl ⟨Nat.le_of_ble_eq_true rfl, Nat.le_of_ble_eq_true rfl⟩ (Nat.le_of_ble_eq_true rfl) ⟨rfl, rfl⟩ id ?_
  refine V_if_ne (tgt := 14) (zdk tbX7_row_0_ok 3 rfl) (by decide) (fun c4 => ?_) (fun c4 => ?_)
  · replace h := ite_f h c4
    refine V_iload_n 3 (zdk tbX7_row_0_ok 8 rfl) rfl ?_
    refine V_if_ge (tgt := 25) (zdk tbX7_row_0_ok 9 rfl) (by decide) (fun c5 => ?_) (fun c5 => ?_)
    · replace h := ite_t h c5
      refine V_iload_n 2 (zdk tbX7_row_0_ok 14 rfl) rfl ?_
      refine V_if_lt (tgt := 34) (zdk tbX7_row_0_ok 15 rfl) (by decide) (fun c6 => ?_) (fun c6 => ?_)
      · replace h := ite_t h c6
        refine V_sub (ls' := [(0, .ref v0)]) [0] rfl ?_
        exact tX7_row_b34 v0 μ2 c_v0 h
      · replace h := ite_f h c6
        refine V_iload_n 2 (zdk tbX7_row_0_ok 16 rfl) rfl ?_
        refine V_iconst (v := 3) (zdk tbX7_row_0_ok 17 rfl) rfl ?_
        refine V_icmp_le (tgt := 41) (zdk tbX7_row_0_ok 18 rfl) (by decide) (fun c7 => ?_) (fun c7 => ?_)
        · replace h := ite_t h c7
          refine V_iload_n 3 (zdk tbX7_row_0_ok 23 rfl) rfl ?_
          refine V_sipush (v := 160) (zdk tbX7_row_0_ok 24 rfl) rfl ?_
          refine V_icmp_le (tgt := 55) (zdk tbX7_row_0_ok 25 rfl) (by decide) (fun c8 => ?_) (fun c8 => ?_)
          · replace h := ite_t h c8
            refine V_aload_n 0 (zdk tbX7_row_0_ok 30 rfl) rfl ?_
            obtain ⟨r9, q10, h⟩ := bd1_some h
            obtain ⟨q10, c_r9⟩ := zRc_some q10
            refine V_getR (zdk tbX7_row_0_ok 31 rfl) c_v0 fF7_47 rfl q10 ?_
            refine V_iload_n 1 (zdk tbX7_row_0_ok 32 rfl) rfl ?_
            refine V_iconst (v := 1) (zdk tbX7_row_0_ok 33 rfl) rfl ?_
            obtain ⟨b11, h⟩ := chk_some h
            obtain ⟨μ12, e13, h⟩ := lt_some h
            refine V_iast (zdk tbX7_row_0_ok 34 rfl) c_r9 b11 e13 ?_
            refine V_aload_n 0 (zdk tbX7_row_0_ok 35 rfl) rfl ?_
            obtain ⟨r14, q15, h⟩ := bd1_some h
            obtain ⟨q15, c_r14⟩ := zRc_some q15
            refine V_getR (zdk tbX7_row_0_ok 36 rfl) c_v0 fF7_50 rfl q15 ?_
            refine V_iload_n 1 (zdk tbX7_row_0_ok 37 rfl) rfl ?_
            refine V_iload_n 2 (zdk tbX7_row_0_ok 38 rfl) rfl ?_
            obtain ⟨b16, h⟩ := chk_some h
            obtain ⟨μ17, e18, h⟩ := lt_some h
            refine V_iast (zdk tbX7_row_0_ok 39 rfl) c_r14 b16 e18 ?_
            refine V_aload_n 0 (zdk tbX7_row_0_ok 40 rfl) rfl ?_
            obtain ⟨r19, q20, h⟩ := bd1_some h
            obtain ⟨q20, c_r19⟩ := zRc_some q20
            refine V_getR (zdk tbX7_row_0_ok 41 rfl) c_v0 fF7_53 rfl q20 ?_
            refine V_iload_n 1 (zdk tbX7_row_0_ok 42 rfl) rfl ?_
            refine V_iload_n 3 (zdk tbX7_row_0_ok 43 rfl) rfl ?_
            obtain ⟨b21, h⟩ := chk_some h
            obtain ⟨μ22, e23, h⟩ := lt_some h
            refine V_iast (zdk tbX7_row_0_ok 44 rfl) c_r19 b21 e23 ?_
            refine V_iconst (v := 0) (zdk tbX7_row_0_ok 45 rfl) rfl ?_
            refine V_istore (ls' := [(0, .ref v0), (1, .int v1), (4, .int (0 : Int32))]) [1, 2, 0] (zdk tbX7_row_0_ok 46 rfl) (Nat.le_of_ble_eq_true rfl) rfl ?_
            exact tX7_row_b79 FU v0 v1 (0 : Int32) μ22 c_v0 h
          · replace h := ite_f h c8
            refine V_aload_n 0 (zdk tbX7_row_0_ok 26 rfl) rfl ?_
            refine V_bipush (v := (-7)) (zdk tbX7_row_0_ok 27 rfl) rfl ?_
            obtain ⟨μ25, r26, q24, h⟩ := bd2_some h
            refine V_callV (R1 := (rmd 1)) (As := [.int (-7 : Int32)]) (r := (some (.int r26))) (zdk tbX7_row_0_ok 28 rfl) sC7_106 (tX7_no q24) (c_v0) rfl rfl rfl ⟨Nat.le_of_ble_eq_true rfl, Nat.le_of_ble_eq_true rfl⟩ (Nat.le_of_ble_eq_true rfl) ⟨rfl, rfl⟩ id ?_
            cases h
            exact V_iret (zdk tbX7_row_0_ok 29 rfl) rfl rfl
        · replace h := ite_f h c7
          refine V_sub (ls' := [(0, .ref v0)]) [0] rfl ?_
          exact tX7_row_b34 v0 μ2 c_v0 h
    · replace h := ite_f h c5
      refine V_aload_n 0 (zdk tbX7_row_0_ok 10 rfl) rfl ?_
      refine V_bipush (v := (-4)) (zdk tbX7_row_0_ok 11 rfl) rfl ?_
      obtain ⟨μ28, r29, q27, h⟩ := bd2_some h
      refine V_callV (R1 := (rmd 1)) (As := [.int (-4 : Int32)]) (r := (some (.int r29))) (zdk tbX7_row_0_ok 12 rfl) sC7_106 (tX7_no q27) (c_v0) rfl rfl rfl ⟨Nat.le_of_ble_eq_true rfl, Nat.le_of_ble_eq_true rfl⟩ (Nat.le_of_ble_eq_true rfl) ⟨rfl, rfl⟩ id ?_
      cases h
      exact V_iret (zdk tbX7_row_0_ok 13 rfl) rfl rfl
  · replace h := ite_t h c4
    refine V_aload_n 0 (zdk tbX7_row_0_ok 4 rfl) rfl ?_
    refine V_iconst (v := (-1)) (zdk tbX7_row_0_ok 5 rfl) rfl ?_
    obtain ⟨μ31, r32, q30, h⟩ := bd2_some h
    refine V_callV (R1 := (rmd 1)) (As := [.int (-1 : Int32)]) (r := (some (.int r32))) (zdk tbX7_row_0_ok 6 rfl) sC7_106 (tX7_no q30) (c_v0) rfl rfl rfl ⟨Nat.le_of_ble_eq_true rfl, Nat.le_of_ble_eq_true rfl⟩ (Nat.le_of_ble_eq_true rfl) ⟨rfl, rfl⟩ id ?_
    cases h
    exact V_iret (zdk tbX7_row_0_ok 7 rfl) rfl rfl

-- WhoComplainsCarriesModel.set
def tbX7_set_0 : List (Nat × Instr × Nat) := [(0, .aload_n 0, 1), (1, .iload_n 1, 1), (2, .invokevirtual 102, 3), (5, .ifCond .ne 9, 3), (8, .aload_n 0, 1), (9, .iconst (-1), 1), (10, .invokevirtual 106, 3), (13, .ireturn, 1), (14, .aload_n 0, 1), (15, .getfield 47, 3), (18, .iload_n 1, 1), (19, .iaload, 1), (20, .iconst 2, 1), (21, .if_icmp .ne 10, 3), (24, .aload_n 0, 1), (25, .bipush (-2), 2), (27, .invokevirtual 106, 3), (30, .ireturn, 1), (31, .aload_n 0, 1), (32, .getfield 47, 3), (35, .iload_n 1, 1), (36, .iaload, 1), (37, .ifCond .ne 10, 3), (40, .aload_n 0, 1), (41, .bipush (-3), 2), (43, .invokevirtual 106, 3), (46, .ireturn, 1), (47, .iload_n 2, 1), (48, .ifCond .lt 13, 3), (51, .iload_n 2, 1), (52, .aload_n 0, 1), (53, .getfield 53, 3), (56, .iload_n 1, 1), (57, .iaload, 1), (58, .if_icmp .lt 10, 3), (61, .aload_n 0, 1), (62, .bipush (-5), 2), (64, .invokevirtual 106, 3), (67, .ireturn, 1), (68, .aload_n 0, 1), (69, .getfield 59, 3), (72, .sipush 160, 3), (75, .iload_n 1, 1), (76, .imul, 1), (77, .iload_n 2, 1), (78, .iadd, 1), (79, .aload_n 0, 1), (80, .getfield 50, 3), (83, .iload_n 1, 1), (84, .iaload, 1)]
theorem tbX7_set_0_ok : ∀ q ∈ tbX7_set_0, decode cX7_set q.1 = .ok (q.2.1, q.2.2) := by decide +kernel
def tbX7_set_1 : List (Nat × Instr × Nat) := [(85, .ifCond .ne 10, 3), (88, .lload_n 3, 1), (89, .l2i, 1), (90, .i2b, 1), (91, .i2l, 1), (92, .goto 37, 3), (95, .aload_n 0, 1), (96, .getfield 50, 3), (99, .iload_n 1, 1), (100, .iaload, 1), (101, .iconst 1, 1), (102, .if_icmp .ne 10, 3), (105, .lload_n 3, 1), (106, .l2i, 1), (107, .i2s, 1), (108, .i2l, 1), (109, .goto 20, 3), (112, .aload_n 0, 1), (113, .getfield 50, 3), (116, .iload_n 1, 1), (117, .iaload, 1), (118, .iconst 2, 1), (119, .if_icmp .ne 9, 3), (122, .lload_n 3, 1), (123, .l2i, 1), (124, .i2l, 1), (125, .goto 4, 3), (128, .lload_n 3, 1), (129, .lastore, 1), (130, .iconst 1, 1), (131, .ireturn, 1)]
theorem tbX7_set_1_ok : ∀ q ∈ tbX7_set_1, decode cX7_set q.1 = .ok (q.2.1, q.2.2) := by decide +kernel
def fX7_set_b61 (n : Nat) (v0 : Nat) (μ : ZMem) : Option (ZMem × Int32) := bd2 (fX7_no n v0 (-5 : Int32) μ) (fun μ2 r3 => some (μ2, r3))
theorem tX7_set_b61 {l : Launch} {fr : Bool} {n : Nat} {z : ZMem × Int32} (v0 : Nat) (μ : ZMem) (c_v0 : isC n 7 v0 = true) (h : fX7_set_b61 n v0 μ = some z) : V (zkI l mX7_set (rmd 2) fr n z) fr 61 [(0, .ref v0)] [] n μ := by
  unfold fX7_set_b61 at h
  refine V_aload_n 0 (zdk tbX7_set_0_ok 35 rfl) rfl ?_
  refine V_bipush (v := (-5)) (zdk tbX7_set_0_ok 36 rfl) rfl ?_
  obtain ⟨μ2, r3, q1, h⟩ := bd2_some h
  refine V_callV (R1 := (rmd 1)) (As := [.int (-5 : Int32)]) (r := (some (.int r3))) (zdk tbX7_set_0_ok 37 rfl) sC7_106 (tX7_no q1) (c_v0) rfl rfl rfl ⟨Nat.le_of_ble_eq_true rfl, Nat.le_of_ble_eq_true rfl⟩ (Nat.le_of_ble_eq_true rfl) ⟨rfl, rfl⟩ id ?_
  cases h
  exact V_iret (zdk tbX7_set_0_ok 38 rfl) rfl rfl
def fX7_set_b129 (n : Nat) (s0 : Nat) (s1 : Int32) (s2 : Int64) (μ : ZMem) : Option (ZMem × Int32) := chk (inb s1 s0) (lt (zpL μ s0 s1.toNatClampNeg s2) (fun μ2 => some (μ2, (1 : Int32))))
theorem tX7_set_b129 {l : Launch} {fr : Bool} {n : Nat} {z : ZMem × Int32} (s0 : Nat) (s1 : Int32) (s2 : Int64) (μ : ZMem) (c_s0 : isC n 101 s0 = true) (h : fX7_set_b129 n s0 s1 s2 μ = some z) : V (zkI l mX7_set (rmd 2) fr n z) fr 129 [] [.long s2, .int s1, .ref s0] n μ := by
  unfold fX7_set_b129 at h
  obtain ⟨b1, h⟩ := chk_some h
  obtain ⟨μ2, e3, h⟩ := lt_some h
  refine V_last (zdk tbX7_set_1_ok 28 rfl) c_s0 b1 e3 ?_
  refine V_iconst (v := 1) (zdk tbX7_set_1_ok 29 rfl) rfl ?_
  cases h
  exact V_iret (zdk tbX7_set_1_ok 30 rfl) rfl rfl
def fX7_set (n : Nat) (v0 : Nat) (v1 : Int32) (v2 : Int32) (v3 : Int64) (μ : ZMem) : Option (ZMem × Int32) := chk (isC n 7 v0) (bd2 (fX7_isShelf n v0 v1 μ) (fun μ2 r3 => (if r3 = 0 then bd2 (fX7_no n v0 (-1 : Int32) μ2) (fun μ39 r40 => some (μ39, r40)) else bd1 (zRc n 100 μ2 v0 15) (fun r5 => chk (inb v1 r5) ((if (zI μ2 r5 v1.toNatClampNeg) = (2 : Int32) then bd2 (fX7_no n v0 (-2 : Int32) μ2) (fun μ36 r37 => some (μ36, r37)) else bd1 (zRc n 100 μ2 v0 15) (fun r9 => chk (inb v1 r9) ((if (zI μ2 r9 v1.toNatClampNeg) = 0 then bd2 (fX7_no n v0 (-3 : Int32) μ2) (fun μ33 r34 => some (μ33, r34)) else (if v2 < 0 then (fX7_set_b61 n v0 μ2) else bd1 (zRc n 100 μ2 v0 17) (fun r14 => chk (inb v1 r14) ((if v2 < (zI μ2 r14 v1.toNatClampNeg) then bd1 (zRc n 101 μ2 v0 19) (fun r18 => bd1 (zRc n 100 μ2 v0 16) (fun r20 => chk (inb v1 r20) ((if (zI μ2 r20 v1.toNatClampNeg) = 0 then (fX7_set_b129 n r18 (((160 : Int32) * v1) + v2) (((v3.toInt32).toInt8.toInt32).toInt64) μ2) else bd1 (zRc n 100 μ2 v0 16) (fun r24 => chk (inb v1 r24) ((if (zI μ2 r24 v1.toNatClampNeg) = (1 : Int32) then (fX7_set_b129 n r18 (((160 : Int32) * v1) + v2) (((v3.toInt32).toInt16.toInt32).toInt64) μ2) else bd1 (zRc n 100 μ2 v0 16) (fun r28 => chk (inb v1 r28) ((if (zI μ2 r28 v1.toNatClampNeg) = (2 : Int32) then (fX7_set_b129 n r18 (((160 : Int32) * v1) + v2) ((v3.toInt32).toInt64) μ2) else (fX7_set_b129 n r18 (((160 : Int32) * v1) + v2) v3 μ2))))))))))) else (fX7_set_b61 n v0 μ2))))))))))))))
theorem tX7_set {l : Launch} {fr : Bool} {n : Nat} {v0 : Nat} {v1 : Int32} {v2 : Int32} {v3 : Int64} {μ : ZMem} {z : ZMem × Int32} (h : fX7_set n v0 v1 v2 v3 μ = some z) : ZFn l mX7_set (rmd 2) [.ref v0, .int v1, .int v2, .long v3] fr n μ (fr, n, z.1, some (.int z.2)) := by
  unfold fX7_set at h
  obtain ⟨c_v0, h⟩ := chk_some h
  refine ZFn.of (ls := [(0, .ref v0), (1, .int v1), (2, .int v2), (3, .long v3)]) (by decide) (fun ξ => Nat.le_of_ble_eq_true rfl) (fun ξ => rfl) ?_
  refine V_aload_n 0 (zdk tbX7_set_0_ok 0 rfl) rfl ?_
  refine V_iload_n 1 (zdk tbX7_set_0_ok 1 rfl) rfl ?_
  obtain ⟨μ2, r3, q1, h⟩ := bd2_some h
  refine V_callV (R1 := (rmd 1)) (As := [.int v1]) (r := (some (.int r3))) (zdk tbX7_set_0_ok 2 rfl) sC7_102 (tX7_isShelf q1) (c_v0) rfl rfl rfl ⟨Nat.le_of_ble_eq_true rfl, Nat.le_of_ble_eq_true rfl⟩ (Nat.le_of_ble_eq_true rfl) ⟨rfl, rfl⟩ id ?_
  refine V_if_ne (tgt := 14) (zdk tbX7_set_0_ok 3 rfl) (by decide) (fun c4 => ?_) (fun c4 => ?_)
  · replace h := ite_f h c4
    refine V_aload_n 0 (zdk tbX7_set_0_ok 8 rfl) rfl ?_
    obtain ⟨r5, q6, h⟩ := bd1_some h
    obtain ⟨q6, c_r5⟩ := zRc_some q6
    refine V_getR (zdk tbX7_set_0_ok 9 rfl) c_v0 fF7_47 rfl q6 ?_
    refine V_iload_n 1 (zdk tbX7_set_0_ok 10 rfl) rfl ?_
    obtain ⟨b7, h⟩ := chk_some h
    refine V_iald (zdk tbX7_set_0_ok 11 rfl) c_r5 b7 ?_
    refine V_iconst (v := 2) (zdk tbX7_set_0_ok 12 rfl) rfl ?_
    refine V_icmp_ne (tgt := 31) (zdk tbX7_set_0_ok 13 rfl) (by decide) (fun c8 => ?_) (fun c8 => ?_)
    · replace h := ite_f h c8
      refine V_aload_n 0 (zdk tbX7_set_0_ok 18 rfl) rfl ?_
      obtain ⟨r9, q10, h⟩ := bd1_some h
      obtain ⟨q10, c_r9⟩ := zRc_some q10
      refine V_getR (zdk tbX7_set_0_ok 19 rfl) c_v0 fF7_47 rfl q10 ?_
      refine V_iload_n 1 (zdk tbX7_set_0_ok 20 rfl) rfl ?_
      obtain ⟨b11, h⟩ := chk_some h
      refine V_iald (zdk tbX7_set_0_ok 21 rfl) c_r9 b11 ?_
      refine V_if_ne (tgt := 47) (zdk tbX7_set_0_ok 22 rfl) (by decide) (fun c12 => ?_) (fun c12 => ?_)
      · replace h := ite_f h c12
        refine V_iload_n 2 (zdk tbX7_set_0_ok 27 rfl) rfl ?_
        refine V_if_lt (tgt := 61) (zdk tbX7_set_0_ok 28 rfl) (by decide) (fun c13 => ?_) (fun c13 => ?_)
        · replace h := ite_t h c13
          refine V_sub (ls' := [(0, .ref v0)]) [0] rfl ?_
          exact tX7_set_b61 v0 μ2 c_v0 h
        · replace h := ite_f h c13
          refine V_iload_n 2 (zdk tbX7_set_0_ok 29 rfl) rfl ?_
          refine V_aload_n 0 (zdk tbX7_set_0_ok 30 rfl) rfl ?_
          obtain ⟨r14, q15, h⟩ := bd1_some h
          obtain ⟨q15, c_r14⟩ := zRc_some q15
          refine V_getR (zdk tbX7_set_0_ok 31 rfl) c_v0 fF7_53 rfl q15 ?_
          refine V_iload_n 1 (zdk tbX7_set_0_ok 32 rfl) rfl ?_
          obtain ⟨b16, h⟩ := chk_some h
          refine V_iald (zdk tbX7_set_0_ok 33 rfl) c_r14 b16 ?_
          refine V_icmp_lt (tgt := 68) (zdk tbX7_set_0_ok 34 rfl) (by decide) (fun c17 => ?_) (fun c17 => ?_)
          · replace h := ite_t h c17
            refine V_aload_n 0 (zdk tbX7_set_0_ok 39 rfl) rfl ?_
            obtain ⟨r18, q19, h⟩ := bd1_some h
            obtain ⟨q19, c_r18⟩ := zRc_some q19
            refine V_getR (zdk tbX7_set_0_ok 40 rfl) c_v0 fF7_59 rfl q19 ?_
            refine V_sipush (v := 160) (zdk tbX7_set_0_ok 41 rfl) rfl ?_
            refine V_iload_n 1 (zdk tbX7_set_0_ok 42 rfl) rfl ?_
            refine V_imul (zdk tbX7_set_0_ok 43 rfl) ?_
            refine V_iload_n 2 (zdk tbX7_set_0_ok 44 rfl) rfl ?_
            refine V_iadd (zdk tbX7_set_0_ok 45 rfl) ?_
            refine V_aload_n 0 (zdk tbX7_set_0_ok 46 rfl) rfl ?_
            obtain ⟨r20, q21, h⟩ := bd1_some h
            obtain ⟨q21, c_r20⟩ := zRc_some q21
            refine V_getR (zdk tbX7_set_0_ok 47 rfl) c_v0 fF7_50 rfl q21 ?_
            refine V_iload_n 1 (zdk tbX7_set_0_ok 48 rfl) rfl ?_
            obtain ⟨b22, h⟩ := chk_some h
            refine V_iald (zdk tbX7_set_0_ok 49 rfl) c_r20 b22 ?_
            refine V_if_ne (tgt := 95) (zdk tbX7_set_1_ok 0 rfl) (by decide) (fun c23 => ?_) (fun c23 => ?_)
            · replace h := ite_f h c23
              refine V_aload_n 0 (zdk tbX7_set_1_ok 6 rfl) rfl ?_
              obtain ⟨r24, q25, h⟩ := bd1_some h
              obtain ⟨q25, c_r24⟩ := zRc_some q25
              refine V_getR (zdk tbX7_set_1_ok 7 rfl) c_v0 fF7_50 rfl q25 ?_
              refine V_iload_n 1 (zdk tbX7_set_1_ok 8 rfl) rfl ?_
              obtain ⟨b26, h⟩ := chk_some h
              refine V_iald (zdk tbX7_set_1_ok 9 rfl) c_r24 b26 ?_
              refine V_iconst (v := 1) (zdk tbX7_set_1_ok 10 rfl) rfl ?_
              refine V_icmp_ne (tgt := 112) (zdk tbX7_set_1_ok 11 rfl) (by decide) (fun c27 => ?_) (fun c27 => ?_)
              · replace h := ite_f h c27
                refine V_aload_n 0 (zdk tbX7_set_1_ok 17 rfl) rfl ?_
                obtain ⟨r28, q29, h⟩ := bd1_some h
                obtain ⟨q29, c_r28⟩ := zRc_some q29
                refine V_getR (zdk tbX7_set_1_ok 18 rfl) c_v0 fF7_50 rfl q29 ?_
                refine V_iload_n 1 (zdk tbX7_set_1_ok 19 rfl) rfl ?_
                obtain ⟨b30, h⟩ := chk_some h
                refine V_iald (zdk tbX7_set_1_ok 20 rfl) c_r28 b30 ?_
                refine V_iconst (v := 2) (zdk tbX7_set_1_ok 21 rfl) rfl ?_
                refine V_icmp_ne (tgt := 128) (zdk tbX7_set_1_ok 22 rfl) (by decide) (fun c31 => ?_) (fun c31 => ?_)
                · replace h := ite_f h c31
                  refine V_lload_n 3 (zdk tbX7_set_1_ok 27 rfl) rfl ?_
                  refine V_sub (ls' := []) [] rfl ?_
                  exact tX7_set_b129 r18 (((160 : Int32) * v1) + v2) v3 μ2 c_r18 h
                · replace h := ite_t h c31
                  refine V_lload_n 3 (zdk tbX7_set_1_ok 23 rfl) rfl ?_
                  refine V_l2i (zdk tbX7_set_1_ok 24 rfl) rfl ?_
                  refine V_i2l (zdk tbX7_set_1_ok 25 rfl) rfl ?_
                  refine V_goto (tgt := 129) (zdk tbX7_set_1_ok 26 rfl) (by decide) ?_
                  refine V_sub (ls' := []) [] rfl ?_
                  exact tX7_set_b129 r18 (((160 : Int32) * v1) + v2) ((v3.toInt32).toInt64) μ2 c_r18 h
              · replace h := ite_t h c27
                refine V_lload_n 3 (zdk tbX7_set_1_ok 12 rfl) rfl ?_
                refine V_l2i (zdk tbX7_set_1_ok 13 rfl) rfl ?_
                refine V_i2s (zdk tbX7_set_1_ok 14 rfl) rfl ?_
                refine V_i2l (zdk tbX7_set_1_ok 15 rfl) rfl ?_
                refine V_goto (tgt := 129) (zdk tbX7_set_1_ok 16 rfl) (by decide) ?_
                refine V_sub (ls' := []) [] rfl ?_
                exact tX7_set_b129 r18 (((160 : Int32) * v1) + v2) (((v3.toInt32).toInt16.toInt32).toInt64) μ2 c_r18 h
            · replace h := ite_t h c23
              refine V_lload_n 3 (zdk tbX7_set_1_ok 1 rfl) rfl ?_
              refine V_l2i (zdk tbX7_set_1_ok 2 rfl) rfl ?_
              refine V_i2b (zdk tbX7_set_1_ok 3 rfl) rfl ?_
              refine V_i2l (zdk tbX7_set_1_ok 4 rfl) rfl ?_
              refine V_goto (tgt := 129) (zdk tbX7_set_1_ok 5 rfl) (by decide) ?_
              refine V_sub (ls' := []) [] rfl ?_
              exact tX7_set_b129 r18 (((160 : Int32) * v1) + v2) (((v3.toInt32).toInt8.toInt32).toInt64) μ2 c_r18 h
          · replace h := ite_f h c17
            refine V_sub (ls' := [(0, .ref v0)]) [0] rfl ?_
            exact tX7_set_b61 v0 μ2 c_v0 h
      · replace h := ite_t h c12
        refine V_aload_n 0 (zdk tbX7_set_0_ok 23 rfl) rfl ?_
        refine V_bipush (v := (-3)) (zdk tbX7_set_0_ok 24 rfl) rfl ?_
        obtain ⟨μ33, r34, q32, h⟩ := bd2_some h
        refine V_callV (R1 := (rmd 1)) (As := [.int (-3 : Int32)]) (r := (some (.int r34))) (zdk tbX7_set_0_ok 25 rfl) sC7_106 (tX7_no q32) (c_v0) rfl rfl rfl ⟨Nat.le_of_ble_eq_true rfl, Nat.le_of_ble_eq_true rfl⟩ (Nat.le_of_ble_eq_true rfl) ⟨rfl, rfl⟩ id ?_
        cases h
        exact V_iret (zdk tbX7_set_0_ok 26 rfl) rfl rfl
    · replace h := ite_t h c8
      refine V_aload_n 0 (zdk tbX7_set_0_ok 14 rfl) rfl ?_
      refine V_bipush (v := (-2)) (zdk tbX7_set_0_ok 15 rfl) rfl ?_
      obtain ⟨μ36, r37, q35, h⟩ := bd2_some h
      refine V_callV (R1 := (rmd 1)) (As := [.int (-2 : Int32)]) (r := (some (.int r37))) (zdk tbX7_set_0_ok 16 rfl) sC7_106 (tX7_no q35) (c_v0) rfl rfl rfl ⟨Nat.le_of_ble_eq_true rfl, Nat.le_of_ble_eq_true rfl⟩ (Nat.le_of_ble_eq_true rfl) ⟨rfl, rfl⟩ id ?_
      cases h
      exact V_iret (zdk tbX7_set_0_ok 17 rfl) rfl rfl
  · replace h := ite_t h c4
    refine V_aload_n 0 (zdk tbX7_set_0_ok 4 rfl) rfl ?_
    refine V_iconst (v := (-1)) (zdk tbX7_set_0_ok 5 rfl) rfl ?_
    obtain ⟨μ39, r40, q38, h⟩ := bd2_some h
    refine V_callV (R1 := (rmd 1)) (As := [.int (-1 : Int32)]) (r := (some (.int r40))) (zdk tbX7_set_0_ok 6 rfl) sC7_106 (tX7_no q38) (c_v0) rfl rfl rfl ⟨Nat.le_of_ble_eq_true rfl, Nat.le_of_ble_eq_true rfl⟩ (Nat.le_of_ble_eq_true rfl) ⟨rfl, rfl⟩ id ?_
    cases h
    exact V_iret (zdk tbX7_set_0_ok 7 rfl) rfl rfl

-- WhoComplainsCarriesModel.copy
def tbX7_copy_0 : List (Nat × Instr × Nat) := [(0, .aload_n 0, 1), (1, .iload_n 1, 1), (2, .invokevirtual 102, 3), (5, .ifCond .eq 11, 3), (8, .aload_n 0, 1), (9, .iload_n 2, 1), (10, .invokevirtual 102, 3), (13, .ifCond .ne 9, 3), (16, .aload_n 0, 1), (17, .iconst (-1), 1), (18, .invokevirtual 106, 3), (21, .ireturn, 1), (22, .aload_n 0, 1), (23, .getfield 47, 3), (26, .iload_n 1, 1), (27, .iaload, 1), (28, .iconst 2, 1), (29, .if_icmp .eq 48, 3), (32, .aload_n 0, 1), (33, .getfield 47, 3), (36, .iload_n 2, 1), (37, .iaload, 1), (38, .iconst 2, 1), (39, .if_icmp .eq 38, 3), (42, .aload_n 0, 1), (43, .getfield 47, 3), (46, .iload_n 1, 1), (47, .iaload, 1), (48, .iconst 1, 1), (49, .if_icmp .ne 35, 3), (52, .aload_n 0, 1), (53, .getfield 47, 3), (56, .iload_n 2, 1), (57, .iaload, 1), (58, .iconst 1, 1), (59, .if_icmp .ne 25, 3), (62, .aload_n 0, 1), (63, .getfield 50, 3), (66, .iload_n 1, 1), (67, .iaload, 1), (68, .aload_n 0, 1), (69, .getfield 50, 3), (72, .iload_n 2, 1), (73, .iaload, 1), (74, .if_icmp .eq 10, 3), (77, .aload_n 0, 1), (78, .bipush (-2), 2), (80, .invokevirtual 106, 3), (83, .ireturn, 1), (84, .aload_n 0, 1)]
theorem tbX7_copy_0_ok : ∀ q ∈ tbX7_copy_0, decode cX7_copy q.1 = .ok (q.2.1, q.2.2) := by decide +kernel
def tbX7_copy_1 : List (Nat × Instr × Nat) := [(85, .getfield 47, 3), (88, .iload_n 1, 1), (89, .iaload, 1), (90, .ifCond .eq 12, 3), (93, .aload_n 0, 1), (94, .getfield 47, 3), (97, .iload_n 2, 1), (98, .iaload, 1), (99, .ifCond .ne 10, 3), (102, .aload_n 0, 1), (103, .bipush (-3), 2), (105, .invokevirtual 106, 3), (108, .ireturn, 1), (109, .iload 5, 2), (111, .ifCond .ge 10, 3), (114, .aload_n 0, 1), (115, .bipush (-4), 2), (117, .invokevirtual 106, 3), (120, .ireturn, 1), (121, .iload_n 3, 1), (122, .ifCond .lt 35, 3), (125, .iload 4, 2), (127, .ifCond .lt 30, 3), (130, .iload_n 3, 1), (131, .aload_n 0, 1), (132, .getfield 53, 3), (135, .iload_n 1, 1), (136, .iaload, 1), (137, .iload 5, 2), (139, .isub, 1), (140, .if_icmp .gt 17, 3), (143, .iload 4, 2), (145, .aload_n 0, 1), (146, .getfield 53, 3), (149, .iload_n 2, 1), (150, .iaload, 1), (151, .iload 5, 2), (153, .isub, 1), (154, .if_icmp .le 10, 3), (157, .aload_n 0, 1), (158, .bipush (-5), 2), (160, .invokevirtual 106, 3), (163, .ireturn, 1), (164, .iconst 0, 1), (165, .istore 6, 2), (167, .iload 6, 2), (169, .iload 5, 2), (171, .if_icmp .ge 31, 3), (174, .aload_n 0, 1), (175, .getfield 63, 3)]
theorem tbX7_copy_1_ok : ∀ q ∈ tbX7_copy_1, decode cX7_copy q.1 = .ok (q.2.1, q.2.2) := by decide +kernel
def tbX7_copy_2 : List (Nat × Instr × Nat) := [(178, .iload 6, 2), (180, .aload_n 0, 1), (181, .getfield 59, 3), (184, .sipush 160, 3), (187, .iload_n 1, 1), (188, .imul, 1), (189, .iload_n 3, 1), (190, .iadd, 1), (191, .iload 6, 2), (193, .iadd, 1), (194, .laload, 1), (195, .lastore, 1), (196, .iinc 6 1, 3), (199, .goto (-32), 3), (202, .iconst 0, 1), (203, .istore 6, 2), (205, .iload 6, 2), (207, .iload 5, 2), (209, .if_icmp .ge 32, 3), (212, .aload_n 0, 1), (213, .getfield 59, 3), (216, .sipush 160, 3), (219, .iload_n 2, 1), (220, .imul, 1), (221, .iload 4, 2), (223, .iadd, 1), (224, .iload 6, 2), (226, .iadd, 1), (227, .aload_n 0, 1), (228, .getfield 63, 3), (231, .iload 6, 2), (233, .laload, 1), (234, .lastore, 1), (235, .iinc 6 1, 3), (238, .goto (-33), 3), (241, .iconst 1, 1), (242, .ireturn, 1)]
theorem tbX7_copy_2_ok : ∀ q ∈ tbX7_copy_2, decode cX7_copy q.1 = .ok (q.2.1, q.2.2) := by decide +kernel
def fX7_copy_b16 (n : Nat) (v0 : Nat) (μ : ZMem) : Option (ZMem × Int32) := bd2 (fX7_no n v0 (-1 : Int32) μ) (fun μ2 r3 => some (μ2, r3))
theorem tX7_copy_b16 {l : Launch} {fr : Bool} {n : Nat} {z : ZMem × Int32} (v0 : Nat) (μ : ZMem) (c_v0 : isC n 7 v0 = true) (h : fX7_copy_b16 n v0 μ = some z) : V (zkI l mX7_copy (rmd 2) fr n z) fr 16 [(0, .ref v0)] [] n μ := by
  unfold fX7_copy_b16 at h
  refine V_aload_n 0 (zdk tbX7_copy_0_ok 8 rfl) rfl ?_
  refine V_iconst (v := (-1)) (zdk tbX7_copy_0_ok 9 rfl) rfl ?_
  obtain ⟨μ2, r3, q1, h⟩ := bd2_some h
  refine V_callV (R1 := (rmd 1)) (As := [.int (-1 : Int32)]) (r := (some (.int r3))) (zdk tbX7_copy_0_ok 10 rfl) sC7_106 (tX7_no q1) (c_v0) rfl rfl rfl ⟨Nat.le_of_ble_eq_true rfl, Nat.le_of_ble_eq_true rfl⟩ (Nat.le_of_ble_eq_true rfl) ⟨rfl, rfl⟩ id ?_
  cases h
  exact V_iret (zdk tbX7_copy_0_ok 11 rfl) rfl rfl
def fX7_copy_b77 (n : Nat) (v0 : Nat) (μ : ZMem) : Option (ZMem × Int32) := bd2 (fX7_no n v0 (-2 : Int32) μ) (fun μ2 r3 => some (μ2, r3))
theorem tX7_copy_b77 {l : Launch} {fr : Bool} {n : Nat} {z : ZMem × Int32} (v0 : Nat) (μ : ZMem) (c_v0 : isC n 7 v0 = true) (h : fX7_copy_b77 n v0 μ = some z) : V (zkI l mX7_copy (rmd 2) fr n z) fr 77 [(0, .ref v0)] [] n μ := by
  unfold fX7_copy_b77 at h
  refine V_aload_n 0 (zdk tbX7_copy_0_ok 45 rfl) rfl ?_
  refine V_bipush (v := (-2)) (zdk tbX7_copy_0_ok 46 rfl) rfl ?_
  obtain ⟨μ2, r3, q1, h⟩ := bd2_some h
  refine V_callV (R1 := (rmd 1)) (As := [.int (-2 : Int32)]) (r := (some (.int r3))) (zdk tbX7_copy_0_ok 47 rfl) sC7_106 (tX7_no q1) (c_v0) rfl rfl rfl ⟨Nat.le_of_ble_eq_true rfl, Nat.le_of_ble_eq_true rfl⟩ (Nat.le_of_ble_eq_true rfl) ⟨rfl, rfl⟩ id ?_
  cases h
  exact V_iret (zdk tbX7_copy_0_ok 48 rfl) rfl rfl
def fX7_copy_b102 (n : Nat) (v0 : Nat) (μ : ZMem) : Option (ZMem × Int32) := bd2 (fX7_no n v0 (-3 : Int32) μ) (fun μ2 r3 => some (μ2, r3))
theorem tX7_copy_b102 {l : Launch} {fr : Bool} {n : Nat} {z : ZMem × Int32} (v0 : Nat) (μ : ZMem) (c_v0 : isC n 7 v0 = true) (h : fX7_copy_b102 n v0 μ = some z) : V (zkI l mX7_copy (rmd 2) fr n z) fr 102 [(0, .ref v0)] [] n μ := by
  unfold fX7_copy_b102 at h
  refine V_aload_n 0 (zdk tbX7_copy_1_ok 9 rfl) rfl ?_
  refine V_bipush (v := (-3)) (zdk tbX7_copy_1_ok 10 rfl) rfl ?_
  obtain ⟨μ2, r3, q1, h⟩ := bd2_some h
  refine V_callV (R1 := (rmd 1)) (As := [.int (-3 : Int32)]) (r := (some (.int r3))) (zdk tbX7_copy_1_ok 11 rfl) sC7_106 (tX7_no q1) (c_v0) rfl rfl rfl ⟨Nat.le_of_ble_eq_true rfl, Nat.le_of_ble_eq_true rfl⟩ (Nat.le_of_ble_eq_true rfl) ⟨rfl, rfl⟩ id ?_
  cases h
  exact V_iret (zdk tbX7_copy_1_ok 12 rfl) rfl rfl
def fX7_copy_b157 (n : Nat) (v0 : Nat) (μ : ZMem) : Option (ZMem × Int32) := bd2 (fX7_no n v0 (-5 : Int32) μ) (fun μ2 r3 => some (μ2, r3))
theorem tX7_copy_b157 {l : Launch} {fr : Bool} {n : Nat} {z : ZMem × Int32} (v0 : Nat) (μ : ZMem) (c_v0 : isC n 7 v0 = true) (h : fX7_copy_b157 n v0 μ = some z) : V (zkI l mX7_copy (rmd 2) fr n z) fr 157 [(0, .ref v0)] [] n μ := by
  unfold fX7_copy_b157 at h
  refine V_aload_n 0 (zdk tbX7_copy_1_ok 39 rfl) rfl ?_
  refine V_bipush (v := (-5)) (zdk tbX7_copy_1_ok 40 rfl) rfl ?_
  obtain ⟨μ2, r3, q1, h⟩ := bd2_some h
  refine V_callV (R1 := (rmd 1)) (As := [.int (-5 : Int32)]) (r := (some (.int r3))) (zdk tbX7_copy_1_ok 41 rfl) sC7_106 (tX7_no q1) (c_v0) rfl rfl rfl ⟨Nat.le_of_ble_eq_true rfl, Nat.le_of_ble_eq_true rfl⟩ (Nat.le_of_ble_eq_true rfl) ⟨rfl, rfl⟩ id ?_
  cases h
  exact V_iret (zdk tbX7_copy_1_ok 42 rfl) rfl rfl
def fX7_copy_b205 (n : Nat) : Nat → Nat → Int32 → Int32 → Int32 → Int32 → ZMem → Option (ZMem × Int32)
  | 0, _, _, _, _, _, _ => none
  | k + 1, v0, v2, v4, v5, v6, μ => (if v5 ≤ v6 then some (μ, (1 : Int32)) else bd1 (zRc n 101 μ v0 19) (fun r2 => bd1 (zRc n 101 μ v0 20) (fun r4 => chk (inb v6 r4) (chk (inb ((((160 : Int32) * v2) + v4) + v6) r2) (lt (zpL μ r2 ((((160 : Int32) * v2) + v4) + v6).toNatClampNeg (zL μ r4 v6.toNatClampNeg)) (fun μ8 => (fX7_copy_b205 n k v0 v2 v4 v5 (v6 + (1 : Int32)) μ8)))))))
theorem tX7_copy_b205 {l : Launch} {fr : Bool} {n : Nat} {z : ZMem × Int32} : ∀ (k : Nat) (v0 : Nat) (v2 : Int32) (v4 : Int32) (v5 : Int32) (v6 : Int32) (μ : ZMem) (c_v0 : isC n 7 v0 = true), fX7_copy_b205 n k v0 v2 v4 v5 v6 μ = some z → V (zkI l mX7_copy (rmd 2) fr n z) fr 205 [(0, .ref v0), (2, .int v2), (4, .int v4), (5, .int v5), (6, .int v6)] [] n μ := by
  intro k
  induction k with
  | zero =>
    intro v0 v2 v4 v5 v6 μ c_v0 h
    unfold fX7_copy_b205 at h
    cases h
  | succ k ih =>
    intro v0 v2 v4 v5 v6 μ c_v0 h
    unfold fX7_copy_b205 at h
    refine V_iload 4 (zdk tbX7_copy_2_ok 16 rfl) rfl ?_
    refine V_iload 3 (zdk tbX7_copy_2_ok 17 rfl) rfl ?_
    refine V_icmp_ge (tgt := 241) (zdk tbX7_copy_2_ok 18 rfl) (by decide) (fun c1 => ?_) (fun c1 => ?_)
    · replace h := ite_t h c1
      refine V_iconst (v := 1) (zdk tbX7_copy_2_ok 35 rfl) rfl ?_
      cases h
      exact V_iret (zdk tbX7_copy_2_ok 36 rfl) rfl rfl
    · replace h := ite_f h c1
      refine V_aload_n 0 (zdk tbX7_copy_2_ok 19 rfl) rfl ?_
      obtain ⟨r2, q3, h⟩ := bd1_some h
      obtain ⟨q3, c_r2⟩ := zRc_some q3
      refine V_getR (zdk tbX7_copy_2_ok 20 rfl) c_v0 fF7_59 rfl q3 ?_
      refine V_sipush (v := 160) (zdk tbX7_copy_2_ok 21 rfl) rfl ?_
      refine V_iload_n 1 (zdk tbX7_copy_2_ok 22 rfl) rfl ?_
      refine V_imul (zdk tbX7_copy_2_ok 23 rfl) ?_
      refine V_iload 2 (zdk tbX7_copy_2_ok 24 rfl) rfl ?_
      refine V_iadd (zdk tbX7_copy_2_ok 25 rfl) ?_
      refine V_iload 4 (zdk tbX7_copy_2_ok 26 rfl) rfl ?_
      refine V_iadd (zdk tbX7_copy_2_ok 27 rfl) ?_
      refine V_aload_n 0 (zdk tbX7_copy_2_ok 28 rfl) rfl ?_
      obtain ⟨r4, q5, h⟩ := bd1_some h
      obtain ⟨q5, c_r4⟩ := zRc_some q5
      refine V_getR (zdk tbX7_copy_2_ok 29 rfl) c_v0 fF7_63 rfl q5 ?_
      refine V_iload 4 (zdk tbX7_copy_2_ok 30 rfl) rfl ?_
      obtain ⟨b6, h⟩ := chk_some h
      refine V_lald (zdk tbX7_copy_2_ok 31 rfl) c_r4 b6 ?_
      obtain ⟨b7, h⟩ := chk_some h
      obtain ⟨μ8, e9, h⟩ := lt_some h
      refine V_last (zdk tbX7_copy_2_ok 32 rfl) c_r2 b7 e9 ?_
      refine V_inc (dx := 1) (ls' := [(0, .ref v0), (2, .int v2), (4, .int v4), (5, .int v5), (6, .int (v6 + (1 : Int32)))]) 4 [1, 2, 3, 4, 0] (zdk tbX7_copy_2_ok 33 rfl) rfl (Nat.le_of_ble_eq_true rfl) rfl rfl ?_
      refine V_goto (tgt := 205) (zdk tbX7_copy_2_ok 34 rfl) (by decide) ?_
      exact ih v0 v2 v4 v5 (v6 + (1 : Int32)) μ8 c_v0 h
def fX7_copy_b167 (n : Nat) : Nat → Nat → Int32 → Int32 → Int32 → Int32 → Int32 → Int32 → ZMem → Option (ZMem × Int32)
  | 0, _, _, _, _, _, _, _, _ => none
  | k + 1, v0, v1, v2, v3, v4, v5, v6, μ => (if v5 ≤ v6 then (fX7_copy_b205 n FU v0 v2 v4 v5 (0 : Int32) μ) else bd1 (zRc n 101 μ v0 20) (fun r2 => bd1 (zRc n 101 μ v0 19) (fun r4 => chk (inb ((((160 : Int32) * v1) + v3) + v6) r4) (chk (inb v6 r2) (lt (zpL μ r2 v6.toNatClampNeg (zL μ r4 ((((160 : Int32) * v1) + v3) + v6).toNatClampNeg)) (fun μ8 => (fX7_copy_b167 n k v0 v1 v2 v3 v4 v5 (v6 + (1 : Int32)) μ8)))))))
theorem tX7_copy_b167 {l : Launch} {fr : Bool} {n : Nat} {z : ZMem × Int32} : ∀ (k : Nat) (v0 : Nat) (v1 : Int32) (v2 : Int32) (v3 : Int32) (v4 : Int32) (v5 : Int32) (v6 : Int32) (μ : ZMem) (c_v0 : isC n 7 v0 = true), fX7_copy_b167 n k v0 v1 v2 v3 v4 v5 v6 μ = some z → V (zkI l mX7_copy (rmd 2) fr n z) fr 167 [(0, .ref v0), (1, .int v1), (2, .int v2), (3, .int v3), (4, .int v4), (5, .int v5), (6, .int v6)] [] n μ := by
  intro k
  induction k with
  | zero =>
    intro v0 v1 v2 v3 v4 v5 v6 μ c_v0 h
    unfold fX7_copy_b167 at h
    cases h
  | succ k ih =>
    intro v0 v1 v2 v3 v4 v5 v6 μ c_v0 h
    unfold fX7_copy_b167 at h
    refine V_iload 6 (zdk tbX7_copy_1_ok 45 rfl) rfl ?_
    refine V_iload 5 (zdk tbX7_copy_1_ok 46 rfl) rfl ?_
    refine V_icmp_ge (tgt := 202) (zdk tbX7_copy_1_ok 47 rfl) (by decide) (fun c1 => ?_) (fun c1 => ?_)
    · replace h := ite_t h c1
      refine V_iconst (v := 0) (zdk tbX7_copy_2_ok 14 rfl) rfl ?_
      refine V_istore (ls' := [(0, .ref v0), (2, .int v2), (4, .int v4), (5, .int v5), (6, .int (0 : Int32))]) [1, 3, 5, 6, 0] (zdk tbX7_copy_2_ok 15 rfl) (Nat.le_of_ble_eq_true rfl) rfl ?_
      exact tX7_copy_b205 FU v0 v2 v4 v5 (0 : Int32) μ c_v0 h
    · replace h := ite_f h c1
      refine V_aload_n 0 (zdk tbX7_copy_1_ok 48 rfl) rfl ?_
      obtain ⟨r2, q3, h⟩ := bd1_some h
      obtain ⟨q3, c_r2⟩ := zRc_some q3
      refine V_getR (zdk tbX7_copy_1_ok 49 rfl) c_v0 fF7_63 rfl q3 ?_
      refine V_iload 6 (zdk tbX7_copy_2_ok 0 rfl) rfl ?_
      refine V_aload_n 0 (zdk tbX7_copy_2_ok 1 rfl) rfl ?_
      obtain ⟨r4, q5, h⟩ := bd1_some h
      obtain ⟨q5, c_r4⟩ := zRc_some q5
      refine V_getR (zdk tbX7_copy_2_ok 2 rfl) c_v0 fF7_59 rfl q5 ?_
      refine V_sipush (v := 160) (zdk tbX7_copy_2_ok 3 rfl) rfl ?_
      refine V_iload_n 1 (zdk tbX7_copy_2_ok 4 rfl) rfl ?_
      refine V_imul (zdk tbX7_copy_2_ok 5 rfl) ?_
      refine V_iload_n 3 (zdk tbX7_copy_2_ok 6 rfl) rfl ?_
      refine V_iadd (zdk tbX7_copy_2_ok 7 rfl) ?_
      refine V_iload 6 (zdk tbX7_copy_2_ok 8 rfl) rfl ?_
      refine V_iadd (zdk tbX7_copy_2_ok 9 rfl) ?_
      obtain ⟨b6, h⟩ := chk_some h
      refine V_lald (zdk tbX7_copy_2_ok 10 rfl) c_r4 b6 ?_
      obtain ⟨b7, h⟩ := chk_some h
      obtain ⟨μ8, e9, h⟩ := lt_some h
      refine V_last (zdk tbX7_copy_2_ok 11 rfl) c_r2 b7 e9 ?_
      refine V_inc (dx := 1) (ls' := [(0, .ref v0), (1, .int v1), (2, .int v2), (3, .int v3), (4, .int v4), (5, .int v5), (6, .int (v6 + (1 : Int32)))]) 6 [1, 2, 3, 4, 5, 6, 0] (zdk tbX7_copy_2_ok 12 rfl) rfl (Nat.le_of_ble_eq_true rfl) rfl rfl ?_
      refine V_goto (tgt := 167) (zdk tbX7_copy_2_ok 13 rfl) (by decide) ?_
      exact ih v0 v1 v2 v3 v4 v5 (v6 + (1 : Int32)) μ8 c_v0 h
def fX7_copy_b84 (n : Nat) (v0 : Nat) (v1 : Int32) (v2 : Int32) (v3 : Int32) (v4 : Int32) (v5 : Int32) (μ : ZMem) : Option (ZMem × Int32) := bd1 (zRc n 100 μ v0 15) (fun r1 => chk (inb v1 r1) ((if (zI μ r1 v1.toNatClampNeg) = 0 then (fX7_copy_b102 n v0 μ) else bd1 (zRc n 100 μ v0 15) (fun r5 => chk (inb v2 r5) ((if (zI μ r5 v2.toNatClampNeg) = 0 then (fX7_copy_b102 n v0 μ) else (if 0 ≤ v5 then (if v3 < 0 then (fX7_copy_b157 n v0 μ) else (if v4 < 0 then (fX7_copy_b157 n v0 μ) else bd1 (zRc n 100 μ v0 17) (fun r12 => chk (inb v1 r12) ((if ((zI μ r12 v1.toNatClampNeg) - v5) < v3 then (fX7_copy_b157 n v0 μ) else bd1 (zRc n 100 μ v0 17) (fun r16 => chk (inb v2 r16) ((if v4 ≤ ((zI μ r16 v2.toNatClampNeg) - v5) then (fX7_copy_b167 n FU v0 v1 v2 v3 v4 v5 (0 : Int32) μ) else (fX7_copy_b157 n v0 μ))))))))) else bd2 (fX7_no n v0 (-4 : Int32) μ) (fun μ21 r22 => some (μ21, r22)))))))))
theorem tX7_copy_b84 {l : Launch} {fr : Bool} {n : Nat} {z : ZMem × Int32} (v0 : Nat) (v1 : Int32) (v2 : Int32) (v3 : Int32) (v4 : Int32) (v5 : Int32) (μ : ZMem) (c_v0 : isC n 7 v0 = true) (h : fX7_copy_b84 n v0 v1 v2 v3 v4 v5 μ = some z) : V (zkI l mX7_copy (rmd 2) fr n z) fr 84 [(0, .ref v0), (1, .int v1), (2, .int v2), (3, .int v3), (4, .int v4), (5, .int v5)] [] n μ := by
  unfold fX7_copy_b84 at h
  refine V_aload_n 0 (zdk tbX7_copy_0_ok 49 rfl) rfl ?_
  obtain ⟨r1, q2, h⟩ := bd1_some h
  obtain ⟨q2, c_r1⟩ := zRc_some q2
  refine V_getR (zdk tbX7_copy_1_ok 0 rfl) c_v0 fF7_47 rfl q2 ?_
  refine V_iload_n 1 (zdk tbX7_copy_1_ok 1 rfl) rfl ?_
  obtain ⟨b3, h⟩ := chk_some h
  refine V_iald (zdk tbX7_copy_1_ok 2 rfl) c_r1 b3 ?_
  refine V_if_eq (tgt := 102) (zdk tbX7_copy_1_ok 3 rfl) (by decide) (fun c4 => ?_) (fun c4 => ?_)
  · replace h := ite_t h c4
    refine V_sub (ls' := [(0, .ref v0)]) [0] rfl ?_
    exact tX7_copy_b102 v0 μ c_v0 h
  · replace h := ite_f h c4
    refine V_aload_n 0 (zdk tbX7_copy_1_ok 4 rfl) rfl ?_
    obtain ⟨r5, q6, h⟩ := bd1_some h
    obtain ⟨q6, c_r5⟩ := zRc_some q6
    refine V_getR (zdk tbX7_copy_1_ok 5 rfl) c_v0 fF7_47 rfl q6 ?_
    refine V_iload_n 2 (zdk tbX7_copy_1_ok 6 rfl) rfl ?_
    obtain ⟨b7, h⟩ := chk_some h
    refine V_iald (zdk tbX7_copy_1_ok 7 rfl) c_r5 b7 ?_
    refine V_if_ne (tgt := 109) (zdk tbX7_copy_1_ok 8 rfl) (by decide) (fun c8 => ?_) (fun c8 => ?_)
    · replace h := ite_f h c8
      refine V_iload 5 (zdk tbX7_copy_1_ok 13 rfl) rfl ?_
      refine V_if_ge (tgt := 121) (zdk tbX7_copy_1_ok 14 rfl) (by decide) (fun c9 => ?_) (fun c9 => ?_)
      · replace h := ite_t h c9
        refine V_iload_n 3 (zdk tbX7_copy_1_ok 19 rfl) rfl ?_
        refine V_if_lt (tgt := 157) (zdk tbX7_copy_1_ok 20 rfl) (by decide) (fun c10 => ?_) (fun c10 => ?_)
        · replace h := ite_t h c10
          refine V_sub (ls' := [(0, .ref v0)]) [0] rfl ?_
          exact tX7_copy_b157 v0 μ c_v0 h
        · replace h := ite_f h c10
          refine V_iload 4 (zdk tbX7_copy_1_ok 21 rfl) rfl ?_
          refine V_if_lt (tgt := 157) (zdk tbX7_copy_1_ok 22 rfl) (by decide) (fun c11 => ?_) (fun c11 => ?_)
          · replace h := ite_t h c11
            refine V_sub (ls' := [(0, .ref v0)]) [0] rfl ?_
            exact tX7_copy_b157 v0 μ c_v0 h
          · replace h := ite_f h c11
            refine V_iload_n 3 (zdk tbX7_copy_1_ok 23 rfl) rfl ?_
            refine V_aload_n 0 (zdk tbX7_copy_1_ok 24 rfl) rfl ?_
            obtain ⟨r12, q13, h⟩ := bd1_some h
            obtain ⟨q13, c_r12⟩ := zRc_some q13
            refine V_getR (zdk tbX7_copy_1_ok 25 rfl) c_v0 fF7_53 rfl q13 ?_
            refine V_iload_n 1 (zdk tbX7_copy_1_ok 26 rfl) rfl ?_
            obtain ⟨b14, h⟩ := chk_some h
            refine V_iald (zdk tbX7_copy_1_ok 27 rfl) c_r12 b14 ?_
            refine V_iload 5 (zdk tbX7_copy_1_ok 28 rfl) rfl ?_
            refine V_isub (zdk tbX7_copy_1_ok 29 rfl) ?_
            refine V_icmp_gt (tgt := 157) (zdk tbX7_copy_1_ok 30 rfl) (by decide) (fun c15 => ?_) (fun c15 => ?_)
            · replace h := ite_t h c15
              refine V_sub (ls' := [(0, .ref v0)]) [0] rfl ?_
              exact tX7_copy_b157 v0 μ c_v0 h
            · replace h := ite_f h c15
              refine V_iload 4 (zdk tbX7_copy_1_ok 31 rfl) rfl ?_
              refine V_aload_n 0 (zdk tbX7_copy_1_ok 32 rfl) rfl ?_
              obtain ⟨r16, q17, h⟩ := bd1_some h
              obtain ⟨q17, c_r16⟩ := zRc_some q17
              refine V_getR (zdk tbX7_copy_1_ok 33 rfl) c_v0 fF7_53 rfl q17 ?_
              refine V_iload_n 2 (zdk tbX7_copy_1_ok 34 rfl) rfl ?_
              obtain ⟨b18, h⟩ := chk_some h
              refine V_iald (zdk tbX7_copy_1_ok 35 rfl) c_r16 b18 ?_
              refine V_iload 5 (zdk tbX7_copy_1_ok 36 rfl) rfl ?_
              refine V_isub (zdk tbX7_copy_1_ok 37 rfl) ?_
              refine V_icmp_le (tgt := 164) (zdk tbX7_copy_1_ok 38 rfl) (by decide) (fun c19 => ?_) (fun c19 => ?_)
              · replace h := ite_t h c19
                refine V_iconst (v := 0) (zdk tbX7_copy_1_ok 43 rfl) rfl ?_
                refine V_istore (ls' := [(0, .ref v0), (1, .int v1), (2, .int v2), (3, .int v3), (4, .int v4), (5, .int v5), (6, .int (0 : Int32))]) [1, 2, 3, 4, 5, 6, 0] (zdk tbX7_copy_1_ok 44 rfl) (Nat.le_of_ble_eq_true rfl) rfl ?_
                exact tX7_copy_b167 FU v0 v1 v2 v3 v4 v5 (0 : Int32) μ c_v0 h
              · replace h := ite_f h c19
                refine V_sub (ls' := [(0, .ref v0)]) [0] rfl ?_
                exact tX7_copy_b157 v0 μ c_v0 h
      · replace h := ite_f h c9
        refine V_aload_n 0 (zdk tbX7_copy_1_ok 15 rfl) rfl ?_
        refine V_bipush (v := (-4)) (zdk tbX7_copy_1_ok 16 rfl) rfl ?_
        obtain ⟨μ21, r22, q20, h⟩ := bd2_some h
        refine V_callV (R1 := (rmd 1)) (As := [.int (-4 : Int32)]) (r := (some (.int r22))) (zdk tbX7_copy_1_ok 17 rfl) sC7_106 (tX7_no q20) (c_v0) rfl rfl rfl ⟨Nat.le_of_ble_eq_true rfl, Nat.le_of_ble_eq_true rfl⟩ (Nat.le_of_ble_eq_true rfl) ⟨rfl, rfl⟩ id ?_
        cases h
        exact V_iret (zdk tbX7_copy_1_ok 18 rfl) rfl rfl
    · replace h := ite_t h c8
      refine V_sub (ls' := [(0, .ref v0)]) [0] rfl ?_
      exact tX7_copy_b102 v0 μ c_v0 h
def fX7_copy (n : Nat) (v0 : Nat) (v1 : Int32) (v2 : Int32) (v3 : Int32) (v4 : Int32) (v5 : Int32) (μ : ZMem) : Option (ZMem × Int32) := chk (isC n 7 v0) (bd2 (fX7_isShelf n v0 v1 μ) (fun μ2 r3 => (if r3 = 0 then (fX7_copy_b16 n v0 μ2) else bd2 (fX7_isShelf n v0 v2 μ2) (fun μ6 r7 => (if r7 = 0 then (fX7_copy_b16 n v0 μ6) else bd1 (zRc n 100 μ6 v0 15) (fun r9 => chk (inb v1 r9) ((if (zI μ6 r9 v1.toNatClampNeg) = (2 : Int32) then (fX7_copy_b77 n v0 μ6) else bd1 (zRc n 100 μ6 v0 15) (fun r13 => chk (inb v2 r13) ((if (zI μ6 r13 v2.toNatClampNeg) = (2 : Int32) then (fX7_copy_b77 n v0 μ6) else bd1 (zRc n 100 μ6 v0 15) (fun r17 => chk (inb v1 r17) ((if (zI μ6 r17 v1.toNatClampNeg) = (1 : Int32) then bd1 (zRc n 100 μ6 v0 15) (fun r21 => chk (inb v2 r21) ((if (zI μ6 r21 v2.toNatClampNeg) = (1 : Int32) then bd1 (zRc n 100 μ6 v0 16) (fun r25 => chk (inb v1 r25) (bd1 (zRc n 100 μ6 v0 16) (fun r28 => chk (inb v2 r28) ((if (zI μ6 r25 v1.toNatClampNeg) = (zI μ6 r28 v2.toNatClampNeg) then (fX7_copy_b84 n v0 v1 v2 v3 v4 v5 μ6) else (fX7_copy_b77 n v0 μ6)))))) else (fX7_copy_b84 n v0 v1 v2 v3 v4 v5 μ6)))) else (fX7_copy_b84 n v0 v1 v2 v3 v4 v5 μ6)))))))))))))))
theorem tX7_copy {l : Launch} {fr : Bool} {n : Nat} {v0 : Nat} {v1 : Int32} {v2 : Int32} {v3 : Int32} {v4 : Int32} {v5 : Int32} {μ : ZMem} {z : ZMem × Int32} (h : fX7_copy n v0 v1 v2 v3 v4 v5 μ = some z) : ZFn l mX7_copy (rmd 2) [.ref v0, .int v1, .int v2, .int v3, .int v4, .int v5] fr n μ (fr, n, z.1, some (.int z.2)) := by
  unfold fX7_copy at h
  obtain ⟨c_v0, h⟩ := chk_some h
  refine ZFn.of (ls := [(0, .ref v0), (1, .int v1), (2, .int v2), (3, .int v3), (4, .int v4), (5, .int v5)]) (by decide) (fun ξ => Nat.le_of_ble_eq_true rfl) (fun ξ => rfl) ?_
  refine V_aload_n 0 (zdk tbX7_copy_0_ok 0 rfl) rfl ?_
  refine V_iload_n 1 (zdk tbX7_copy_0_ok 1 rfl) rfl ?_
  obtain ⟨μ2, r3, q1, h⟩ := bd2_some h
  refine V_callV (R1 := (rmd 1)) (As := [.int v1]) (r := (some (.int r3))) (zdk tbX7_copy_0_ok 2 rfl) sC7_102 (tX7_isShelf q1) (c_v0) rfl rfl rfl ⟨Nat.le_of_ble_eq_true rfl, Nat.le_of_ble_eq_true rfl⟩ (Nat.le_of_ble_eq_true rfl) ⟨rfl, rfl⟩ id ?_
  refine V_if_eq (tgt := 16) (zdk tbX7_copy_0_ok 3 rfl) (by decide) (fun c4 => ?_) (fun c4 => ?_)
  · replace h := ite_t h c4
    refine V_sub (ls' := [(0, .ref v0)]) [0] rfl ?_
    exact tX7_copy_b16 v0 μ2 c_v0 h
  · replace h := ite_f h c4
    refine V_aload_n 0 (zdk tbX7_copy_0_ok 4 rfl) rfl ?_
    refine V_iload_n 2 (zdk tbX7_copy_0_ok 5 rfl) rfl ?_
    obtain ⟨μ6, r7, q5, h⟩ := bd2_some h
    refine V_callV (R1 := (rmd 1)) (As := [.int v2]) (r := (some (.int r7))) (zdk tbX7_copy_0_ok 6 rfl) sC7_102 (tX7_isShelf q5) (c_v0) rfl rfl rfl ⟨Nat.le_of_ble_eq_true rfl, Nat.le_of_ble_eq_true rfl⟩ (Nat.le_of_ble_eq_true rfl) ⟨rfl, rfl⟩ id ?_
    refine V_if_ne (tgt := 22) (zdk tbX7_copy_0_ok 7 rfl) (by decide) (fun c8 => ?_) (fun c8 => ?_)
    · replace h := ite_f h c8
      refine V_aload_n 0 (zdk tbX7_copy_0_ok 12 rfl) rfl ?_
      obtain ⟨r9, q10, h⟩ := bd1_some h
      obtain ⟨q10, c_r9⟩ := zRc_some q10
      refine V_getR (zdk tbX7_copy_0_ok 13 rfl) c_v0 fF7_47 rfl q10 ?_
      refine V_iload_n 1 (zdk tbX7_copy_0_ok 14 rfl) rfl ?_
      obtain ⟨b11, h⟩ := chk_some h
      refine V_iald (zdk tbX7_copy_0_ok 15 rfl) c_r9 b11 ?_
      refine V_iconst (v := 2) (zdk tbX7_copy_0_ok 16 rfl) rfl ?_
      refine V_icmp_eq (tgt := 77) (zdk tbX7_copy_0_ok 17 rfl) (by decide) (fun c12 => ?_) (fun c12 => ?_)
      · replace h := ite_t h c12
        refine V_sub (ls' := [(0, .ref v0)]) [0] rfl ?_
        exact tX7_copy_b77 v0 μ6 c_v0 h
      · replace h := ite_f h c12
        refine V_aload_n 0 (zdk tbX7_copy_0_ok 18 rfl) rfl ?_
        obtain ⟨r13, q14, h⟩ := bd1_some h
        obtain ⟨q14, c_r13⟩ := zRc_some q14
        refine V_getR (zdk tbX7_copy_0_ok 19 rfl) c_v0 fF7_47 rfl q14 ?_
        refine V_iload_n 2 (zdk tbX7_copy_0_ok 20 rfl) rfl ?_
        obtain ⟨b15, h⟩ := chk_some h
        refine V_iald (zdk tbX7_copy_0_ok 21 rfl) c_r13 b15 ?_
        refine V_iconst (v := 2) (zdk tbX7_copy_0_ok 22 rfl) rfl ?_
        refine V_icmp_eq (tgt := 77) (zdk tbX7_copy_0_ok 23 rfl) (by decide) (fun c16 => ?_) (fun c16 => ?_)
        · replace h := ite_t h c16
          refine V_sub (ls' := [(0, .ref v0)]) [0] rfl ?_
          exact tX7_copy_b77 v0 μ6 c_v0 h
        · replace h := ite_f h c16
          refine V_aload_n 0 (zdk tbX7_copy_0_ok 24 rfl) rfl ?_
          obtain ⟨r17, q18, h⟩ := bd1_some h
          obtain ⟨q18, c_r17⟩ := zRc_some q18
          refine V_getR (zdk tbX7_copy_0_ok 25 rfl) c_v0 fF7_47 rfl q18 ?_
          refine V_iload_n 1 (zdk tbX7_copy_0_ok 26 rfl) rfl ?_
          obtain ⟨b19, h⟩ := chk_some h
          refine V_iald (zdk tbX7_copy_0_ok 27 rfl) c_r17 b19 ?_
          refine V_iconst (v := 1) (zdk tbX7_copy_0_ok 28 rfl) rfl ?_
          refine V_icmp_ne (tgt := 84) (zdk tbX7_copy_0_ok 29 rfl) (by decide) (fun c20 => ?_) (fun c20 => ?_)
          · replace h := ite_f h c20
            exact tX7_copy_b84 v0 v1 v2 v3 v4 v5 μ6 c_v0 h
          · replace h := ite_t h c20
            refine V_aload_n 0 (zdk tbX7_copy_0_ok 30 rfl) rfl ?_
            obtain ⟨r21, q22, h⟩ := bd1_some h
            obtain ⟨q22, c_r21⟩ := zRc_some q22
            refine V_getR (zdk tbX7_copy_0_ok 31 rfl) c_v0 fF7_47 rfl q22 ?_
            refine V_iload_n 2 (zdk tbX7_copy_0_ok 32 rfl) rfl ?_
            obtain ⟨b23, h⟩ := chk_some h
            refine V_iald (zdk tbX7_copy_0_ok 33 rfl) c_r21 b23 ?_
            refine V_iconst (v := 1) (zdk tbX7_copy_0_ok 34 rfl) rfl ?_
            refine V_icmp_ne (tgt := 84) (zdk tbX7_copy_0_ok 35 rfl) (by decide) (fun c24 => ?_) (fun c24 => ?_)
            · replace h := ite_f h c24
              exact tX7_copy_b84 v0 v1 v2 v3 v4 v5 μ6 c_v0 h
            · replace h := ite_t h c24
              refine V_aload_n 0 (zdk tbX7_copy_0_ok 36 rfl) rfl ?_
              obtain ⟨r25, q26, h⟩ := bd1_some h
              obtain ⟨q26, c_r25⟩ := zRc_some q26
              refine V_getR (zdk tbX7_copy_0_ok 37 rfl) c_v0 fF7_50 rfl q26 ?_
              refine V_iload_n 1 (zdk tbX7_copy_0_ok 38 rfl) rfl ?_
              obtain ⟨b27, h⟩ := chk_some h
              refine V_iald (zdk tbX7_copy_0_ok 39 rfl) c_r25 b27 ?_
              refine V_aload_n 0 (zdk tbX7_copy_0_ok 40 rfl) rfl ?_
              obtain ⟨r28, q29, h⟩ := bd1_some h
              obtain ⟨q29, c_r28⟩ := zRc_some q29
              refine V_getR (zdk tbX7_copy_0_ok 41 rfl) c_v0 fF7_50 rfl q29 ?_
              refine V_iload_n 2 (zdk tbX7_copy_0_ok 42 rfl) rfl ?_
              obtain ⟨b30, h⟩ := chk_some h
              refine V_iald (zdk tbX7_copy_0_ok 43 rfl) c_r28 b30 ?_
              refine V_icmp_eq (tgt := 84) (zdk tbX7_copy_0_ok 44 rfl) (by decide) (fun c31 => ?_) (fun c31 => ?_)
              · replace h := ite_t h c31
                exact tX7_copy_b84 v0 v1 v2 v3 v4 v5 μ6 c_v0 h
              · replace h := ite_f h c31
                refine V_sub (ls' := [(0, .ref v0)]) [0] rfl ?_
                exact tX7_copy_b77 v0 μ6 c_v0 h
    · replace h := ite_t h c8
      refine V_sub (ls' := [(0, .ref v0)]) [0] rfl ?_
      exact tX7_copy_b16 v0 μ6 c_v0 h

-- WhoComplainsCarriesModel.element
def tbX7_element_0 : List (Nat × Instr × Nat) := [(0, .aload_n 0, 1), (1, .iload_n 1, 1), (2, .invokevirtual 102, 3), (5, .ifCond .eq 42, 3), (8, .aload_n 0, 1), (9, .getfield 47, 3), (12, .iload_n 1, 1), (13, .iaload, 1), (14, .iconst 1, 1), (15, .if_icmp .ne 32, 3), (18, .iload_n 2, 1), (19, .ifCond .lt 28, 3), (22, .iload_n 2, 1), (23, .aload_n 0, 1), (24, .getfield 53, 3), (27, .iload_n 1, 1), (28, .iaload, 1), (29, .if_icmp .ge 18, 3), (32, .aload_n 0, 1), (33, .getfield 59, 3), (36, .sipush 160, 3), (39, .iload_n 1, 1), (40, .imul, 1), (41, .iload_n 2, 1), (42, .iadd, 1), (43, .laload, 1), (44, .goto 4, 3), (47, .lconst 0, 1), (48, .lreturn, 1)]
theorem tbX7_element_0_ok : ∀ q ∈ tbX7_element_0, decode cX7_element q.1 = .ok (q.2.1, q.2.2) := by decide +kernel
def fX7_element_b48 (n : Nat) (s0 : Int64) (μ : ZMem) : Option (ZMem × Int64) := some (μ, s0)
theorem tX7_element_b48 {l : Launch} {fr : Bool} {n : Nat} {z : ZMem × Int64} (s0 : Int64) (μ : ZMem) (h : fX7_element_b48 n s0 μ = some z) : V (zkJ l mX7_element (rmd 2) fr n z) fr 48 [] [.long s0] n μ := by
  unfold fX7_element_b48 at h
  cases h
  exact V_lret (zdk tbX7_element_0_ok 28 rfl) rfl rfl
def fX7_element_b47 (n : Nat) (μ : ZMem) : Option (ZMem × Int64) := (fX7_element_b48 n (0 : Int64) μ)
theorem tX7_element_b47 {l : Launch} {fr : Bool} {n : Nat} {z : ZMem × Int64} (μ : ZMem) (h : fX7_element_b47 n μ = some z) : V (zkJ l mX7_element (rmd 2) fr n z) fr 47 [] [] n μ := by
  unfold fX7_element_b47 at h
  refine V_lconst (v := 0) (zdk tbX7_element_0_ok 27 rfl) rfl ?_
  exact tX7_element_b48 (0 : Int64) μ  h
def fX7_element (n : Nat) (v0 : Nat) (v1 : Int32) (v2 : Int32) (μ : ZMem) : Option (ZMem × Int64) := chk (isC n 7 v0) (bd2 (fX7_isShelf n v0 v1 μ) (fun μ2 r3 => (if r3 = 0 then (fX7_element_b47 n  μ2) else bd1 (zRc n 100 μ2 v0 15) (fun r5 => chk (inb v1 r5) ((if (zI μ2 r5 v1.toNatClampNeg) = (1 : Int32) then (if v2 < 0 then (fX7_element_b47 n  μ2) else bd1 (zRc n 100 μ2 v0 17) (fun r10 => chk (inb v1 r10) ((if (zI μ2 r10 v1.toNatClampNeg) ≤ v2 then (fX7_element_b47 n  μ2) else bd1 (zRc n 101 μ2 v0 19) (fun r14 => chk (inb (((160 : Int32) * v1) + v2) r14) ((fX7_element_b48 n (zL μ2 r14 (((160 : Int32) * v1) + v2).toNatClampNeg) μ2))))))) else (fX7_element_b47 n  μ2)))))))
theorem tX7_element {l : Launch} {fr : Bool} {n : Nat} {v0 : Nat} {v1 : Int32} {v2 : Int32} {μ : ZMem} {z : ZMem × Int64} (h : fX7_element n v0 v1 v2 μ = some z) : ZFn l mX7_element (rmd 2) [.ref v0, .int v1, .int v2] fr n μ (fr, n, z.1, some (.long z.2)) := by
  unfold fX7_element at h
  obtain ⟨c_v0, h⟩ := chk_some h
  refine ZFn.of (ls := [(0, .ref v0), (1, .int v1), (2, .int v2)]) (by decide) (fun ξ => Nat.le_of_ble_eq_true rfl) (fun ξ => rfl) ?_
  refine V_aload_n 0 (zdk tbX7_element_0_ok 0 rfl) rfl ?_
  refine V_iload_n 1 (zdk tbX7_element_0_ok 1 rfl) rfl ?_
  obtain ⟨μ2, r3, q1, h⟩ := bd2_some h
  refine V_callV (R1 := (rmd 1)) (As := [.int v1]) (r := (some (.int r3))) (zdk tbX7_element_0_ok 2 rfl) sC7_102 (tX7_isShelf q1) (c_v0) rfl rfl rfl ⟨Nat.le_of_ble_eq_true rfl, Nat.le_of_ble_eq_true rfl⟩ (Nat.le_of_ble_eq_true rfl) ⟨rfl, rfl⟩ id ?_
  refine V_if_eq (tgt := 47) (zdk tbX7_element_0_ok 3 rfl) (by decide) (fun c4 => ?_) (fun c4 => ?_)
  · replace h := ite_t h c4
    refine V_sub (ls' := []) [] rfl ?_
    exact tX7_element_b47  μ2  h
  · replace h := ite_f h c4
    refine V_aload_n 0 (zdk tbX7_element_0_ok 4 rfl) rfl ?_
    obtain ⟨r5, q6, h⟩ := bd1_some h
    obtain ⟨q6, c_r5⟩ := zRc_some q6
    refine V_getR (zdk tbX7_element_0_ok 5 rfl) c_v0 fF7_47 rfl q6 ?_
    refine V_iload_n 1 (zdk tbX7_element_0_ok 6 rfl) rfl ?_
    obtain ⟨b7, h⟩ := chk_some h
    refine V_iald (zdk tbX7_element_0_ok 7 rfl) c_r5 b7 ?_
    refine V_iconst (v := 1) (zdk tbX7_element_0_ok 8 rfl) rfl ?_
    refine V_icmp_ne (tgt := 47) (zdk tbX7_element_0_ok 9 rfl) (by decide) (fun c8 => ?_) (fun c8 => ?_)
    · replace h := ite_f h c8
      refine V_sub (ls' := []) [] rfl ?_
      exact tX7_element_b47  μ2  h
    · replace h := ite_t h c8
      refine V_iload_n 2 (zdk tbX7_element_0_ok 10 rfl) rfl ?_
      refine V_if_lt (tgt := 47) (zdk tbX7_element_0_ok 11 rfl) (by decide) (fun c9 => ?_) (fun c9 => ?_)
      · replace h := ite_t h c9
        refine V_sub (ls' := []) [] rfl ?_
        exact tX7_element_b47  μ2  h
      · replace h := ite_f h c9
        refine V_iload_n 2 (zdk tbX7_element_0_ok 12 rfl) rfl ?_
        refine V_aload_n 0 (zdk tbX7_element_0_ok 13 rfl) rfl ?_
        obtain ⟨r10, q11, h⟩ := bd1_some h
        obtain ⟨q11, c_r10⟩ := zRc_some q11
        refine V_getR (zdk tbX7_element_0_ok 14 rfl) c_v0 fF7_53 rfl q11 ?_
        refine V_iload_n 1 (zdk tbX7_element_0_ok 15 rfl) rfl ?_
        obtain ⟨b12, h⟩ := chk_some h
        refine V_iald (zdk tbX7_element_0_ok 16 rfl) c_r10 b12 ?_
        refine V_icmp_ge (tgt := 47) (zdk tbX7_element_0_ok 17 rfl) (by decide) (fun c13 => ?_) (fun c13 => ?_)
        · replace h := ite_t h c13
          refine V_sub (ls' := []) [] rfl ?_
          exact tX7_element_b47  μ2  h
        · replace h := ite_f h c13
          refine V_aload_n 0 (zdk tbX7_element_0_ok 18 rfl) rfl ?_
          obtain ⟨r14, q15, h⟩ := bd1_some h
          obtain ⟨q15, c_r14⟩ := zRc_some q15
          refine V_getR (zdk tbX7_element_0_ok 19 rfl) c_v0 fF7_59 rfl q15 ?_
          refine V_sipush (v := 160) (zdk tbX7_element_0_ok 20 rfl) rfl ?_
          refine V_iload_n 1 (zdk tbX7_element_0_ok 21 rfl) rfl ?_
          refine V_imul (zdk tbX7_element_0_ok 22 rfl) ?_
          refine V_iload_n 2 (zdk tbX7_element_0_ok 23 rfl) rfl ?_
          refine V_iadd (zdk tbX7_element_0_ok 24 rfl) ?_
          obtain ⟨b16, h⟩ := chk_some h
          refine V_lald (zdk tbX7_element_0_ok 25 rfl) c_r14 b16 ?_
          refine V_goto (tgt := 48) (zdk tbX7_element_0_ok 26 rfl) (by decide) ?_
          refine V_sub (ls' := []) [] rfl ?_
          exact tX7_element_b48 (zL μ2 r14 (((160 : Int32) * v1) + v2).toNatClampNeg) μ2  h

-- WhoComplainsCarriesModel.show
def tbX7_show_0 : List (Nat × Instr × Nat) := [(0, .aload_n 0, 1), (1, .iload_n 1, 1), (2, .invokevirtual 102, 3), (5, .ifCond .eq 16, 3), (8, .iload_n 2, 1), (9, .iconst (-1), 1), (10, .if_icmp .eq 17, 3), (13, .aload_n 0, 1), (14, .iload_n 2, 1), (15, .invokevirtual 110, 3), (18, .ifCond .ne 9, 3), (21, .aload_n 0, 1), (22, .iconst (-1), 1), (23, .invokevirtual 106, 3), (26, .ireturn, 1), (27, .aload_n 0, 1), (28, .getfield 47, 3), (31, .iload_n 1, 1), (32, .iload_n 2, 1), (33, .iconst (-1), 1), (34, .if_icmp .ne 7, 3), (37, .iconst 0, 1), (38, .goto 4, 3), (41, .iconst 2, 1), (42, .iastore, 1), (43, .aload_n 0, 1), (44, .getfield 56, 3), (47, .iload_n 1, 1), (48, .iload_n 2, 1), (49, .iastore, 1), (50, .iload_n 2, 1), (51, .iconst (-1), 1), (52, .if_icmp .ne 7, 3), (55, .iconst 0, 1), (56, .goto 4, 3), (59, .iconst 1, 1), (60, .ireturn, 1)]
theorem tbX7_show_0_ok : ∀ q ∈ tbX7_show_0, decode cX7_show q.1 = .ok (q.2.1, q.2.2) := by decide +kernel
theorem wCX7_isOne : zCW mX7_isOne 1 := ⟨zin (i := 8) (by decide +kernel) rfl, zin (i := 975) (by decide +kernel) rfl, by decide +kernel, by decide +kernel, by decide +kernel⟩
theorem sC7_110 : zCV RX7 110 mX7_isOne 1 := ⟨zin (i := 972) (by decide +kernel) rfl, zin (i := 974) (by decide +kernel) rfl, zinP (i := 31) (q := (yX7_isOne, 42)) (by decide +kernel) rfl, wCX7_isOne⟩
def fX7_show_b21 (n : Nat) (v0 : Nat) (μ : ZMem) : Option (ZMem × Int32) := bd2 (fX7_no n v0 (-1 : Int32) μ) (fun μ2 r3 => some (μ2, r3))
theorem tX7_show_b21 {l : Launch} {fr : Bool} {n : Nat} {z : ZMem × Int32} (v0 : Nat) (μ : ZMem) (c_v0 : isC n 7 v0 = true) (h : fX7_show_b21 n v0 μ = some z) : V (zkI l mX7_show (rmd 2) fr n z) fr 21 [(0, .ref v0)] [] n μ := by
  unfold fX7_show_b21 at h
  refine V_aload_n 0 (zdk tbX7_show_0_ok 11 rfl) rfl ?_
  refine V_iconst (v := (-1)) (zdk tbX7_show_0_ok 12 rfl) rfl ?_
  obtain ⟨μ2, r3, q1, h⟩ := bd2_some h
  refine V_callV (R1 := (rmd 1)) (As := [.int (-1 : Int32)]) (r := (some (.int r3))) (zdk tbX7_show_0_ok 13 rfl) sC7_106 (tX7_no q1) (c_v0) rfl rfl rfl ⟨Nat.le_of_ble_eq_true rfl, Nat.le_of_ble_eq_true rfl⟩ (Nat.le_of_ble_eq_true rfl) ⟨rfl, rfl⟩ id ?_
  cases h
  exact V_iret (zdk tbX7_show_0_ok 14 rfl) rfl rfl
def fX7_show_b60 (n : Nat) (s0 : Int32) (μ : ZMem) : Option (ZMem × Int32) := some (μ, s0)
theorem tX7_show_b60 {l : Launch} {fr : Bool} {n : Nat} {z : ZMem × Int32} (s0 : Int32) (μ : ZMem) (h : fX7_show_b60 n s0 μ = some z) : V (zkI l mX7_show (rmd 2) fr n z) fr 60 [] [.int s0] n μ := by
  unfold fX7_show_b60 at h
  cases h
  exact V_iret (zdk tbX7_show_0_ok 36 rfl) rfl rfl
def fX7_show_b42 (n : Nat) (v0 : Nat) (v1 : Int32) (v2 : Int32) (s0 : Nat) (s1 : Int32) (s2 : Int32) (μ : ZMem) : Option (ZMem × Int32) := chk (inb s1 s0) (lt (zpI μ s0 s1.toNatClampNeg s2) (fun μ2 => bd1 (zRc n 100 μ2 v0 18) (fun r4 => chk (inb v1 r4) (lt (zpI μ2 r4 v1.toNatClampNeg v2) (fun μ7 => (if v2 = (-1 : Int32) then (fX7_show_b60 n (0 : Int32) μ7) else (fX7_show_b60 n (1 : Int32) μ7)))))))
theorem tX7_show_b42 {l : Launch} {fr : Bool} {n : Nat} {z : ZMem × Int32} (v0 : Nat) (v1 : Int32) (v2 : Int32) (s0 : Nat) (s1 : Int32) (s2 : Int32) (μ : ZMem) (c_v0 : isC n 7 v0 = true) (c_s0 : isC n 100 s0 = true) (h : fX7_show_b42 n v0 v1 v2 s0 s1 s2 μ = some z) : V (zkI l mX7_show (rmd 2) fr n z) fr 42 [(0, .ref v0), (1, .int v1), (2, .int v2)] [.int s2, .int s1, .ref s0] n μ := by
  unfold fX7_show_b42 at h
  obtain ⟨b1, h⟩ := chk_some h
  obtain ⟨μ2, e3, h⟩ := lt_some h
  refine V_iast (zdk tbX7_show_0_ok 24 rfl) c_s0 b1 e3 ?_
  refine V_aload_n 0 (zdk tbX7_show_0_ok 25 rfl) rfl ?_
  obtain ⟨r4, q5, h⟩ := bd1_some h
  obtain ⟨q5, c_r4⟩ := zRc_some q5
  refine V_getR (zdk tbX7_show_0_ok 26 rfl) c_v0 fF7_56 rfl q5 ?_
  refine V_iload_n 1 (zdk tbX7_show_0_ok 27 rfl) rfl ?_
  refine V_iload_n 2 (zdk tbX7_show_0_ok 28 rfl) rfl ?_
  obtain ⟨b6, h⟩ := chk_some h
  obtain ⟨μ7, e8, h⟩ := lt_some h
  refine V_iast (zdk tbX7_show_0_ok 29 rfl) c_r4 b6 e8 ?_
  refine V_iload_n 2 (zdk tbX7_show_0_ok 30 rfl) rfl ?_
  refine V_iconst (v := (-1)) (zdk tbX7_show_0_ok 31 rfl) rfl ?_
  refine V_icmp_ne (tgt := 59) (zdk tbX7_show_0_ok 32 rfl) (by decide) (fun c9 => ?_) (fun c9 => ?_)
  · replace h := ite_f h c9
    refine V_iconst (v := 1) (zdk tbX7_show_0_ok 35 rfl) rfl ?_
    refine V_sub (ls' := []) [] rfl ?_
    exact tX7_show_b60 (1 : Int32) μ7  h
  · replace h := ite_t h c9
    refine V_iconst (v := 0) (zdk tbX7_show_0_ok 33 rfl) rfl ?_
    refine V_goto (tgt := 60) (zdk tbX7_show_0_ok 34 rfl) (by decide) ?_
    refine V_sub (ls' := []) [] rfl ?_
    exact tX7_show_b60 (0 : Int32) μ7  h
def fX7_show_b27 (n : Nat) (v0 : Nat) (v1 : Int32) (v2 : Int32) (μ : ZMem) : Option (ZMem × Int32) := bd1 (zRc n 100 μ v0 15) (fun r1 => (if v2 = (-1 : Int32) then (fX7_show_b42 n v0 v1 v2 r1 v1 (0 : Int32) μ) else (fX7_show_b42 n v0 v1 v2 r1 v1 (2 : Int32) μ)))
theorem tX7_show_b27 {l : Launch} {fr : Bool} {n : Nat} {z : ZMem × Int32} (v0 : Nat) (v1 : Int32) (v2 : Int32) (μ : ZMem) (c_v0 : isC n 7 v0 = true) (h : fX7_show_b27 n v0 v1 v2 μ = some z) : V (zkI l mX7_show (rmd 2) fr n z) fr 27 [(0, .ref v0), (1, .int v1), (2, .int v2)] [] n μ := by
  unfold fX7_show_b27 at h
  refine V_aload_n 0 (zdk tbX7_show_0_ok 15 rfl) rfl ?_
  obtain ⟨r1, q2, h⟩ := bd1_some h
  obtain ⟨q2, c_r1⟩ := zRc_some q2
  refine V_getR (zdk tbX7_show_0_ok 16 rfl) c_v0 fF7_47 rfl q2 ?_
  refine V_iload_n 1 (zdk tbX7_show_0_ok 17 rfl) rfl ?_
  refine V_iload_n 2 (zdk tbX7_show_0_ok 18 rfl) rfl ?_
  refine V_iconst (v := (-1)) (zdk tbX7_show_0_ok 19 rfl) rfl ?_
  refine V_icmp_ne (tgt := 41) (zdk tbX7_show_0_ok 20 rfl) (by decide) (fun c3 => ?_) (fun c3 => ?_)
  · replace h := ite_f h c3
    refine V_iconst (v := 2) (zdk tbX7_show_0_ok 23 rfl) rfl ?_
    exact tX7_show_b42 v0 v1 v2 r1 v1 (2 : Int32) μ c_v0 c_r1 h
  · replace h := ite_t h c3
    refine V_iconst (v := 0) (zdk tbX7_show_0_ok 21 rfl) rfl ?_
    refine V_goto (tgt := 42) (zdk tbX7_show_0_ok 22 rfl) (by decide) ?_
    exact tX7_show_b42 v0 v1 v2 r1 v1 (0 : Int32) μ c_v0 c_r1 h
def fX7_show (n : Nat) (v0 : Nat) (v1 : Int32) (v2 : Int32) (μ : ZMem) : Option (ZMem × Int32) := chk (isC n 7 v0) (bd2 (fX7_isShelf n v0 v1 μ) (fun μ2 r3 => (if r3 = 0 then (fX7_show_b21 n v0 μ2) else (if v2 = (-1 : Int32) then (fX7_show_b27 n v0 v1 v2 μ2) else bd2 (fX7_isOne n v0 v2 μ2) (fun μ7 r8 => (if r8 = 0 then (fX7_show_b21 n v0 μ7) else (fX7_show_b27 n v0 v1 v2 μ7)))))))
theorem tX7_show {l : Launch} {fr : Bool} {n : Nat} {v0 : Nat} {v1 : Int32} {v2 : Int32} {μ : ZMem} {z : ZMem × Int32} (h : fX7_show n v0 v1 v2 μ = some z) : ZFn l mX7_show (rmd 2) [.ref v0, .int v1, .int v2] fr n μ (fr, n, z.1, some (.int z.2)) := by
  unfold fX7_show at h
  obtain ⟨c_v0, h⟩ := chk_some h
  refine ZFn.of (ls := [(0, .ref v0), (1, .int v1), (2, .int v2)]) (by decide) (fun ξ => Nat.le_of_ble_eq_true rfl) (fun ξ => rfl) ?_
  refine V_aload_n 0 (zdk tbX7_show_0_ok 0 rfl) rfl ?_
  refine V_iload_n 1 (zdk tbX7_show_0_ok 1 rfl) rfl ?_
  obtain ⟨μ2, r3, q1, h⟩ := bd2_some h
  refine V_callV (R1 := (rmd 1)) (As := [.int v1]) (r := (some (.int r3))) (zdk tbX7_show_0_ok 2 rfl) sC7_102 (tX7_isShelf q1) (c_v0) rfl rfl rfl ⟨Nat.le_of_ble_eq_true rfl, Nat.le_of_ble_eq_true rfl⟩ (Nat.le_of_ble_eq_true rfl) ⟨rfl, rfl⟩ id ?_
  refine V_if_eq (tgt := 21) (zdk tbX7_show_0_ok 3 rfl) (by decide) (fun c4 => ?_) (fun c4 => ?_)
  · replace h := ite_t h c4
    refine V_sub (ls' := [(0, .ref v0)]) [0] rfl ?_
    exact tX7_show_b21 v0 μ2 c_v0 h
  · replace h := ite_f h c4
    refine V_iload_n 2 (zdk tbX7_show_0_ok 4 rfl) rfl ?_
    refine V_iconst (v := (-1)) (zdk tbX7_show_0_ok 5 rfl) rfl ?_
    refine V_icmp_eq (tgt := 27) (zdk tbX7_show_0_ok 6 rfl) (by decide) (fun c5 => ?_) (fun c5 => ?_)
    · replace h := ite_t h c5
      exact tX7_show_b27 v0 v1 v2 μ2 c_v0 h
    · replace h := ite_f h c5
      refine V_aload_n 0 (zdk tbX7_show_0_ok 7 rfl) rfl ?_
      refine V_iload_n 2 (zdk tbX7_show_0_ok 8 rfl) rfl ?_
      obtain ⟨μ7, r8, q6, h⟩ := bd2_some h
      refine V_callV (R1 := (rmd 1)) (As := [.int v2]) (r := (some (.int r8))) (zdk tbX7_show_0_ok 9 rfl) sC7_110 (tX7_isOne q6) (c_v0) rfl rfl rfl ⟨Nat.le_of_ble_eq_true rfl, Nat.le_of_ble_eq_true rfl⟩ (Nat.le_of_ble_eq_true rfl) ⟨rfl, rfl⟩ id ?_
      refine V_if_ne (tgt := 27) (zdk tbX7_show_0_ok 10 rfl) (by decide) (fun c9 => ?_) (fun c9 => ?_)
      · replace h := ite_f h c9
        exact tX7_show_b27 v0 v1 v2 μ7 c_v0 h
      · replace h := ite_t h c9
        refine V_sub (ls' := [(0, .ref v0)]) [0] rfl ?_
        exact tX7_show_b21 v0 μ7 c_v0 h

-- WhoComplainsCarriesModel.holds
def tbX7_holds_0 : List (Nat × Instr × Nat) := [(0, .aload_n 0, 1), (1, .iload_n 1, 1), (2, .invokevirtual 102, 3), (5, .ifCond .eq 12, 3), (8, .aload_n 0, 1), (9, .getfield 47, 3), (12, .iload_n 1, 1), (13, .iaload, 1), (14, .ifCond .ne 5, 3), (17, .iconst (-1), 1), (18, .ireturn, 1), (19, .aload_n 0, 1), (20, .getfield 47, 3), (23, .iload_n 1, 1), (24, .iaload, 1), (25, .iconst 1, 1), (26, .if_icmp .ne 15, 3), (29, .bipush 100, 2), (31, .aload_n 0, 1), (32, .getfield 50, 3), (35, .iload_n 1, 1), (36, .iaload, 1), (37, .iadd, 1), (38, .goto 9, 3), (41, .aload_n 0, 1), (42, .getfield 56, 3), (45, .iload_n 1, 1), (46, .iaload, 1), (47, .ireturn, 1)]
theorem tbX7_holds_0_ok : ∀ q ∈ tbX7_holds_0, decode cX7_holds q.1 = .ok (q.2.1, q.2.2) := by decide +kernel
def fX7_holds_b17 (n : Nat) (μ : ZMem) : Option (ZMem × Int32) := some (μ, (-1 : Int32))
theorem tX7_holds_b17 {l : Launch} {fr : Bool} {n : Nat} {z : ZMem × Int32} (μ : ZMem) (h : fX7_holds_b17 n μ = some z) : V (zkI l mX7_holds (rmd 2) fr n z) fr 17 [] [] n μ := by
  unfold fX7_holds_b17 at h
  refine V_iconst (v := (-1)) (zdk tbX7_holds_0_ok 9 rfl) rfl ?_
  cases h
  exact V_iret (zdk tbX7_holds_0_ok 10 rfl) rfl rfl
def fX7_holds_b47 (n : Nat) (s0 : Int32) (μ : ZMem) : Option (ZMem × Int32) := some (μ, s0)
theorem tX7_holds_b47 {l : Launch} {fr : Bool} {n : Nat} {z : ZMem × Int32} (s0 : Int32) (μ : ZMem) (h : fX7_holds_b47 n s0 μ = some z) : V (zkI l mX7_holds (rmd 2) fr n z) fr 47 [] [.int s0] n μ := by
  unfold fX7_holds_b47 at h
  cases h
  exact V_iret (zdk tbX7_holds_0_ok 28 rfl) rfl rfl
def fX7_holds (n : Nat) (v0 : Nat) (v1 : Int32) (μ : ZMem) : Option (ZMem × Int32) := chk (isC n 7 v0) (bd2 (fX7_isShelf n v0 v1 μ) (fun μ2 r3 => (if r3 = 0 then (fX7_holds_b17 n  μ2) else bd1 (zRc n 100 μ2 v0 15) (fun r5 => chk (inb v1 r5) ((if (zI μ2 r5 v1.toNatClampNeg) = 0 then (fX7_holds_b17 n  μ2) else bd1 (zRc n 100 μ2 v0 15) (fun r9 => chk (inb v1 r9) ((if (zI μ2 r9 v1.toNatClampNeg) = (1 : Int32) then bd1 (zRc n 100 μ2 v0 16) (fun r16 => chk (inb v1 r16) ((fX7_holds_b47 n ((100 : Int32) + (zI μ2 r16 v1.toNatClampNeg)) μ2))) else bd1 (zRc n 100 μ2 v0 18) (fun r13 => chk (inb v1 r13) ((fX7_holds_b47 n (zI μ2 r13 v1.toNatClampNeg) μ2))))))))))))
theorem tX7_holds {l : Launch} {fr : Bool} {n : Nat} {v0 : Nat} {v1 : Int32} {μ : ZMem} {z : ZMem × Int32} (h : fX7_holds n v0 v1 μ = some z) : ZFn l mX7_holds (rmd 2) [.ref v0, .int v1] fr n μ (fr, n, z.1, some (.int z.2)) := by
  unfold fX7_holds at h
  obtain ⟨c_v0, h⟩ := chk_some h
  refine ZFn.of (ls := [(0, .ref v0), (1, .int v1)]) (by decide) (fun ξ => Nat.le_of_ble_eq_true rfl) (fun ξ => rfl) ?_
  refine V_aload_n 0 (zdk tbX7_holds_0_ok 0 rfl) rfl ?_
  refine V_iload_n 1 (zdk tbX7_holds_0_ok 1 rfl) rfl ?_
  obtain ⟨μ2, r3, q1, h⟩ := bd2_some h
  refine V_callV (R1 := (rmd 1)) (As := [.int v1]) (r := (some (.int r3))) (zdk tbX7_holds_0_ok 2 rfl) sC7_102 (tX7_isShelf q1) (c_v0) rfl rfl rfl ⟨Nat.le_of_ble_eq_true rfl, Nat.le_of_ble_eq_true rfl⟩ (Nat.le_of_ble_eq_true rfl) ⟨rfl, rfl⟩ id ?_
  refine V_if_eq (tgt := 17) (zdk tbX7_holds_0_ok 3 rfl) (by decide) (fun c4 => ?_) (fun c4 => ?_)
  · replace h := ite_t h c4
    refine V_sub (ls' := []) [] rfl ?_
    exact tX7_holds_b17  μ2  h
  · replace h := ite_f h c4
    refine V_aload_n 0 (zdk tbX7_holds_0_ok 4 rfl) rfl ?_
    obtain ⟨r5, q6, h⟩ := bd1_some h
    obtain ⟨q6, c_r5⟩ := zRc_some q6
    refine V_getR (zdk tbX7_holds_0_ok 5 rfl) c_v0 fF7_47 rfl q6 ?_
    refine V_iload_n 1 (zdk tbX7_holds_0_ok 6 rfl) rfl ?_
    obtain ⟨b7, h⟩ := chk_some h
    refine V_iald (zdk tbX7_holds_0_ok 7 rfl) c_r5 b7 ?_
    refine V_if_ne (tgt := 19) (zdk tbX7_holds_0_ok 8 rfl) (by decide) (fun c8 => ?_) (fun c8 => ?_)
    · replace h := ite_f h c8
      refine V_aload_n 0 (zdk tbX7_holds_0_ok 11 rfl) rfl ?_
      obtain ⟨r9, q10, h⟩ := bd1_some h
      obtain ⟨q10, c_r9⟩ := zRc_some q10
      refine V_getR (zdk tbX7_holds_0_ok 12 rfl) c_v0 fF7_47 rfl q10 ?_
      refine V_iload_n 1 (zdk tbX7_holds_0_ok 13 rfl) rfl ?_
      obtain ⟨b11, h⟩ := chk_some h
      refine V_iald (zdk tbX7_holds_0_ok 14 rfl) c_r9 b11 ?_
      refine V_iconst (v := 1) (zdk tbX7_holds_0_ok 15 rfl) rfl ?_
      refine V_icmp_ne (tgt := 41) (zdk tbX7_holds_0_ok 16 rfl) (by decide) (fun c12 => ?_) (fun c12 => ?_)
      · replace h := ite_f h c12
        refine V_aload_n 0 (zdk tbX7_holds_0_ok 24 rfl) rfl ?_
        obtain ⟨r13, q14, h⟩ := bd1_some h
        obtain ⟨q14, c_r13⟩ := zRc_some q14
        refine V_getR (zdk tbX7_holds_0_ok 25 rfl) c_v0 fF7_56 rfl q14 ?_
        refine V_iload_n 1 (zdk tbX7_holds_0_ok 26 rfl) rfl ?_
        obtain ⟨b15, h⟩ := chk_some h
        refine V_iald (zdk tbX7_holds_0_ok 27 rfl) c_r13 b15 ?_
        refine V_sub (ls' := []) [] rfl ?_
        exact tX7_holds_b47 (zI μ2 r13 v1.toNatClampNeg) μ2  h
      · replace h := ite_t h c12
        refine V_bipush (v := 100) (zdk tbX7_holds_0_ok 17 rfl) rfl ?_
        refine V_aload_n 0 (zdk tbX7_holds_0_ok 18 rfl) rfl ?_
        obtain ⟨r16, q17, h⟩ := bd1_some h
        obtain ⟨q17, c_r16⟩ := zRc_some q17
        refine V_getR (zdk tbX7_holds_0_ok 19 rfl) c_v0 fF7_50 rfl q17 ?_
        refine V_iload_n 1 (zdk tbX7_holds_0_ok 20 rfl) rfl ?_
        obtain ⟨b18, h⟩ := chk_some h
        refine V_iald (zdk tbX7_holds_0_ok 21 rfl) c_r16 b18 ?_
        refine V_iadd (zdk tbX7_holds_0_ok 22 rfl) ?_
        refine V_goto (tgt := 47) (zdk tbX7_holds_0_ok 23 rfl) (by decide) ?_
        refine V_sub (ls' := []) [] rfl ?_
        exact tX7_holds_b47 ((100 : Int32) + (zI μ2 r16 v1.toNatClampNeg)) μ2  h
    · replace h := ite_t h c8
      refine V_sub (ls' := []) [] rfl ?_
      exact tX7_holds_b17  μ2  h

-- WhoComplainsCarriesModel.limit
def tbX7_limit_0 : List (Nat × Instr × Nat) := [(0, .aload_n 0, 1), (1, .getfield 32, 3), (4, .iload_n 1, 1), (5, .iaload, 1), (6, .iconst 1, 1), (7, .if_icmp .eq 13, 3), (10, .aload_n 0, 1), (11, .getfield 32, 3), (14, .iload_n 1, 1), (15, .iaload, 1), (16, .iconst 3, 1), (17, .if_icmp .ne 12, 3), (20, .iconst 2, 1), (21, .aload_n 0, 1), (22, .getfield 41, 3), (25, .iload_n 1, 1), (26, .iaload, 1), (27, .imul, 1), (28, .ireturn, 1), (29, .aload_n 0, 1), (30, .getfield 32, 3), (33, .iload_n 1, 1), (34, .iaload, 1), (35, .bipush 6, 2), (37, .if_icmp .ne 19, 3), (40, .aload_n 0, 1), (41, .getfield 41, 3), (44, .iload_n 1, 1), (45, .iaload, 1), (46, .aload_n 0, 1), (47, .getfield 35, 3), (50, .iload_n 1, 1), (51, .iaload, 1), (52, .iadd, 1), (53, .goto 9, 3), (56, .aload_n 0, 1), (57, .getfield 41, 3), (60, .iload_n 1, 1), (61, .iaload, 1), (62, .ireturn, 1)]
theorem tbX7_limit_0_ok : ∀ q ∈ tbX7_limit_0, decode cX7_limit q.1 = .ok (q.2.1, q.2.2) := by decide +kernel
def fX7_limit_b20 (n : Nat) (v0 : Nat) (v1 : Int32) (μ : ZMem) : Option (ZMem × Int32) := bd1 (zRc n 100 μ v0 13) (fun r1 => chk (inb v1 r1) (some (μ, ((2 : Int32) * (zI μ r1 v1.toNatClampNeg)))))
theorem tX7_limit_b20 {l : Launch} {fr : Bool} {n : Nat} {z : ZMem × Int32} (v0 : Nat) (v1 : Int32) (μ : ZMem) (c_v0 : isC n 7 v0 = true) (h : fX7_limit_b20 n v0 v1 μ = some z) : V (zkI l mX7_limit (rmd 1) fr n z) fr 20 [(0, .ref v0), (1, .int v1)] [] n μ := by
  unfold fX7_limit_b20 at h
  refine V_iconst (v := 2) (zdk tbX7_limit_0_ok 12 rfl) rfl ?_
  refine V_aload_n 0 (zdk tbX7_limit_0_ok 13 rfl) rfl ?_
  obtain ⟨r1, q2, h⟩ := bd1_some h
  obtain ⟨q2, c_r1⟩ := zRc_some q2
  refine V_getR (zdk tbX7_limit_0_ok 14 rfl) c_v0 fF7_41 rfl q2 ?_
  refine V_iload_n 1 (zdk tbX7_limit_0_ok 15 rfl) rfl ?_
  obtain ⟨b3, h⟩ := chk_some h
  refine V_iald (zdk tbX7_limit_0_ok 16 rfl) c_r1 b3 ?_
  refine V_imul (zdk tbX7_limit_0_ok 17 rfl) ?_
  cases h
  exact V_iret (zdk tbX7_limit_0_ok 18 rfl) rfl rfl
def fX7_limit_b62 (n : Nat) (s0 : Int32) (μ : ZMem) : Option (ZMem × Int32) := some (μ, s0)
theorem tX7_limit_b62 {l : Launch} {fr : Bool} {n : Nat} {z : ZMem × Int32} (s0 : Int32) (μ : ZMem) (h : fX7_limit_b62 n s0 μ = some z) : V (zkI l mX7_limit (rmd 1) fr n z) fr 62 [] [.int s0] n μ := by
  unfold fX7_limit_b62 at h
  cases h
  exact V_iret (zdk tbX7_limit_0_ok 39 rfl) rfl rfl
def fX7_limit (n : Nat) (v0 : Nat) (v1 : Int32) (μ : ZMem) : Option (ZMem × Int32) := chk (isC n 7 v0) (bd1 (zRc n 100 μ v0 10) (fun r1 => chk (inb v1 r1) ((if (zI μ r1 v1.toNatClampNeg) = (1 : Int32) then (fX7_limit_b20 n v0 v1 μ) else bd1 (zRc n 100 μ v0 10) (fun r5 => chk (inb v1 r5) ((if (zI μ r5 v1.toNatClampNeg) = (3 : Int32) then (fX7_limit_b20 n v0 v1 μ) else bd1 (zRc n 100 μ v0 10) (fun r9 => chk (inb v1 r9) ((if (zI μ r9 v1.toNatClampNeg) = (6 : Int32) then bd1 (zRc n 100 μ v0 13) (fun r16 => chk (inb v1 r16) (bd1 (zRc n 100 μ v0 11) (fun r19 => chk (inb v1 r19) ((fX7_limit_b62 n ((zI μ r16 v1.toNatClampNeg) + (zI μ r19 v1.toNatClampNeg)) μ))))) else bd1 (zRc n 100 μ v0 13) (fun r13 => chk (inb v1 r13) ((fX7_limit_b62 n (zI μ r13 v1.toNatClampNeg) μ)))))))))))))
theorem tX7_limit {l : Launch} {fr : Bool} {n : Nat} {v0 : Nat} {v1 : Int32} {μ : ZMem} {z : ZMem × Int32} (h : fX7_limit n v0 v1 μ = some z) : ZFn l mX7_limit (rmd 1) [.ref v0, .int v1] fr n μ (fr, n, z.1, some (.int z.2)) := by
  unfold fX7_limit at h
  obtain ⟨c_v0, h⟩ := chk_some h
  refine ZFn.of (ls := [(0, .ref v0), (1, .int v1)]) (by decide) (fun ξ => Nat.le_of_ble_eq_true rfl) (fun ξ => rfl) ?_
  refine V_aload_n 0 (zdk tbX7_limit_0_ok 0 rfl) rfl ?_
  obtain ⟨r1, q2, h⟩ := bd1_some h
  obtain ⟨q2, c_r1⟩ := zRc_some q2
  refine V_getR (zdk tbX7_limit_0_ok 1 rfl) c_v0 fF7_32 rfl q2 ?_
  refine V_iload_n 1 (zdk tbX7_limit_0_ok 2 rfl) rfl ?_
  obtain ⟨b3, h⟩ := chk_some h
  refine V_iald (zdk tbX7_limit_0_ok 3 rfl) c_r1 b3 ?_
  refine V_iconst (v := 1) (zdk tbX7_limit_0_ok 4 rfl) rfl ?_
  refine V_icmp_eq (tgt := 20) (zdk tbX7_limit_0_ok 5 rfl) (by decide) (fun c4 => ?_) (fun c4 => ?_)
  · replace h := ite_t h c4
    exact tX7_limit_b20 v0 v1 μ c_v0 h
  · replace h := ite_f h c4
    refine V_aload_n 0 (zdk tbX7_limit_0_ok 6 rfl) rfl ?_
    obtain ⟨r5, q6, h⟩ := bd1_some h
    obtain ⟨q6, c_r5⟩ := zRc_some q6
    refine V_getR (zdk tbX7_limit_0_ok 7 rfl) c_v0 fF7_32 rfl q6 ?_
    refine V_iload_n 1 (zdk tbX7_limit_0_ok 8 rfl) rfl ?_
    obtain ⟨b7, h⟩ := chk_some h
    refine V_iald (zdk tbX7_limit_0_ok 9 rfl) c_r5 b7 ?_
    refine V_iconst (v := 3) (zdk tbX7_limit_0_ok 10 rfl) rfl ?_
    refine V_icmp_ne (tgt := 29) (zdk tbX7_limit_0_ok 11 rfl) (by decide) (fun c8 => ?_) (fun c8 => ?_)
    · replace h := ite_f h c8
      refine V_aload_n 0 (zdk tbX7_limit_0_ok 19 rfl) rfl ?_
      obtain ⟨r9, q10, h⟩ := bd1_some h
      obtain ⟨q10, c_r9⟩ := zRc_some q10
      refine V_getR (zdk tbX7_limit_0_ok 20 rfl) c_v0 fF7_32 rfl q10 ?_
      refine V_iload_n 1 (zdk tbX7_limit_0_ok 21 rfl) rfl ?_
      obtain ⟨b11, h⟩ := chk_some h
      refine V_iald (zdk tbX7_limit_0_ok 22 rfl) c_r9 b11 ?_
      refine V_bipush (v := 6) (zdk tbX7_limit_0_ok 23 rfl) rfl ?_
      refine V_icmp_ne (tgt := 56) (zdk tbX7_limit_0_ok 24 rfl) (by decide) (fun c12 => ?_) (fun c12 => ?_)
      · replace h := ite_f h c12
        refine V_aload_n 0 (zdk tbX7_limit_0_ok 35 rfl) rfl ?_
        obtain ⟨r13, q14, h⟩ := bd1_some h
        obtain ⟨q14, c_r13⟩ := zRc_some q14
        refine V_getR (zdk tbX7_limit_0_ok 36 rfl) c_v0 fF7_41 rfl q14 ?_
        refine V_iload_n 1 (zdk tbX7_limit_0_ok 37 rfl) rfl ?_
        obtain ⟨b15, h⟩ := chk_some h
        refine V_iald (zdk tbX7_limit_0_ok 38 rfl) c_r13 b15 ?_
        refine V_sub (ls' := []) [] rfl ?_
        exact tX7_limit_b62 (zI μ r13 v1.toNatClampNeg) μ  h
      · replace h := ite_t h c12
        refine V_aload_n 0 (zdk tbX7_limit_0_ok 25 rfl) rfl ?_
        obtain ⟨r16, q17, h⟩ := bd1_some h
        obtain ⟨q17, c_r16⟩ := zRc_some q17
        refine V_getR (zdk tbX7_limit_0_ok 26 rfl) c_v0 fF7_41 rfl q17 ?_
        refine V_iload_n 1 (zdk tbX7_limit_0_ok 27 rfl) rfl ?_
        obtain ⟨b18, h⟩ := chk_some h
        refine V_iald (zdk tbX7_limit_0_ok 28 rfl) c_r16 b18 ?_
        refine V_aload_n 0 (zdk tbX7_limit_0_ok 29 rfl) rfl ?_
        obtain ⟨r19, q20, h⟩ := bd1_some h
        obtain ⟨q20, c_r19⟩ := zRc_some q20
        refine V_getR (zdk tbX7_limit_0_ok 30 rfl) c_v0 fF7_35 rfl q20 ?_
        refine V_iload_n 1 (zdk tbX7_limit_0_ok 31 rfl) rfl ?_
        obtain ⟨b21, h⟩ := chk_some h
        refine V_iald (zdk tbX7_limit_0_ok 32 rfl) c_r19 b21 ?_
        refine V_iadd (zdk tbX7_limit_0_ok 33 rfl) ?_
        refine V_goto (tgt := 62) (zdk tbX7_limit_0_ok 34 rfl) (by decide) ?_
        refine V_sub (ls' := []) [] rfl ?_
        exact tX7_limit_b62 ((zI μ r16 v1.toNatClampNeg) + (zI μ r19 v1.toNatClampNeg)) μ  h
    · replace h := ite_t h c8
      exact tX7_limit_b20 v0 v1 μ c_v0 h

-- WhoComplainsCarriesModel.toil
def tbX7_toil_0 : List (Nat × Instr × Nat) := [(0, .aload_n 0, 1), (1, .getfield 7, 3), (4, .aload_n 0, 1), (5, .getfield 38, 3), (8, .iload_n 1, 1), (9, .iaload, 1), (10, .iadd, 1), (11, .iconst 1, 1), (12, .isub, 1), (13, .aload_n 0, 1), (14, .getfield 38, 3), (17, .iload_n 1, 1), (18, .iaload, 1), (19, .idiv, 1), (20, .istore_n 2, 1), (21, .aload_n 0, 1), (22, .getfield 32, 3), (25, .iload_n 1, 1), (26, .iaload, 1), (27, .iconst 2, 1), (28, .if_icmp .eq 13, 3), (31, .aload_n 0, 1), (32, .getfield 32, 3), (35, .iload_n 1, 1), (36, .iaload, 1), (37, .iconst 5, 1), (38, .if_icmp .ne 9, 3), (41, .iload_n 2, 1), (42, .iconst 1, 1), (43, .iadd, 1), (44, .iconst 2, 1), (45, .idiv, 1), (46, .ireturn, 1), (47, .aload_n 0, 1), (48, .getfield 32, 3), (51, .iload_n 1, 1), (52, .iaload, 1), (53, .iconst 3, 1), (54, .if_icmp .ne 14, 3), (57, .iload_n 2, 1), (58, .aload_n 0, 1), (59, .getfield 35, 3), (62, .iload_n 1, 1), (63, .iaload, 1), (64, .iadd, 1), (65, .goto 4, 3), (68, .iload_n 2, 1), (69, .ireturn, 1)]
theorem tbX7_toil_0_ok : ∀ q ∈ tbX7_toil_0, decode cX7_toil q.1 = .ok (q.2.1, q.2.2) := by decide +kernel
def fX7_toil_b41 (n : Nat) (v2 : Int32) (μ : ZMem) : Option (ZMem × Int32) := some (μ, ((v2 + (1 : Int32)) / (2 : Int32)))
theorem tX7_toil_b41 {l : Launch} {fr : Bool} {n : Nat} {z : ZMem × Int32} (v2 : Int32) (μ : ZMem) (h : fX7_toil_b41 n v2 μ = some z) : V (zkI l mX7_toil (rmd 1) fr n z) fr 41 [(2, .int v2)] [] n μ := by
  unfold fX7_toil_b41 at h
  refine V_iload_n 0 (zdk tbX7_toil_0_ok 27 rfl) rfl ?_
  refine V_iconst (v := 1) (zdk tbX7_toil_0_ok 28 rfl) rfl ?_
  refine V_iadd (zdk tbX7_toil_0_ok 29 rfl) ?_
  refine V_iconst (v := 2) (zdk tbX7_toil_0_ok 30 rfl) rfl ?_
  refine V_idiv (zdk tbX7_toil_0_ok 31 rfl) (by decide) ?_
  cases h
  exact V_iret (zdk tbX7_toil_0_ok 32 rfl) rfl rfl
def fX7_toil_b69 (n : Nat) (s0 : Int32) (μ : ZMem) : Option (ZMem × Int32) := some (μ, s0)
theorem tX7_toil_b69 {l : Launch} {fr : Bool} {n : Nat} {z : ZMem × Int32} (s0 : Int32) (μ : ZMem) (h : fX7_toil_b69 n s0 μ = some z) : V (zkI l mX7_toil (rmd 1) fr n z) fr 69 [] [.int s0] n μ := by
  unfold fX7_toil_b69 at h
  cases h
  exact V_iret (zdk tbX7_toil_0_ok 47 rfl) rfl rfl
def fX7_toil (n : Nat) (v0 : Nat) (v1 : Int32) (μ : ZMem) : Option (ZMem × Int32) := chk (isC n 7 v0) (bd1 (zRc n 100 μ v0 12) (fun r1 => chk (inb v1 r1) (bd1 (zRc n 100 μ v0 12) (fun r4 => chk (inb v1 r4) (chk (!decide ((zI μ r4 v1.toNatClampNeg) = 0)) (bd1 (zRc n 100 μ v0 10) (fun r8 => chk (inb v1 r8) ((if (zI μ r8 v1.toNatClampNeg) = (2 : Int32) then (fX7_toil_b41 n ((((zI μ v0 1) + (zI μ r1 v1.toNatClampNeg)) - (1 : Int32)) / (zI μ r4 v1.toNatClampNeg)) μ) else bd1 (zRc n 100 μ v0 10) (fun r12 => chk (inb v1 r12) ((if (zI μ r12 v1.toNatClampNeg) = (5 : Int32) then (fX7_toil_b41 n ((((zI μ v0 1) + (zI μ r1 v1.toNatClampNeg)) - (1 : Int32)) / (zI μ r4 v1.toNatClampNeg)) μ) else bd1 (zRc n 100 μ v0 10) (fun r16 => chk (inb v1 r16) ((if (zI μ r16 v1.toNatClampNeg) = (3 : Int32) then bd1 (zRc n 100 μ v0 11) (fun r20 => chk (inb v1 r20) ((fX7_toil_b69 n (((((zI μ v0 1) + (zI μ r1 v1.toNatClampNeg)) - (1 : Int32)) / (zI μ r4 v1.toNatClampNeg)) + (zI μ r20 v1.toNatClampNeg)) μ))) else (fX7_toil_b69 n ((((zI μ v0 1) + (zI μ r1 v1.toNatClampNeg)) - (1 : Int32)) / (zI μ r4 v1.toNatClampNeg)) μ))))))))))))))))
theorem tX7_toil {l : Launch} {fr : Bool} {n : Nat} {v0 : Nat} {v1 : Int32} {μ : ZMem} {z : ZMem × Int32} (h : fX7_toil n v0 v1 μ = some z) : ZFn l mX7_toil (rmd 1) [.ref v0, .int v1] fr n μ (fr, n, z.1, some (.int z.2)) := by
  unfold fX7_toil at h
  obtain ⟨c_v0, h⟩ := chk_some h
  refine ZFn.of (ls := [(0, .ref v0), (1, .int v1)]) (by decide) (fun ξ => Nat.le_of_ble_eq_true rfl) (fun ξ => rfl) ?_
  refine V_aload_n 0 (zdk tbX7_toil_0_ok 0 rfl) rfl ?_
  refine V_getI (zdk tbX7_toil_0_ok 1 rfl) c_v0 fF7_7 rfl ?_
  refine V_aload_n 0 (zdk tbX7_toil_0_ok 2 rfl) rfl ?_
  obtain ⟨r1, q2, h⟩ := bd1_some h
  obtain ⟨q2, c_r1⟩ := zRc_some q2
  refine V_getR (zdk tbX7_toil_0_ok 3 rfl) c_v0 fF7_38 rfl q2 ?_
  refine V_iload_n 1 (zdk tbX7_toil_0_ok 4 rfl) rfl ?_
  obtain ⟨b3, h⟩ := chk_some h
  refine V_iald (zdk tbX7_toil_0_ok 5 rfl) c_r1 b3 ?_
  refine V_iadd (zdk tbX7_toil_0_ok 6 rfl) ?_
  refine V_iconst (v := 1) (zdk tbX7_toil_0_ok 7 rfl) rfl ?_
  refine V_isub (zdk tbX7_toil_0_ok 8 rfl) ?_
  refine V_aload_n 0 (zdk tbX7_toil_0_ok 9 rfl) rfl ?_
  obtain ⟨r4, q5, h⟩ := bd1_some h
  obtain ⟨q5, c_r4⟩ := zRc_some q5
  refine V_getR (zdk tbX7_toil_0_ok 10 rfl) c_v0 fF7_38 rfl q5 ?_
  refine V_iload_n 1 (zdk tbX7_toil_0_ok 11 rfl) rfl ?_
  obtain ⟨b6, h⟩ := chk_some h
  refine V_iald (zdk tbX7_toil_0_ok 12 rfl) c_r4 b6 ?_
  obtain ⟨d7, h⟩ := chk_some h
  refine V_idiv (zdk tbX7_toil_0_ok 13 rfl) (nz_of d7) ?_
  refine V_istore_n (ls' := [(0, .ref v0), (1, .int v1), (2, .int ((((zI μ v0 1) + (zI μ r1 v1.toNatClampNeg)) - (1 : Int32)) / (zI μ r4 v1.toNatClampNeg)))]) [1, 2, 0] (zdk tbX7_toil_0_ok 14 rfl) (Nat.le_of_ble_eq_true rfl) rfl ?_
  refine V_aload_n 0 (zdk tbX7_toil_0_ok 15 rfl) rfl ?_
  obtain ⟨r8, q9, h⟩ := bd1_some h
  obtain ⟨q9, c_r8⟩ := zRc_some q9
  refine V_getR (zdk tbX7_toil_0_ok 16 rfl) c_v0 fF7_32 rfl q9 ?_
  refine V_iload_n 1 (zdk tbX7_toil_0_ok 17 rfl) rfl ?_
  obtain ⟨b10, h⟩ := chk_some h
  refine V_iald (zdk tbX7_toil_0_ok 18 rfl) c_r8 b10 ?_
  refine V_iconst (v := 2) (zdk tbX7_toil_0_ok 19 rfl) rfl ?_
  refine V_icmp_eq (tgt := 41) (zdk tbX7_toil_0_ok 20 rfl) (by decide) (fun c11 => ?_) (fun c11 => ?_)
  · replace h := ite_t h c11
    refine V_sub (ls' := [(2, .int ((((zI μ v0 1) + (zI μ r1 v1.toNatClampNeg)) - (1 : Int32)) / (zI μ r4 v1.toNatClampNeg)))]) [2] rfl ?_
    exact tX7_toil_b41 ((((zI μ v0 1) + (zI μ r1 v1.toNatClampNeg)) - (1 : Int32)) / (zI μ r4 v1.toNatClampNeg)) μ  h
  · replace h := ite_f h c11
    refine V_aload_n 0 (zdk tbX7_toil_0_ok 21 rfl) rfl ?_
    obtain ⟨r12, q13, h⟩ := bd1_some h
    obtain ⟨q13, c_r12⟩ := zRc_some q13
    refine V_getR (zdk tbX7_toil_0_ok 22 rfl) c_v0 fF7_32 rfl q13 ?_
    refine V_iload_n 1 (zdk tbX7_toil_0_ok 23 rfl) rfl ?_
    obtain ⟨b14, h⟩ := chk_some h
    refine V_iald (zdk tbX7_toil_0_ok 24 rfl) c_r12 b14 ?_
    refine V_iconst (v := 5) (zdk tbX7_toil_0_ok 25 rfl) rfl ?_
    refine V_icmp_ne (tgt := 47) (zdk tbX7_toil_0_ok 26 rfl) (by decide) (fun c15 => ?_) (fun c15 => ?_)
    · replace h := ite_f h c15
      refine V_aload_n 0 (zdk tbX7_toil_0_ok 33 rfl) rfl ?_
      obtain ⟨r16, q17, h⟩ := bd1_some h
      obtain ⟨q17, c_r16⟩ := zRc_some q17
      refine V_getR (zdk tbX7_toil_0_ok 34 rfl) c_v0 fF7_32 rfl q17 ?_
      refine V_iload_n 1 (zdk tbX7_toil_0_ok 35 rfl) rfl ?_
      obtain ⟨b18, h⟩ := chk_some h
      refine V_iald (zdk tbX7_toil_0_ok 36 rfl) c_r16 b18 ?_
      refine V_iconst (v := 3) (zdk tbX7_toil_0_ok 37 rfl) rfl ?_
      refine V_icmp_ne (tgt := 68) (zdk tbX7_toil_0_ok 38 rfl) (by decide) (fun c19 => ?_) (fun c19 => ?_)
      · replace h := ite_f h c19
        refine V_iload_n 2 (zdk tbX7_toil_0_ok 46 rfl) rfl ?_
        refine V_sub (ls' := []) [] rfl ?_
        exact tX7_toil_b69 ((((zI μ v0 1) + (zI μ r1 v1.toNatClampNeg)) - (1 : Int32)) / (zI μ r4 v1.toNatClampNeg)) μ  h
      · replace h := ite_t h c19
        refine V_iload_n 2 (zdk tbX7_toil_0_ok 39 rfl) rfl ?_
        refine V_aload_n 0 (zdk tbX7_toil_0_ok 40 rfl) rfl ?_
        obtain ⟨r20, q21, h⟩ := bd1_some h
        obtain ⟨q21, c_r20⟩ := zRc_some q21
        refine V_getR (zdk tbX7_toil_0_ok 41 rfl) c_v0 fF7_35 rfl q21 ?_
        refine V_iload_n 1 (zdk tbX7_toil_0_ok 42 rfl) rfl ?_
        obtain ⟨b22, h⟩ := chk_some h
        refine V_iald (zdk tbX7_toil_0_ok 43 rfl) c_r20 b22 ?_
        refine V_iadd (zdk tbX7_toil_0_ok 44 rfl) ?_
        refine V_goto (tgt := 69) (zdk tbX7_toil_0_ok 45 rfl) (by decide) ?_
        refine V_sub (ls' := []) [] rfl ?_
        exact tX7_toil_b69 (((((zI μ v0 1) + (zI μ r1 v1.toNatClampNeg)) - (1 : Int32)) / (zI μ r4 v1.toNatClampNeg)) + (zI μ r20 v1.toNatClampNeg)) μ  h
    · replace h := ite_t h c15
      refine V_sub (ls' := [(2, .int ((((zI μ v0 1) + (zI μ r1 v1.toNatClampNeg)) - (1 : Int32)) / (zI μ r4 v1.toNatClampNeg)))]) [2] rfl ?_
      exact tX7_toil_b41 ((((zI μ v0 1) + (zI μ r1 v1.toNatClampNeg)) - (1 : Int32)) / (zI μ r4 v1.toNatClampNeg)) μ  h

-- WhoComplainsCarriesModel.pace
def tbX7_pace_0 : List (Nat × Instr × Nat) := [(0, .iconst 4, 1), (1, .aload_n 0, 1), (2, .getfield 38, 3), (5, .iload_n 1, 1), (6, .iaload, 1), (7, .imul, 1), (8, .aload_n 0, 1), (9, .getfield 7, 3), (12, .idiv, 1), (13, .istore_n 2, 1), (14, .iload_n 2, 1), (15, .iconst 1, 1), (16, .if_icmp .ge 7, 3), (19, .iconst 1, 1), (20, .goto 15, 3), (23, .iload_n 2, 1), (24, .bipush 9, 2), (26, .if_icmp .le 8, 3), (29, .bipush 9, 2), (31, .goto 4, 3), (34, .iload_n 2, 1), (35, .istore_n 2, 1), (36, .aload_n 0, 1), (37, .getfield 32, 3), (40, .iload_n 1, 1), (41, .iaload, 1), (42, .iconst 4, 1), (43, .if_icmp .eq 14, 3), (46, .aload_n 0, 1), (47, .getfield 32, 3), (50, .iload_n 1, 1), (51, .iaload, 1), (52, .bipush 6, 2), (54, .if_icmp .ne 14, 3), (57, .iload_n 2, 1), (58, .iconst 1, 1), (59, .if_icmp .le 9, 3), (62, .iload_n 2, 1), (63, .iconst 1, 1), (64, .isub, 1), (65, .goto 4, 3), (68, .iload_n 2, 1), (69, .ireturn, 1)]
theorem tbX7_pace_0_ok : ∀ q ∈ tbX7_pace_0, decode cX7_pace q.1 = .ok (q.2.1, q.2.2) := by decide +kernel
def fX7_pace_b69 (n : Nat) (s0 : Int32) (μ : ZMem) : Option (ZMem × Int32) := some (μ, s0)
theorem tX7_pace_b69 {l : Launch} {fr : Bool} {n : Nat} {z : ZMem × Int32} (s0 : Int32) (μ : ZMem) (h : fX7_pace_b69 n s0 μ = some z) : V (zkI l mX7_pace (rmd 1) fr n z) fr 69 [] [.int s0] n μ := by
  unfold fX7_pace_b69 at h
  cases h
  exact V_iret (zdk tbX7_pace_0_ok 42 rfl) rfl rfl
def fX7_pace_b68 (n : Nat) (v2 : Int32) (μ : ZMem) : Option (ZMem × Int32) := (fX7_pace_b69 n v2 μ)
theorem tX7_pace_b68 {l : Launch} {fr : Bool} {n : Nat} {z : ZMem × Int32} (v2 : Int32) (μ : ZMem) (h : fX7_pace_b68 n v2 μ = some z) : V (zkI l mX7_pace (rmd 1) fr n z) fr 68 [(2, .int v2)] [] n μ := by
  unfold fX7_pace_b68 at h
  refine V_iload_n 0 (zdk tbX7_pace_0_ok 41 rfl) rfl ?_
  refine V_sub (ls' := []) [] rfl ?_
  exact tX7_pace_b69 v2 μ  h
def fX7_pace_b57 (n : Nat) (v2 : Int32) (μ : ZMem) : Option (ZMem × Int32) := (if v2 ≤ (1 : Int32) then (fX7_pace_b68 n v2 μ) else (fX7_pace_b69 n (v2 - (1 : Int32)) μ))
theorem tX7_pace_b57 {l : Launch} {fr : Bool} {n : Nat} {z : ZMem × Int32} (v2 : Int32) (μ : ZMem) (h : fX7_pace_b57 n v2 μ = some z) : V (zkI l mX7_pace (rmd 1) fr n z) fr 57 [(2, .int v2)] [] n μ := by
  unfold fX7_pace_b57 at h
  refine V_iload_n 0 (zdk tbX7_pace_0_ok 34 rfl) rfl ?_
  refine V_iconst (v := 1) (zdk tbX7_pace_0_ok 35 rfl) rfl ?_
  refine V_icmp_le (tgt := 68) (zdk tbX7_pace_0_ok 36 rfl) (by decide) (fun c1 => ?_) (fun c1 => ?_)
  · replace h := ite_t h c1
    exact tX7_pace_b68 v2 μ  h
  · replace h := ite_f h c1
    refine V_iload_n 0 (zdk tbX7_pace_0_ok 37 rfl) rfl ?_
    refine V_iconst (v := 1) (zdk tbX7_pace_0_ok 38 rfl) rfl ?_
    refine V_isub (zdk tbX7_pace_0_ok 39 rfl) ?_
    refine V_goto (tgt := 69) (zdk tbX7_pace_0_ok 40 rfl) (by decide) ?_
    refine V_sub (ls' := []) [] rfl ?_
    exact tX7_pace_b69 (v2 - (1 : Int32)) μ  h
def fX7_pace_b35 (n : Nat) (v0 : Nat) (v1 : Int32) (s0 : Int32) (μ : ZMem) : Option (ZMem × Int32) := bd1 (zRc n 100 μ v0 10) (fun r1 => chk (inb v1 r1) ((if (zI μ r1 v1.toNatClampNeg) = (4 : Int32) then (fX7_pace_b57 n s0 μ) else bd1 (zRc n 100 μ v0 10) (fun r5 => chk (inb v1 r5) ((if (zI μ r5 v1.toNatClampNeg) = (6 : Int32) then (fX7_pace_b57 n s0 μ) else (fX7_pace_b68 n s0 μ)))))))
theorem tX7_pace_b35 {l : Launch} {fr : Bool} {n : Nat} {z : ZMem × Int32} (v0 : Nat) (v1 : Int32) (s0 : Int32) (μ : ZMem) (c_v0 : isC n 7 v0 = true) (h : fX7_pace_b35 n v0 v1 s0 μ = some z) : V (zkI l mX7_pace (rmd 1) fr n z) fr 35 [(0, .ref v0), (1, .int v1)] [.int s0] n μ := by
  unfold fX7_pace_b35 at h
  refine V_istore_n (ls' := [(0, .ref v0), (1, .int v1), (2, .int s0)]) [1, 2, 0] (zdk tbX7_pace_0_ok 21 rfl) (Nat.le_of_ble_eq_true rfl) rfl ?_
  refine V_aload_n 0 (zdk tbX7_pace_0_ok 22 rfl) rfl ?_
  obtain ⟨r1, q2, h⟩ := bd1_some h
  obtain ⟨q2, c_r1⟩ := zRc_some q2
  refine V_getR (zdk tbX7_pace_0_ok 23 rfl) c_v0 fF7_32 rfl q2 ?_
  refine V_iload_n 1 (zdk tbX7_pace_0_ok 24 rfl) rfl ?_
  obtain ⟨b3, h⟩ := chk_some h
  refine V_iald (zdk tbX7_pace_0_ok 25 rfl) c_r1 b3 ?_
  refine V_iconst (v := 4) (zdk tbX7_pace_0_ok 26 rfl) rfl ?_
  refine V_icmp_eq (tgt := 57) (zdk tbX7_pace_0_ok 27 rfl) (by decide) (fun c4 => ?_) (fun c4 => ?_)
  · replace h := ite_t h c4
    refine V_sub (ls' := [(2, .int s0)]) [2] rfl ?_
    exact tX7_pace_b57 s0 μ  h
  · replace h := ite_f h c4
    refine V_aload_n 0 (zdk tbX7_pace_0_ok 28 rfl) rfl ?_
    obtain ⟨r5, q6, h⟩ := bd1_some h
    obtain ⟨q6, c_r5⟩ := zRc_some q6
    refine V_getR (zdk tbX7_pace_0_ok 29 rfl) c_v0 fF7_32 rfl q6 ?_
    refine V_iload_n 1 (zdk tbX7_pace_0_ok 30 rfl) rfl ?_
    obtain ⟨b7, h⟩ := chk_some h
    refine V_iald (zdk tbX7_pace_0_ok 31 rfl) c_r5 b7 ?_
    refine V_bipush (v := 6) (zdk tbX7_pace_0_ok 32 rfl) rfl ?_
    refine V_icmp_ne (tgt := 68) (zdk tbX7_pace_0_ok 33 rfl) (by decide) (fun c8 => ?_) (fun c8 => ?_)
    · replace h := ite_f h c8
      refine V_sub (ls' := [(2, .int s0)]) [2] rfl ?_
      exact tX7_pace_b68 s0 μ  h
    · replace h := ite_t h c8
      refine V_sub (ls' := [(2, .int s0)]) [2] rfl ?_
      exact tX7_pace_b57 s0 μ  h
def fX7_pace (n : Nat) (v0 : Nat) (v1 : Int32) (μ : ZMem) : Option (ZMem × Int32) := chk (isC n 7 v0) (bd1 (zRc n 100 μ v0 12) (fun r1 => chk (inb v1 r1) (chk (!decide ((zI μ v0 1) = 0)) ((if (1 : Int32) ≤ (((4 : Int32) * (zI μ r1 v1.toNatClampNeg)) / (zI μ v0 1)) then (if (((4 : Int32) * (zI μ r1 v1.toNatClampNeg)) / (zI μ v0 1)) ≤ (9 : Int32) then (fX7_pace_b35 n v0 v1 (((4 : Int32) * (zI μ r1 v1.toNatClampNeg)) / (zI μ v0 1)) μ) else (fX7_pace_b35 n v0 v1 (9 : Int32) μ)) else (fX7_pace_b35 n v0 v1 (1 : Int32) μ))))))
theorem tX7_pace {l : Launch} {fr : Bool} {n : Nat} {v0 : Nat} {v1 : Int32} {μ : ZMem} {z : ZMem × Int32} (h : fX7_pace n v0 v1 μ = some z) : ZFn l mX7_pace (rmd 1) [.ref v0, .int v1] fr n μ (fr, n, z.1, some (.int z.2)) := by
  unfold fX7_pace at h
  obtain ⟨c_v0, h⟩ := chk_some h
  refine ZFn.of (ls := [(0, .ref v0), (1, .int v1)]) (by decide) (fun ξ => Nat.le_of_ble_eq_true rfl) (fun ξ => rfl) ?_
  refine V_iconst (v := 4) (zdk tbX7_pace_0_ok 0 rfl) rfl ?_
  refine V_aload_n 0 (zdk tbX7_pace_0_ok 1 rfl) rfl ?_
  obtain ⟨r1, q2, h⟩ := bd1_some h
  obtain ⟨q2, c_r1⟩ := zRc_some q2
  refine V_getR (zdk tbX7_pace_0_ok 2 rfl) c_v0 fF7_38 rfl q2 ?_
  refine V_iload_n 1 (zdk tbX7_pace_0_ok 3 rfl) rfl ?_
  obtain ⟨b3, h⟩ := chk_some h
  refine V_iald (zdk tbX7_pace_0_ok 4 rfl) c_r1 b3 ?_
  refine V_imul (zdk tbX7_pace_0_ok 5 rfl) ?_
  refine V_aload_n 0 (zdk tbX7_pace_0_ok 6 rfl) rfl ?_
  refine V_getI (zdk tbX7_pace_0_ok 7 rfl) c_v0 fF7_7 rfl ?_
  obtain ⟨d4, h⟩ := chk_some h
  refine V_idiv (zdk tbX7_pace_0_ok 8 rfl) (nz_of d4) ?_
  refine V_istore_n (ls' := [(0, .ref v0), (1, .int v1), (2, .int (((4 : Int32) * (zI μ r1 v1.toNatClampNeg)) / (zI μ v0 1)))]) [1, 2, 0] (zdk tbX7_pace_0_ok 9 rfl) (Nat.le_of_ble_eq_true rfl) rfl ?_
  refine V_iload_n 2 (zdk tbX7_pace_0_ok 10 rfl) rfl ?_
  refine V_iconst (v := 1) (zdk tbX7_pace_0_ok 11 rfl) rfl ?_
  refine V_icmp_ge (tgt := 23) (zdk tbX7_pace_0_ok 12 rfl) (by decide) (fun c5 => ?_) (fun c5 => ?_)
  · replace h := ite_t h c5
    refine V_iload_n 2 (zdk tbX7_pace_0_ok 15 rfl) rfl ?_
    refine V_bipush (v := 9) (zdk tbX7_pace_0_ok 16 rfl) rfl ?_
    refine V_icmp_le (tgt := 34) (zdk tbX7_pace_0_ok 17 rfl) (by decide) (fun c6 => ?_) (fun c6 => ?_)
    · replace h := ite_t h c6
      refine V_iload_n 2 (zdk tbX7_pace_0_ok 20 rfl) rfl ?_
      refine V_sub (ls' := [(0, .ref v0), (1, .int v1)]) [0, 1] rfl ?_
      exact tX7_pace_b35 v0 v1 (((4 : Int32) * (zI μ r1 v1.toNatClampNeg)) / (zI μ v0 1)) μ c_v0 h
    · replace h := ite_f h c6
      refine V_bipush (v := 9) (zdk tbX7_pace_0_ok 18 rfl) rfl ?_
      refine V_goto (tgt := 35) (zdk tbX7_pace_0_ok 19 rfl) (by decide) ?_
      refine V_sub (ls' := [(0, .ref v0), (1, .int v1)]) [0, 1] rfl ?_
      exact tX7_pace_b35 v0 v1 (9 : Int32) μ c_v0 h
  · replace h := ite_f h c5
    refine V_iconst (v := 1) (zdk tbX7_pace_0_ok 13 rfl) rfl ?_
    refine V_goto (tgt := 35) (zdk tbX7_pace_0_ok 14 rfl) (by decide) ?_
    refine V_sub (ls' := [(0, .ref v0), (1, .int v1)]) [0, 1] rfl ?_
    exact tX7_pace_b35 v0 v1 (1 : Int32) μ c_v0 h

-- WhoComplainsCarriesModel.says
def tbX7_says_0 : List (Nat × Instr × Nat) := [(0, .aload_n 0, 1), (1, .iload_n 1, 1), (2, .invokevirtual 102, 3), (5, .ifCond .eq 13, 3), (8, .iload_n 2, 1), (9, .ifCond .lt 9, 3), (12, .iload_n 2, 1), (13, .bipush 6, 2), (15, .if_icmp .le 9, 3), (18, .aload_n 0, 1), (19, .iconst (-1), 1), (20, .invokevirtual 106, 3), (23, .ireturn, 1), (24, .aload_n 0, 1), (25, .getfield 47, 3), (28, .iload_n 1, 1), (29, .iaload, 1), (30, .iconst 1, 1), (31, .if_icmp .ne 10, 3), (34, .aload_n 0, 1), (35, .bipush (-2), 2), (37, .invokevirtual 106, 3), (40, .ireturn, 1), (41, .aload_n 0, 1), (42, .getfield 47, 3), (45, .iload_n 1, 1), (46, .iaload, 1), (47, .ifCond .ne 10, 3), (50, .aload_n 0, 1), (51, .bipush (-3), 2), (53, .invokevirtual 106, 3), (56, .ireturn, 1), (57, .aload_n 0, 1), (58, .getfield 56, 3), (61, .iload_n 1, 1), (62, .iaload, 1), (63, .istore_n 3, 1), (64, .aload_n 0, 1), (65, .getfield 32, 3), (68, .iload_n 3, 1), (69, .iaload, 1), (70, .istore 4, 2), (72, .iload_n 2, 1), (73, .iconst 1, 1), (74, .if_icmp .ne 9, 3), (77, .iload 4, 2), (79, .iconst 3, 1), (80, .if_icmp .eq 26, 3), (83, .iload_n 2, 1), (84, .iconst 2, 1)]
theorem tbX7_says_0_ok : ∀ q ∈ tbX7_says_0, decode cX7_says q.1 = .ok (q.2.1, q.2.2) := by decide +kernel
def tbX7_says_1 : List (Nat × Instr × Nat) := [(85, .if_icmp .ne 9, 3), (88, .iload 4, 2), (90, .iconst 5, 1), (91, .if_icmp .eq 15, 3), (94, .iload_n 2, 1), (95, .iconst 4, 1), (96, .if_icmp .ne 14, 3), (99, .iload 4, 2), (101, .bipush 6, 2), (103, .if_icmp .ne 7, 3), (106, .iconst 1, 1), (107, .goto 4, 3), (110, .iconst 0, 1), (111, .istore 5, 2), (113, .iload_n 2, 1), (114, .ifCond .eq 21, 3), (117, .iload_n 2, 1), (118, .iload 4, 2), (120, .if_icmp .eq 15, 3), (123, .iload 5, 2), (125, .ifCond .ne 10, 3), (128, .aload_n 0, 1), (129, .bipush (-2), 2), (131, .invokevirtual 106, 3), (134, .ireturn, 1), (135, .iload_n 2, 1), (136, .tableswitch 59 0 5 #[40, 47, 53, 47, 59, 53], 40), (176, .aload_n 0, 1), (177, .getfield 44, 3), (180, .iload_n 3, 1), (181, .iaload, 1), (182, .ireturn, 1), (183, .aload_n 0, 1), (184, .iload_n 3, 1), (185, .invokevirtual 113, 3), (188, .ireturn, 1), (189, .aload_n 0, 1), (190, .iload_n 3, 1), (191, .invokevirtual 116, 3), (194, .ireturn, 1), (195, .aload_n 0, 1), (196, .iload_n 3, 1), (197, .invokevirtual 119, 3), (200, .ireturn, 1)]
theorem tbX7_says_1_ok : ∀ q ∈ tbX7_says_1, decode cX7_says q.1 = .ok (q.2.1, q.2.2) := by decide +kernel
theorem wCX7_limit : zCW mX7_limit 1 := ⟨zin (i := 8) (by decide +kernel) rfl, zin (i := 987) (by decide +kernel) rfl, by decide +kernel, by decide +kernel, by decide +kernel⟩
theorem sC7_113 : zCV RX7 113 mX7_limit 1 := ⟨zin (i := 984) (by decide +kernel) rfl, zin (i := 986) (by decide +kernel) rfl, zinP (i := 32) (q := (yX7_limit, 42)) (by decide +kernel) rfl, wCX7_limit⟩
theorem wCX7_toil : zCW mX7_toil 1 := ⟨zin (i := 8) (by decide +kernel) rfl, zin (i := 991) (by decide +kernel) rfl, by decide +kernel, by decide +kernel, by decide +kernel⟩
theorem sC7_116 : zCV RX7 116 mX7_toil 1 := ⟨zin (i := 988) (by decide +kernel) rfl, zin (i := 990) (by decide +kernel) rfl, zinP (i := 33) (q := (yX7_toil, 42)) (by decide +kernel) rfl, wCX7_toil⟩
theorem wCX7_pace : zCW mX7_pace 1 := ⟨zin (i := 8) (by decide +kernel) rfl, zin (i := 995) (by decide +kernel) rfl, by decide +kernel, by decide +kernel, by decide +kernel⟩
theorem sC7_119 : zCV RX7 119 mX7_pace 1 := ⟨zin (i := 992) (by decide +kernel) rfl, zin (i := 994) (by decide +kernel) rfl, zinP (i := 34) (q := (yX7_pace, 42)) (by decide +kernel) rfl, wCX7_pace⟩
def fX7_says_b18 (n : Nat) (v0 : Nat) (μ : ZMem) : Option (ZMem × Int32) := bd2 (fX7_no n v0 (-1 : Int32) μ) (fun μ2 r3 => some (μ2, r3))
theorem tX7_says_b18 {l : Launch} {fr : Bool} {n : Nat} {z : ZMem × Int32} (v0 : Nat) (μ : ZMem) (c_v0 : isC n 7 v0 = true) (h : fX7_says_b18 n v0 μ = some z) : V (zkI l mX7_says (rmd 2) fr n z) fr 18 [(0, .ref v0)] [] n μ := by
  unfold fX7_says_b18 at h
  refine V_aload_n 0 (zdk tbX7_says_0_ok 9 rfl) rfl ?_
  refine V_iconst (v := (-1)) (zdk tbX7_says_0_ok 10 rfl) rfl ?_
  obtain ⟨μ2, r3, q1, h⟩ := bd2_some h
  refine V_callV (R1 := (rmd 1)) (As := [.int (-1 : Int32)]) (r := (some (.int r3))) (zdk tbX7_says_0_ok 11 rfl) sC7_106 (tX7_no q1) (c_v0) rfl rfl rfl ⟨Nat.le_of_ble_eq_true rfl, Nat.le_of_ble_eq_true rfl⟩ (Nat.le_of_ble_eq_true rfl) ⟨rfl, rfl⟩ id ?_
  cases h
  exact V_iret (zdk tbX7_says_0_ok 12 rfl) rfl rfl
def fX7_says_b183 (n : Nat) (v0 : Nat) (v3 : Int32) (μ : ZMem) : Option (ZMem × Int32) := bd2 (fX7_limit n v0 v3 μ) (fun μ2 r3 => some (μ2, r3))
theorem tX7_says_b183 {l : Launch} {fr : Bool} {n : Nat} {z : ZMem × Int32} (v0 : Nat) (v3 : Int32) (μ : ZMem) (c_v0 : isC n 7 v0 = true) (h : fX7_says_b183 n v0 v3 μ = some z) : V (zkI l mX7_says (rmd 2) fr n z) fr 183 [(0, .ref v0), (3, .int v3)] [] n μ := by
  unfold fX7_says_b183 at h
  refine V_aload_n 0 (zdk tbX7_says_1_ok 32 rfl) rfl ?_
  refine V_iload_n 1 (zdk tbX7_says_1_ok 33 rfl) rfl ?_
  obtain ⟨μ2, r3, q1, h⟩ := bd2_some h
  refine V_callV (R1 := (rmd 1)) (As := [.int v3]) (r := (some (.int r3))) (zdk tbX7_says_1_ok 34 rfl) sC7_113 (tX7_limit q1) (c_v0) rfl rfl rfl ⟨Nat.le_of_ble_eq_true rfl, Nat.le_of_ble_eq_true rfl⟩ (Nat.le_of_ble_eq_true rfl) ⟨rfl, rfl⟩ id ?_
  cases h
  exact V_iret (zdk tbX7_says_1_ok 35 rfl) rfl rfl
def fX7_says_b189 (n : Nat) (v0 : Nat) (v3 : Int32) (μ : ZMem) : Option (ZMem × Int32) := bd2 (fX7_toil n v0 v3 μ) (fun μ2 r3 => some (μ2, r3))
theorem tX7_says_b189 {l : Launch} {fr : Bool} {n : Nat} {z : ZMem × Int32} (v0 : Nat) (v3 : Int32) (μ : ZMem) (c_v0 : isC n 7 v0 = true) (h : fX7_says_b189 n v0 v3 μ = some z) : V (zkI l mX7_says (rmd 2) fr n z) fr 189 [(0, .ref v0), (3, .int v3)] [] n μ := by
  unfold fX7_says_b189 at h
  refine V_aload_n 0 (zdk tbX7_says_1_ok 36 rfl) rfl ?_
  refine V_iload_n 1 (zdk tbX7_says_1_ok 37 rfl) rfl ?_
  obtain ⟨μ2, r3, q1, h⟩ := bd2_some h
  refine V_callV (R1 := (rmd 1)) (As := [.int v3]) (r := (some (.int r3))) (zdk tbX7_says_1_ok 38 rfl) sC7_116 (tX7_toil q1) (c_v0) rfl rfl rfl ⟨Nat.le_of_ble_eq_true rfl, Nat.le_of_ble_eq_true rfl⟩ (Nat.le_of_ble_eq_true rfl) ⟨rfl, rfl⟩ id ?_
  cases h
  exact V_iret (zdk tbX7_says_1_ok 39 rfl) rfl rfl
def fX7_says_b195 (n : Nat) (v0 : Nat) (v3 : Int32) (μ : ZMem) : Option (ZMem × Int32) := bd2 (fX7_pace n v0 v3 μ) (fun μ2 r3 => some (μ2, r3))
theorem tX7_says_b195 {l : Launch} {fr : Bool} {n : Nat} {z : ZMem × Int32} (v0 : Nat) (v3 : Int32) (μ : ZMem) (c_v0 : isC n 7 v0 = true) (h : fX7_says_b195 n v0 v3 μ = some z) : V (zkI l mX7_says (rmd 2) fr n z) fr 195 [(0, .ref v0), (3, .int v3)] [] n μ := by
  unfold fX7_says_b195 at h
  refine V_aload_n 0 (zdk tbX7_says_1_ok 40 rfl) rfl ?_
  refine V_iload_n 1 (zdk tbX7_says_1_ok 41 rfl) rfl ?_
  obtain ⟨μ2, r3, q1, h⟩ := bd2_some h
  refine V_callV (R1 := (rmd 1)) (As := [.int v3]) (r := (some (.int r3))) (zdk tbX7_says_1_ok 42 rfl) sC7_119 (tX7_pace q1) (c_v0) rfl rfl rfl ⟨Nat.le_of_ble_eq_true rfl, Nat.le_of_ble_eq_true rfl⟩ (Nat.le_of_ble_eq_true rfl) ⟨rfl, rfl⟩ id ?_
  cases h
  exact V_iret (zdk tbX7_says_1_ok 43 rfl) rfl rfl
def fX7_says_b135 (n : Nat) (v0 : Nat) (v2 : Int32) (v3 : Int32) (μ : ZMem) : Option (ZMem × Int32) := (if v2 = (0 : Int32) then bd1 (zRc n 100 μ v0 14) (fun r2 => chk (inb v3 r2) (some (μ, (zI μ r2 v3.toNatClampNeg)))) else (if v2 = (1 : Int32) then (fX7_says_b183 n v0 v3 μ) else (if v2 = (2 : Int32) then (fX7_says_b189 n v0 v3 μ) else (if v2 = (3 : Int32) then (fX7_says_b183 n v0 v3 μ) else (if v2 = (4 : Int32) then (fX7_says_b195 n v0 v3 μ) else (if v2 = (5 : Int32) then (fX7_says_b189 n v0 v3 μ) else (fX7_says_b195 n v0 v3 μ)))))))
theorem tX7_says_b135 {l : Launch} {fr : Bool} {n : Nat} {z : ZMem × Int32} (v0 : Nat) (v2 : Int32) (v3 : Int32) (μ : ZMem) (c_v0 : isC n 7 v0 = true) (h : fX7_says_b135 n v0 v2 v3 μ = some z) : V (zkI l mX7_says (rmd 2) fr n z) fr 135 [(0, .ref v0), (2, .int v2), (3, .int v3)] [] n μ := by
  unfold fX7_says_b135 at h
  refine V_iload_n 1 (zdk tbX7_says_1_ok 25 rfl) rfl ?_
  by_cases c1 : v2 = (0 : Int32)
  · replace h := ite_t h c1
    refine V_tsw (off := 40) (tgt := 176) 0 c1 (zdk tbX7_says_1_ok 26 rfl) (by decide) rfl (by decide) ?_
    refine V_aload_n 0 (zdk tbX7_says_1_ok 27 rfl) rfl ?_
    obtain ⟨r2, q3, h⟩ := bd1_some h
    obtain ⟨q3, c_r2⟩ := zRc_some q3
    refine V_getR (zdk tbX7_says_1_ok 28 rfl) c_v0 fF7_44 rfl q3 ?_
    refine V_iload_n 2 (zdk tbX7_says_1_ok 29 rfl) rfl ?_
    obtain ⟨b4, h⟩ := chk_some h
    refine V_iald (zdk tbX7_says_1_ok 30 rfl) c_r2 b4 ?_
    cases h
    exact V_iret (zdk tbX7_says_1_ok 31 rfl) rfl rfl
  · replace h := ite_f h c1
    by_cases c5 : v2 = (1 : Int32)
    · replace h := ite_t h c5
      refine V_tsw (off := 47) (tgt := 183) 1 c5 (zdk tbX7_says_1_ok 26 rfl) (by decide) rfl (by decide) ?_
      refine V_sub (ls' := [(0, .ref v0), (3, .int v3)]) [0, 2] rfl ?_
      exact tX7_says_b183 v0 v3 μ c_v0 h
    · replace h := ite_f h c5
      by_cases c6 : v2 = (2 : Int32)
      · replace h := ite_t h c6
        refine V_tsw (off := 53) (tgt := 189) 2 c6 (zdk tbX7_says_1_ok 26 rfl) (by decide) rfl (by decide) ?_
        refine V_sub (ls' := [(0, .ref v0), (3, .int v3)]) [0, 2] rfl ?_
        exact tX7_says_b189 v0 v3 μ c_v0 h
      · replace h := ite_f h c6
        by_cases c7 : v2 = (3 : Int32)
        · replace h := ite_t h c7
          refine V_tsw (off := 47) (tgt := 183) 3 c7 (zdk tbX7_says_1_ok 26 rfl) (by decide) rfl (by decide) ?_
          refine V_sub (ls' := [(0, .ref v0), (3, .int v3)]) [0, 2] rfl ?_
          exact tX7_says_b183 v0 v3 μ c_v0 h
        · replace h := ite_f h c7
          by_cases c8 : v2 = (4 : Int32)
          · replace h := ite_t h c8
            refine V_tsw (off := 59) (tgt := 195) 4 c8 (zdk tbX7_says_1_ok 26 rfl) (by decide) rfl (by decide) ?_
            refine V_sub (ls' := [(0, .ref v0), (3, .int v3)]) [0, 2] rfl ?_
            exact tX7_says_b195 v0 v3 μ c_v0 h
          · replace h := ite_f h c8
            by_cases c9 : v2 = (5 : Int32)
            · replace h := ite_t h c9
              refine V_tsw (off := 53) (tgt := 189) 5 c9 (zdk tbX7_says_1_ok 26 rfl) (by decide) rfl (by decide) ?_
              refine V_sub (ls' := [(0, .ref v0), (3, .int v3)]) [0, 2] rfl ?_
              exact tX7_says_b189 v0 v3 μ c_v0 h
            · replace h := ite_f h c9
              refine V_tsw0 (tgt := 195) [0, 1, 2, 3, 4, 5] (List.forall_mem_cons.mpr ⟨c1, List.forall_mem_cons.mpr ⟨c5, List.forall_mem_cons.mpr ⟨c6, List.forall_mem_cons.mpr ⟨c7, List.forall_mem_cons.mpr ⟨c8, List.forall_mem_cons.mpr ⟨c9, fun _ h => absurd h List.not_mem_nil⟩⟩⟩⟩⟩⟩) (zdk tbX7_says_1_ok 26 rfl) (by decide) (by decide) (by decide) ?_
              refine V_sub (ls' := [(0, .ref v0), (3, .int v3)]) [0, 2] rfl ?_
              exact tX7_says_b195 v0 v3 μ c_v0 h
def fX7_says_b111 (n : Nat) (v0 : Nat) (v2 : Int32) (v3 : Int32) (v4 : Int32) (s0 : Int32) (μ : ZMem) : Option (ZMem × Int32) := (if v2 = 0 then (fX7_says_b135 n v0 v2 v3 μ) else (if v2 = v4 then (fX7_says_b135 n v0 v2 v3 μ) else (if s0 = 0 then bd2 (fX7_no n v0 (-2 : Int32) μ) (fun μ5 r6 => some (μ5, r6)) else (fX7_says_b135 n v0 v2 v3 μ))))
theorem tX7_says_b111 {l : Launch} {fr : Bool} {n : Nat} {z : ZMem × Int32} (v0 : Nat) (v2 : Int32) (v3 : Int32) (v4 : Int32) (s0 : Int32) (μ : ZMem) (c_v0 : isC n 7 v0 = true) (h : fX7_says_b111 n v0 v2 v3 v4 s0 μ = some z) : V (zkI l mX7_says (rmd 2) fr n z) fr 111 [(0, .ref v0), (2, .int v2), (3, .int v3), (4, .int v4)] [.int s0] n μ := by
  unfold fX7_says_b111 at h
  refine V_istore (ls' := [(0, .ref v0), (2, .int v2), (3, .int v3), (4, .int v4), (5, .int s0)]) [1, 2, 3, 4, 0] (zdk tbX7_says_1_ok 13 rfl) (Nat.le_of_ble_eq_true rfl) rfl ?_
  refine V_iload_n 1 (zdk tbX7_says_1_ok 14 rfl) rfl ?_
  refine V_if_eq (tgt := 135) (zdk tbX7_says_1_ok 15 rfl) (by decide) (fun c1 => ?_) (fun c1 => ?_)
  · replace h := ite_t h c1
    refine V_sub (ls' := [(0, .ref v0), (2, .int v2), (3, .int v3)]) [0, 1, 2] rfl ?_
    exact tX7_says_b135 v0 v2 v3 μ c_v0 h
  · replace h := ite_f h c1
    refine V_iload_n 1 (zdk tbX7_says_1_ok 16 rfl) rfl ?_
    refine V_iload 3 (zdk tbX7_says_1_ok 17 rfl) rfl ?_
    refine V_icmp_eq (tgt := 135) (zdk tbX7_says_1_ok 18 rfl) (by decide) (fun c2 => ?_) (fun c2 => ?_)
    · replace h := ite_t h c2
      refine V_sub (ls' := [(0, .ref v0), (2, .int v2), (3, .int v3)]) [0, 1, 2] rfl ?_
      exact tX7_says_b135 v0 v2 v3 μ c_v0 h
    · replace h := ite_f h c2
      refine V_iload 4 (zdk tbX7_says_1_ok 19 rfl) rfl ?_
      refine V_if_ne (tgt := 135) (zdk tbX7_says_1_ok 20 rfl) (by decide) (fun c3 => ?_) (fun c3 => ?_)
      · replace h := ite_f h c3
        refine V_sub (ls' := [(0, .ref v0), (2, .int v2), (3, .int v3)]) [0, 1, 2] rfl ?_
        exact tX7_says_b135 v0 v2 v3 μ c_v0 h
      · replace h := ite_t h c3
        refine V_aload_n 0 (zdk tbX7_says_1_ok 21 rfl) rfl ?_
        refine V_bipush (v := (-2)) (zdk tbX7_says_1_ok 22 rfl) rfl ?_
        obtain ⟨μ5, r6, q4, h⟩ := bd2_some h
        refine V_callV (R1 := (rmd 1)) (As := [.int (-2 : Int32)]) (r := (some (.int r6))) (zdk tbX7_says_1_ok 23 rfl) sC7_106 (tX7_no q4) (c_v0) rfl rfl rfl ⟨Nat.le_of_ble_eq_true rfl, Nat.le_of_ble_eq_true rfl⟩ (Nat.le_of_ble_eq_true rfl) ⟨rfl, rfl⟩ id ?_
        cases h
        exact V_iret (zdk tbX7_says_1_ok 24 rfl) rfl rfl
def fX7_says_b106 (n : Nat) (v0 : Nat) (v2 : Int32) (v3 : Int32) (v4 : Int32) (μ : ZMem) : Option (ZMem × Int32) := (fX7_says_b111 n v0 v2 v3 v4 (1 : Int32) μ)
theorem tX7_says_b106 {l : Launch} {fr : Bool} {n : Nat} {z : ZMem × Int32} (v0 : Nat) (v2 : Int32) (v3 : Int32) (v4 : Int32) (μ : ZMem) (c_v0 : isC n 7 v0 = true) (h : fX7_says_b106 n v0 v2 v3 v4 μ = some z) : V (zkI l mX7_says (rmd 2) fr n z) fr 106 [(0, .ref v0), (2, .int v2), (3, .int v3), (4, .int v4)] [] n μ := by
  unfold fX7_says_b106 at h
  refine V_iconst (v := 1) (zdk tbX7_says_1_ok 10 rfl) rfl ?_
  refine V_goto (tgt := 111) (zdk tbX7_says_1_ok 11 rfl) (by decide) ?_
  exact tX7_says_b111 v0 v2 v3 v4 (1 : Int32) μ c_v0 h
def fX7_says_b110 (n : Nat) (v0 : Nat) (v2 : Int32) (v3 : Int32) (v4 : Int32) (μ : ZMem) : Option (ZMem × Int32) := (fX7_says_b111 n v0 v2 v3 v4 (0 : Int32) μ)
theorem tX7_says_b110 {l : Launch} {fr : Bool} {n : Nat} {z : ZMem × Int32} (v0 : Nat) (v2 : Int32) (v3 : Int32) (v4 : Int32) (μ : ZMem) (c_v0 : isC n 7 v0 = true) (h : fX7_says_b110 n v0 v2 v3 v4 μ = some z) : V (zkI l mX7_says (rmd 2) fr n z) fr 110 [(0, .ref v0), (2, .int v2), (3, .int v3), (4, .int v4)] [] n μ := by
  unfold fX7_says_b110 at h
  refine V_iconst (v := 0) (zdk tbX7_says_1_ok 12 rfl) rfl ?_
  exact tX7_says_b111 v0 v2 v3 v4 (0 : Int32) μ c_v0 h
def fX7_says_b94 (n : Nat) (v0 : Nat) (v2 : Int32) (v3 : Int32) (v4 : Int32) (μ : ZMem) : Option (ZMem × Int32) := (if v2 = (4 : Int32) then (if v4 = (6 : Int32) then (fX7_says_b106 n v0 v2 v3 v4 μ) else (fX7_says_b110 n v0 v2 v3 v4 μ)) else (fX7_says_b110 n v0 v2 v3 v4 μ))
theorem tX7_says_b94 {l : Launch} {fr : Bool} {n : Nat} {z : ZMem × Int32} (v0 : Nat) (v2 : Int32) (v3 : Int32) (v4 : Int32) (μ : ZMem) (c_v0 : isC n 7 v0 = true) (h : fX7_says_b94 n v0 v2 v3 v4 μ = some z) : V (zkI l mX7_says (rmd 2) fr n z) fr 94 [(0, .ref v0), (2, .int v2), (3, .int v3), (4, .int v4)] [] n μ := by
  unfold fX7_says_b94 at h
  refine V_iload_n 1 (zdk tbX7_says_1_ok 4 rfl) rfl ?_
  refine V_iconst (v := 4) (zdk tbX7_says_1_ok 5 rfl) rfl ?_
  refine V_icmp_ne (tgt := 110) (zdk tbX7_says_1_ok 6 rfl) (by decide) (fun c1 => ?_) (fun c1 => ?_)
  · replace h := ite_f h c1
    exact tX7_says_b110 v0 v2 v3 v4 μ c_v0 h
  · replace h := ite_t h c1
    refine V_iload 3 (zdk tbX7_says_1_ok 7 rfl) rfl ?_
    refine V_bipush (v := 6) (zdk tbX7_says_1_ok 8 rfl) rfl ?_
    refine V_icmp_ne (tgt := 110) (zdk tbX7_says_1_ok 9 rfl) (by decide) (fun c2 => ?_) (fun c2 => ?_)
    · replace h := ite_f h c2
      exact tX7_says_b110 v0 v2 v3 v4 μ c_v0 h
    · replace h := ite_t h c2
      exact tX7_says_b106 v0 v2 v3 v4 μ c_v0 h
def fX7_says_b83 (n : Nat) (v0 : Nat) (v2 : Int32) (v3 : Int32) (v4 : Int32) (μ : ZMem) : Option (ZMem × Int32) := (if v2 = (2 : Int32) then (if v4 = (5 : Int32) then (fX7_says_b106 n v0 v2 v3 v4 μ) else (fX7_says_b94 n v0 v2 v3 v4 μ)) else (fX7_says_b94 n v0 v2 v3 v4 μ))
theorem tX7_says_b83 {l : Launch} {fr : Bool} {n : Nat} {z : ZMem × Int32} (v0 : Nat) (v2 : Int32) (v3 : Int32) (v4 : Int32) (μ : ZMem) (c_v0 : isC n 7 v0 = true) (h : fX7_says_b83 n v0 v2 v3 v4 μ = some z) : V (zkI l mX7_says (rmd 2) fr n z) fr 83 [(0, .ref v0), (2, .int v2), (3, .int v3), (4, .int v4)] [] n μ := by
  unfold fX7_says_b83 at h
  refine V_iload_n 1 (zdk tbX7_says_0_ok 48 rfl) rfl ?_
  refine V_iconst (v := 2) (zdk tbX7_says_0_ok 49 rfl) rfl ?_
  refine V_icmp_ne (tgt := 94) (zdk tbX7_says_1_ok 0 rfl) (by decide) (fun c1 => ?_) (fun c1 => ?_)
  · replace h := ite_f h c1
    exact tX7_says_b94 v0 v2 v3 v4 μ c_v0 h
  · replace h := ite_t h c1
    refine V_iload 3 (zdk tbX7_says_1_ok 1 rfl) rfl ?_
    refine V_iconst (v := 5) (zdk tbX7_says_1_ok 2 rfl) rfl ?_
    refine V_icmp_eq (tgt := 106) (zdk tbX7_says_1_ok 3 rfl) (by decide) (fun c2 => ?_) (fun c2 => ?_)
    · replace h := ite_t h c2
      exact tX7_says_b106 v0 v2 v3 v4 μ c_v0 h
    · replace h := ite_f h c2
      exact tX7_says_b94 v0 v2 v3 v4 μ c_v0 h
def fX7_says (n : Nat) (v0 : Nat) (v1 : Int32) (v2 : Int32) (μ : ZMem) : Option (ZMem × Int32) := chk (isC n 7 v0) (bd2 (fX7_isShelf n v0 v1 μ) (fun μ2 r3 => (if r3 = 0 then (fX7_says_b18 n v0 μ2) else (if v2 < 0 then (fX7_says_b18 n v0 μ2) else (if v2 ≤ (6 : Int32) then bd1 (zRc n 100 μ2 v0 15) (fun r7 => chk (inb v1 r7) ((if (zI μ2 r7 v1.toNatClampNeg) = (1 : Int32) then bd2 (fX7_no n v0 (-2 : Int32) μ2) (fun μ27 r28 => some (μ27, r28)) else bd1 (zRc n 100 μ2 v0 15) (fun r11 => chk (inb v1 r11) ((if (zI μ2 r11 v1.toNatClampNeg) = 0 then bd2 (fX7_no n v0 (-3 : Int32) μ2) (fun μ24 r25 => some (μ24, r25)) else bd1 (zRc n 100 μ2 v0 18) (fun r15 => chk (inb v1 r15) (bd1 (zRc n 100 μ2 v0 10) (fun r18 => chk (inb (zI μ2 r15 v1.toNatClampNeg) r18) ((if v2 = (1 : Int32) then (if (zI μ2 r18 (zI μ2 r15 v1.toNatClampNeg).toNatClampNeg) = (3 : Int32) then (fX7_says_b106 n v0 v2 (zI μ2 r15 v1.toNatClampNeg) (zI μ2 r18 (zI μ2 r15 v1.toNatClampNeg).toNatClampNeg) μ2) else (fX7_says_b83 n v0 v2 (zI μ2 r15 v1.toNatClampNeg) (zI μ2 r18 (zI μ2 r15 v1.toNatClampNeg).toNatClampNeg) μ2)) else (fX7_says_b83 n v0 v2 (zI μ2 r15 v1.toNatClampNeg) (zI μ2 r18 (zI μ2 r15 v1.toNatClampNeg).toNatClampNeg) μ2)))))))))))) else (fX7_says_b18 n v0 μ2))))))
theorem tX7_says {l : Launch} {fr : Bool} {n : Nat} {v0 : Nat} {v1 : Int32} {v2 : Int32} {μ : ZMem} {z : ZMem × Int32} (h : fX7_says n v0 v1 v2 μ = some z) : ZFn l mX7_says (rmd 2) [.ref v0, .int v1, .int v2] fr n μ (fr, n, z.1, some (.int z.2)) := by
  unfold fX7_says at h
  obtain ⟨c_v0, h⟩ := chk_some h
  refine ZFn.of (ls := [(0, .ref v0), (1, .int v1), (2, .int v2)]) (by decide) (fun ξ => Nat.le_of_ble_eq_true rfl) (fun ξ => rfl) ?_
  refine V_aload_n 0 (zdk tbX7_says_0_ok 0 rfl) rfl ?_
  refine V_iload_n 1 (zdk tbX7_says_0_ok 1 rfl) rfl ?_
  obtain ⟨μ2, r3, q1, h⟩ := bd2_some h
  refine V_callV (R1 := (rmd 1)) (As := [.int v1]) (r := (some (.int r3))) (zdk tbX7_says_0_ok 2 rfl) sC7_102 (tX7_isShelf q1) (c_v0) rfl rfl rfl ⟨Nat.le_of_ble_eq_true rfl, Nat.le_of_ble_eq_true rfl⟩ (Nat.le_of_ble_eq_true rfl) ⟨rfl, rfl⟩ id ?_
  refine V_if_eq (tgt := 18) (zdk tbX7_says_0_ok 3 rfl) (by decide) (fun c4 => ?_) (fun c4 => ?_)
  · replace h := ite_t h c4
    refine V_sub (ls' := [(0, .ref v0)]) [0] rfl ?_
    exact tX7_says_b18 v0 μ2 c_v0 h
  · replace h := ite_f h c4
    refine V_iload_n 2 (zdk tbX7_says_0_ok 4 rfl) rfl ?_
    refine V_if_lt (tgt := 18) (zdk tbX7_says_0_ok 5 rfl) (by decide) (fun c5 => ?_) (fun c5 => ?_)
    · replace h := ite_t h c5
      refine V_sub (ls' := [(0, .ref v0)]) [0] rfl ?_
      exact tX7_says_b18 v0 μ2 c_v0 h
    · replace h := ite_f h c5
      refine V_iload_n 2 (zdk tbX7_says_0_ok 6 rfl) rfl ?_
      refine V_bipush (v := 6) (zdk tbX7_says_0_ok 7 rfl) rfl ?_
      refine V_icmp_le (tgt := 24) (zdk tbX7_says_0_ok 8 rfl) (by decide) (fun c6 => ?_) (fun c6 => ?_)
      · replace h := ite_t h c6
        refine V_aload_n 0 (zdk tbX7_says_0_ok 13 rfl) rfl ?_
        obtain ⟨r7, q8, h⟩ := bd1_some h
        obtain ⟨q8, c_r7⟩ := zRc_some q8
        refine V_getR (zdk tbX7_says_0_ok 14 rfl) c_v0 fF7_47 rfl q8 ?_
        refine V_iload_n 1 (zdk tbX7_says_0_ok 15 rfl) rfl ?_
        obtain ⟨b9, h⟩ := chk_some h
        refine V_iald (zdk tbX7_says_0_ok 16 rfl) c_r7 b9 ?_
        refine V_iconst (v := 1) (zdk tbX7_says_0_ok 17 rfl) rfl ?_
        refine V_icmp_ne (tgt := 41) (zdk tbX7_says_0_ok 18 rfl) (by decide) (fun c10 => ?_) (fun c10 => ?_)
        · replace h := ite_f h c10
          refine V_aload_n 0 (zdk tbX7_says_0_ok 23 rfl) rfl ?_
          obtain ⟨r11, q12, h⟩ := bd1_some h
          obtain ⟨q12, c_r11⟩ := zRc_some q12
          refine V_getR (zdk tbX7_says_0_ok 24 rfl) c_v0 fF7_47 rfl q12 ?_
          refine V_iload_n 1 (zdk tbX7_says_0_ok 25 rfl) rfl ?_
          obtain ⟨b13, h⟩ := chk_some h
          refine V_iald (zdk tbX7_says_0_ok 26 rfl) c_r11 b13 ?_
          refine V_if_ne (tgt := 57) (zdk tbX7_says_0_ok 27 rfl) (by decide) (fun c14 => ?_) (fun c14 => ?_)
          · replace h := ite_f h c14
            refine V_aload_n 0 (zdk tbX7_says_0_ok 32 rfl) rfl ?_
            obtain ⟨r15, q16, h⟩ := bd1_some h
            obtain ⟨q16, c_r15⟩ := zRc_some q16
            refine V_getR (zdk tbX7_says_0_ok 33 rfl) c_v0 fF7_56 rfl q16 ?_
            refine V_iload_n 1 (zdk tbX7_says_0_ok 34 rfl) rfl ?_
            obtain ⟨b17, h⟩ := chk_some h
            refine V_iald (zdk tbX7_says_0_ok 35 rfl) c_r15 b17 ?_
            refine V_istore_n (ls' := [(0, .ref v0), (2, .int v2), (3, .int (zI μ2 r15 v1.toNatClampNeg))]) [1, 3, 0] (zdk tbX7_says_0_ok 36 rfl) (Nat.le_of_ble_eq_true rfl) rfl ?_
            refine V_aload_n 0 (zdk tbX7_says_0_ok 37 rfl) rfl ?_
            obtain ⟨r18, q19, h⟩ := bd1_some h
            obtain ⟨q19, c_r18⟩ := zRc_some q19
            refine V_getR (zdk tbX7_says_0_ok 38 rfl) c_v0 fF7_32 rfl q19 ?_
            refine V_iload_n 2 (zdk tbX7_says_0_ok 39 rfl) rfl ?_
            obtain ⟨b20, h⟩ := chk_some h
            refine V_iald (zdk tbX7_says_0_ok 40 rfl) c_r18 b20 ?_
            refine V_istore (ls' := [(0, .ref v0), (2, .int v2), (3, .int (zI μ2 r15 v1.toNatClampNeg)), (4, .int (zI μ2 r18 (zI μ2 r15 v1.toNatClampNeg).toNatClampNeg))]) [1, 2, 3, 0] (zdk tbX7_says_0_ok 41 rfl) (Nat.le_of_ble_eq_true rfl) rfl ?_
            refine V_iload_n 1 (zdk tbX7_says_0_ok 42 rfl) rfl ?_
            refine V_iconst (v := 1) (zdk tbX7_says_0_ok 43 rfl) rfl ?_
            refine V_icmp_ne (tgt := 83) (zdk tbX7_says_0_ok 44 rfl) (by decide) (fun c21 => ?_) (fun c21 => ?_)
            · replace h := ite_f h c21
              exact tX7_says_b83 v0 v2 (zI μ2 r15 v1.toNatClampNeg) (zI μ2 r18 (zI μ2 r15 v1.toNatClampNeg).toNatClampNeg) μ2 c_v0 h
            · replace h := ite_t h c21
              refine V_iload 3 (zdk tbX7_says_0_ok 45 rfl) rfl ?_
              refine V_iconst (v := 3) (zdk tbX7_says_0_ok 46 rfl) rfl ?_
              refine V_icmp_eq (tgt := 106) (zdk tbX7_says_0_ok 47 rfl) (by decide) (fun c22 => ?_) (fun c22 => ?_)
              · replace h := ite_t h c22
                exact tX7_says_b106 v0 v2 (zI μ2 r15 v1.toNatClampNeg) (zI μ2 r18 (zI μ2 r15 v1.toNatClampNeg).toNatClampNeg) μ2 c_v0 h
              · replace h := ite_f h c22
                exact tX7_says_b83 v0 v2 (zI μ2 r15 v1.toNatClampNeg) (zI μ2 r18 (zI μ2 r15 v1.toNatClampNeg).toNatClampNeg) μ2 c_v0 h
          · replace h := ite_t h c14
            refine V_aload_n 0 (zdk tbX7_says_0_ok 28 rfl) rfl ?_
            refine V_bipush (v := (-3)) (zdk tbX7_says_0_ok 29 rfl) rfl ?_
            obtain ⟨μ24, r25, q23, h⟩ := bd2_some h
            refine V_callV (R1 := (rmd 1)) (As := [.int (-3 : Int32)]) (r := (some (.int r25))) (zdk tbX7_says_0_ok 30 rfl) sC7_106 (tX7_no q23) (c_v0) rfl rfl rfl ⟨Nat.le_of_ble_eq_true rfl, Nat.le_of_ble_eq_true rfl⟩ (Nat.le_of_ble_eq_true rfl) ⟨rfl, rfl⟩ id ?_
            cases h
            exact V_iret (zdk tbX7_says_0_ok 31 rfl) rfl rfl
        · replace h := ite_t h c10
          refine V_aload_n 0 (zdk tbX7_says_0_ok 19 rfl) rfl ?_
          refine V_bipush (v := (-2)) (zdk tbX7_says_0_ok 20 rfl) rfl ?_
          obtain ⟨μ27, r28, q26, h⟩ := bd2_some h
          refine V_callV (R1 := (rmd 1)) (As := [.int (-2 : Int32)]) (r := (some (.int r28))) (zdk tbX7_says_0_ok 21 rfl) sC7_106 (tX7_no q26) (c_v0) rfl rfl rfl ⟨Nat.le_of_ble_eq_true rfl, Nat.le_of_ble_eq_true rfl⟩ (Nat.le_of_ble_eq_true rfl) ⟨rfl, rfl⟩ id ?_
          cases h
          exact V_iret (zdk tbX7_says_0_ok 22 rfl) rfl rfl
      · replace h := ite_f h c6
        refine V_sub (ls' := [(0, .ref v0)]) [0] rfl ?_
        exact tX7_says_b18 v0 μ2 c_v0 h

-- WhoComplainsCarriesModel.wanted
def tbX7_wanted_0 : List (Nat × Instr × Nat) := [(0, .aload_n 0, 1), (1, .iload_n 1, 1), (2, .invokevirtual 102, 3), (5, .ifCond .ne 7, 3), (8, .iconst (-1), 1), (9, .goto 33, 3), (12, .aload_n 0, 1), (13, .getfield 47, 3), (16, .iload_n 1, 1), (17, .iaload, 1), (18, .iconst 2, 1), (19, .if_icmp .ne 8, 3), (22, .bipush (-2), 2), (24, .goto 18, 3), (27, .aload_n 0, 1), (28, .getfield 47, 3), (31, .iload_n 1, 1), (32, .iaload, 1), (33, .ifCond .ne 8, 3), (36, .bipush (-3), 2), (38, .goto 4, 3), (41, .iconst 0, 1), (42, .ireturn, 1)]
theorem tbX7_wanted_0_ok : ∀ q ∈ tbX7_wanted_0, decode cX7_wanted q.1 = .ok (q.2.1, q.2.2) := by decide +kernel
def fX7_wanted_b42 (n : Nat) (s0 : Int32) (μ : ZMem) : Option (ZMem × Int32) := some (μ, s0)
theorem tX7_wanted_b42 {l : Launch} {fr : Bool} {n : Nat} {z : ZMem × Int32} (s0 : Int32) (μ : ZMem) (h : fX7_wanted_b42 n s0 μ = some z) : V (zkI l mX7_wanted (rmd 2) fr n z) fr 42 [] [.int s0] n μ := by
  unfold fX7_wanted_b42 at h
  cases h
  exact V_iret (zdk tbX7_wanted_0_ok 22 rfl) rfl rfl
def fX7_wanted (n : Nat) (v0 : Nat) (v1 : Int32) (μ : ZMem) : Option (ZMem × Int32) := chk (isC n 7 v0) (bd2 (fX7_isShelf n v0 v1 μ) (fun μ2 r3 => (if r3 = 0 then (fX7_wanted_b42 n (-1 : Int32) μ2) else bd1 (zRc n 100 μ2 v0 15) (fun r5 => chk (inb v1 r5) ((if (zI μ2 r5 v1.toNatClampNeg) = (2 : Int32) then (fX7_wanted_b42 n (-2 : Int32) μ2) else bd1 (zRc n 100 μ2 v0 15) (fun r9 => chk (inb v1 r9) ((if (zI μ2 r9 v1.toNatClampNeg) = 0 then (fX7_wanted_b42 n (-3 : Int32) μ2) else (fX7_wanted_b42 n (0 : Int32) μ2))))))))))
theorem tX7_wanted {l : Launch} {fr : Bool} {n : Nat} {v0 : Nat} {v1 : Int32} {μ : ZMem} {z : ZMem × Int32} (h : fX7_wanted n v0 v1 μ = some z) : ZFn l mX7_wanted (rmd 2) [.ref v0, .int v1] fr n μ (fr, n, z.1, some (.int z.2)) := by
  unfold fX7_wanted at h
  obtain ⟨c_v0, h⟩ := chk_some h
  refine ZFn.of (ls := [(0, .ref v0), (1, .int v1)]) (by decide) (fun ξ => Nat.le_of_ble_eq_true rfl) (fun ξ => rfl) ?_
  refine V_aload_n 0 (zdk tbX7_wanted_0_ok 0 rfl) rfl ?_
  refine V_iload_n 1 (zdk tbX7_wanted_0_ok 1 rfl) rfl ?_
  obtain ⟨μ2, r3, q1, h⟩ := bd2_some h
  refine V_callV (R1 := (rmd 1)) (As := [.int v1]) (r := (some (.int r3))) (zdk tbX7_wanted_0_ok 2 rfl) sC7_102 (tX7_isShelf q1) (c_v0) rfl rfl rfl ⟨Nat.le_of_ble_eq_true rfl, Nat.le_of_ble_eq_true rfl⟩ (Nat.le_of_ble_eq_true rfl) ⟨rfl, rfl⟩ id ?_
  refine V_if_ne (tgt := 12) (zdk tbX7_wanted_0_ok 3 rfl) (by decide) (fun c4 => ?_) (fun c4 => ?_)
  · replace h := ite_f h c4
    refine V_aload_n 0 (zdk tbX7_wanted_0_ok 6 rfl) rfl ?_
    obtain ⟨r5, q6, h⟩ := bd1_some h
    obtain ⟨q6, c_r5⟩ := zRc_some q6
    refine V_getR (zdk tbX7_wanted_0_ok 7 rfl) c_v0 fF7_47 rfl q6 ?_
    refine V_iload_n 1 (zdk tbX7_wanted_0_ok 8 rfl) rfl ?_
    obtain ⟨b7, h⟩ := chk_some h
    refine V_iald (zdk tbX7_wanted_0_ok 9 rfl) c_r5 b7 ?_
    refine V_iconst (v := 2) (zdk tbX7_wanted_0_ok 10 rfl) rfl ?_
    refine V_icmp_ne (tgt := 27) (zdk tbX7_wanted_0_ok 11 rfl) (by decide) (fun c8 => ?_) (fun c8 => ?_)
    · replace h := ite_f h c8
      refine V_aload_n 0 (zdk tbX7_wanted_0_ok 14 rfl) rfl ?_
      obtain ⟨r9, q10, h⟩ := bd1_some h
      obtain ⟨q10, c_r9⟩ := zRc_some q10
      refine V_getR (zdk tbX7_wanted_0_ok 15 rfl) c_v0 fF7_47 rfl q10 ?_
      refine V_iload_n 1 (zdk tbX7_wanted_0_ok 16 rfl) rfl ?_
      obtain ⟨b11, h⟩ := chk_some h
      refine V_iald (zdk tbX7_wanted_0_ok 17 rfl) c_r9 b11 ?_
      refine V_if_ne (tgt := 41) (zdk tbX7_wanted_0_ok 18 rfl) (by decide) (fun c12 => ?_) (fun c12 => ?_)
      · replace h := ite_f h c12
        refine V_iconst (v := 0) (zdk tbX7_wanted_0_ok 21 rfl) rfl ?_
        refine V_sub (ls' := []) [] rfl ?_
        exact tX7_wanted_b42 (0 : Int32) μ2  h
      · replace h := ite_t h c12
        refine V_bipush (v := (-3)) (zdk tbX7_wanted_0_ok 19 rfl) rfl ?_
        refine V_goto (tgt := 42) (zdk tbX7_wanted_0_ok 20 rfl) (by decide) ?_
        refine V_sub (ls' := []) [] rfl ?_
        exact tX7_wanted_b42 (-3 : Int32) μ2  h
    · replace h := ite_t h c8
      refine V_bipush (v := (-2)) (zdk tbX7_wanted_0_ok 12 rfl) rfl ?_
      refine V_goto (tgt := 42) (zdk tbX7_wanted_0_ok 13 rfl) (by decide) ?_
      refine V_sub (ls' := []) [] rfl ?_
      exact tX7_wanted_b42 (-2 : Int32) μ2  h
  · replace h := ite_t h c4
    refine V_iconst (v := (-1)) (zdk tbX7_wanted_0_ok 4 rfl) rfl ?_
    refine V_goto (tgt := 42) (zdk tbX7_wanted_0_ok 5 rfl) (by decide) ?_
    refine V_sub (ls' := []) [] rfl ?_
    exact tX7_wanted_b42 (-1 : Int32) μ2  h

-- WhoComplainsCarriesModel.intAt
def tbX7_intAt_0 : List (Nat × Instr × Nat) := [(0, .aload_n 0, 1), (1, .getfield 59, 3), (4, .sipush 160, 3), (7, .iload_n 1, 1), (8, .imul, 1), (9, .iload_n 2, 1), (10, .iadd, 1), (11, .laload, 1), (12, .l2i, 1), (13, .ireturn, 1)]
theorem tbX7_intAt_0_ok : ∀ q ∈ tbX7_intAt_0, decode cX7_intAt q.1 = .ok (q.2.1, q.2.2) := by decide +kernel
def fX7_intAt (n : Nat) (v0 : Nat) (v1 : Int32) (v2 : Int32) (μ : ZMem) : Option (ZMem × Int32) := chk (isC n 7 v0) (bd1 (zRc n 101 μ v0 19) (fun r1 => chk (inb (((160 : Int32) * v1) + v2) r1) (some (μ, ((zL μ r1 (((160 : Int32) * v1) + v2).toNatClampNeg).toInt32)))))
theorem tX7_intAt {l : Launch} {fr : Bool} {n : Nat} {v0 : Nat} {v1 : Int32} {v2 : Int32} {μ : ZMem} {z : ZMem × Int32} (h : fX7_intAt n v0 v1 v2 μ = some z) : ZFn l mX7_intAt (rmd 1) [.ref v0, .int v1, .int v2] fr n μ (fr, n, z.1, some (.int z.2)) := by
  unfold fX7_intAt at h
  obtain ⟨c_v0, h⟩ := chk_some h
  refine ZFn.of (ls := [(0, .ref v0), (1, .int v1), (2, .int v2)]) (by decide) (fun ξ => Nat.le_of_ble_eq_true rfl) (fun ξ => rfl) ?_
  refine V_aload_n 0 (zdk tbX7_intAt_0_ok 0 rfl) rfl ?_
  obtain ⟨r1, q2, h⟩ := bd1_some h
  obtain ⟨q2, c_r1⟩ := zRc_some q2
  refine V_getR (zdk tbX7_intAt_0_ok 1 rfl) c_v0 fF7_59 rfl q2 ?_
  refine V_sipush (v := 160) (zdk tbX7_intAt_0_ok 2 rfl) rfl ?_
  refine V_iload_n 1 (zdk tbX7_intAt_0_ok 3 rfl) rfl ?_
  refine V_imul (zdk tbX7_intAt_0_ok 4 rfl) ?_
  refine V_iload_n 2 (zdk tbX7_intAt_0_ok 5 rfl) rfl ?_
  refine V_iadd (zdk tbX7_intAt_0_ok 6 rfl) ?_
  obtain ⟨b3, h⟩ := chk_some h
  refine V_lald (zdk tbX7_intAt_0_ok 7 rfl) c_r1 b3 ?_
  refine V_l2i (zdk tbX7_intAt_0_ok 8 rfl) rfl ?_
  cases h
  exact V_iret (zdk tbX7_intAt_0_ok 9 rfl) rfl rfl

-- WhoComplainsCarriesModel.adds
def tbX7_adds_0 : List (Nat × Instr × Nat) := [(0, .aload_n 0, 1), (1, .getfield 32, 3), (4, .aload_n 0, 1), (5, .getfield 99, 3), (8, .iload_n 1, 1), (9, .iastore, 1), (10, .aload_n 0, 1), (11, .getfield 35, 3), (14, .aload_n 0, 1), (15, .getfield 99, 3), (18, .iload_n 2, 1), (19, .iastore, 1), (20, .aload_n 0, 1), (21, .getfield 38, 3), (24, .aload_n 0, 1), (25, .getfield 99, 3), (28, .iload_n 3, 1), (29, .iastore, 1), (30, .aload_n 0, 1), (31, .getfield 41, 3), (34, .aload_n 0, 1), (35, .getfield 99, 3), (38, .iload 4, 2), (40, .iastore, 1), (41, .aload_n 0, 1), (42, .getfield 44, 3), (45, .aload_n 0, 1), (46, .getfield 99, 3), (49, .iconst 0, 1), (50, .iastore, 1), (51, .aload_n 0, 1), (52, .dup, 1), (53, .getfield 99, 3), (56, .dup_x1, 1), (57, .iconst 1, 1), (58, .iadd, 1), (59, .putfield 99, 3), (62, .ireturn, 1)]
theorem tbX7_adds_0_ok : ∀ q ∈ tbX7_adds_0, decode cX7_adds q.1 = .ok (q.2.1, q.2.2) := by decide +kernel
def fX7_adds (n : Nat) (v0 : Nat) (v1 : Int32) (v2 : Int32) (v3 : Int32) (v4 : Int32) (μ : ZMem) : Option (ZMem × Int32) := chk (isC n 7 v0) (bd1 (zRc n 100 μ v0 10) (fun r1 => chk (inb (zI μ v0 0) r1) (lt (zpI μ r1 (zI μ v0 0).toNatClampNeg v1) (fun μ4 => bd1 (zRc n 100 μ4 v0 11) (fun r6 => chk (inb (zI μ4 v0 0) r6) (lt (zpI μ4 r6 (zI μ4 v0 0).toNatClampNeg v2) (fun μ9 => bd1 (zRc n 100 μ9 v0 12) (fun r11 => chk (inb (zI μ9 v0 0) r11) (lt (zpI μ9 r11 (zI μ9 v0 0).toNatClampNeg v3) (fun μ14 => bd1 (zRc n 100 μ14 v0 13) (fun r16 => chk (inb (zI μ14 v0 0) r16) (lt (zpI μ14 r16 (zI μ14 v0 0).toNatClampNeg v4) (fun μ19 => bd1 (zRc n 100 μ19 v0 14) (fun r21 => chk (inb (zI μ19 v0 0) r21) (lt (zpI μ19 r21 (zI μ19 v0 0).toNatClampNeg (0 : Int32)) (fun μ24 => lt (zpI μ24 v0 0 ((zI μ24 v0 0) + (1 : Int32))) (fun μ26 => some (μ26, (zI μ24 v0 0)))))))))))))))))))
theorem tX7_adds {l : Launch} {fr : Bool} {n : Nat} {v0 : Nat} {v1 : Int32} {v2 : Int32} {v3 : Int32} {v4 : Int32} {μ : ZMem} {z : ZMem × Int32} (h : fX7_adds n v0 v1 v2 v3 v4 μ = some z) : ZFn l mX7_adds (rmd 1) [.ref v0, .int v1, .int v2, .int v3, .int v4] fr n μ (fr, n, z.1, some (.int z.2)) := by
  unfold fX7_adds at h
  obtain ⟨c_v0, h⟩ := chk_some h
  refine ZFn.of (ls := [(0, .ref v0), (1, .int v1), (2, .int v2), (3, .int v3), (4, .int v4)]) (by decide) (fun ξ => Nat.le_of_ble_eq_true rfl) (fun ξ => rfl) ?_
  refine V_aload_n 0 (zdk tbX7_adds_0_ok 0 rfl) rfl ?_
  obtain ⟨r1, q2, h⟩ := bd1_some h
  obtain ⟨q2, c_r1⟩ := zRc_some q2
  refine V_getR (zdk tbX7_adds_0_ok 1 rfl) c_v0 fF7_32 rfl q2 ?_
  refine V_aload_n 0 (zdk tbX7_adds_0_ok 2 rfl) rfl ?_
  refine V_getI (zdk tbX7_adds_0_ok 3 rfl) c_v0 fF7_99 rfl ?_
  refine V_iload_n 1 (zdk tbX7_adds_0_ok 4 rfl) rfl ?_
  obtain ⟨b3, h⟩ := chk_some h
  obtain ⟨μ4, e5, h⟩ := lt_some h
  refine V_iast (zdk tbX7_adds_0_ok 5 rfl) c_r1 b3 e5 ?_
  refine V_aload_n 0 (zdk tbX7_adds_0_ok 6 rfl) rfl ?_
  obtain ⟨r6, q7, h⟩ := bd1_some h
  obtain ⟨q7, c_r6⟩ := zRc_some q7
  refine V_getR (zdk tbX7_adds_0_ok 7 rfl) c_v0 fF7_35 rfl q7 ?_
  refine V_aload_n 0 (zdk tbX7_adds_0_ok 8 rfl) rfl ?_
  refine V_getI (zdk tbX7_adds_0_ok 9 rfl) c_v0 fF7_99 rfl ?_
  refine V_iload_n 2 (zdk tbX7_adds_0_ok 10 rfl) rfl ?_
  obtain ⟨b8, h⟩ := chk_some h
  obtain ⟨μ9, e10, h⟩ := lt_some h
  refine V_iast (zdk tbX7_adds_0_ok 11 rfl) c_r6 b8 e10 ?_
  refine V_aload_n 0 (zdk tbX7_adds_0_ok 12 rfl) rfl ?_
  obtain ⟨r11, q12, h⟩ := bd1_some h
  obtain ⟨q12, c_r11⟩ := zRc_some q12
  refine V_getR (zdk tbX7_adds_0_ok 13 rfl) c_v0 fF7_38 rfl q12 ?_
  refine V_aload_n 0 (zdk tbX7_adds_0_ok 14 rfl) rfl ?_
  refine V_getI (zdk tbX7_adds_0_ok 15 rfl) c_v0 fF7_99 rfl ?_
  refine V_iload_n 3 (zdk tbX7_adds_0_ok 16 rfl) rfl ?_
  obtain ⟨b13, h⟩ := chk_some h
  obtain ⟨μ14, e15, h⟩ := lt_some h
  refine V_iast (zdk tbX7_adds_0_ok 17 rfl) c_r11 b13 e15 ?_
  refine V_aload_n 0 (zdk tbX7_adds_0_ok 18 rfl) rfl ?_
  obtain ⟨r16, q17, h⟩ := bd1_some h
  obtain ⟨q17, c_r16⟩ := zRc_some q17
  refine V_getR (zdk tbX7_adds_0_ok 19 rfl) c_v0 fF7_41 rfl q17 ?_
  refine V_aload_n 0 (zdk tbX7_adds_0_ok 20 rfl) rfl ?_
  refine V_getI (zdk tbX7_adds_0_ok 21 rfl) c_v0 fF7_99 rfl ?_
  refine V_iload 4 (zdk tbX7_adds_0_ok 22 rfl) rfl ?_
  obtain ⟨b18, h⟩ := chk_some h
  obtain ⟨μ19, e20, h⟩ := lt_some h
  refine V_iast (zdk tbX7_adds_0_ok 23 rfl) c_r16 b18 e20 ?_
  refine V_aload_n 0 (zdk tbX7_adds_0_ok 24 rfl) rfl ?_
  obtain ⟨r21, q22, h⟩ := bd1_some h
  obtain ⟨q22, c_r21⟩ := zRc_some q22
  refine V_getR (zdk tbX7_adds_0_ok 25 rfl) c_v0 fF7_44 rfl q22 ?_
  refine V_aload_n 0 (zdk tbX7_adds_0_ok 26 rfl) rfl ?_
  refine V_getI (zdk tbX7_adds_0_ok 27 rfl) c_v0 fF7_99 rfl ?_
  refine V_iconst (v := 0) (zdk tbX7_adds_0_ok 28 rfl) rfl ?_
  obtain ⟨b23, h⟩ := chk_some h
  obtain ⟨μ24, e25, h⟩ := lt_some h
  refine V_iast (zdk tbX7_adds_0_ok 29 rfl) c_r21 b23 e25 ?_
  refine V_aload_n 0 (zdk tbX7_adds_0_ok 30 rfl) rfl ?_
  refine V_dup_r (zdk tbX7_adds_0_ok 31 rfl) ?_
  refine V_getI (zdk tbX7_adds_0_ok 32 rfl) c_v0 fF7_99 rfl ?_
  refine V_dup_x1 (zdk tbX7_adds_0_ok 33 rfl) ?_
  refine V_iconst (v := 1) (zdk tbX7_adds_0_ok 34 rfl) rfl ?_
  refine V_iadd (zdk tbX7_adds_0_ok 35 rfl) ?_
  obtain ⟨μ26, e27, h⟩ := lt_some h
  refine V_putI (zdk tbX7_adds_0_ok 36 rfl) c_v0 fF7_99 rfl rfl rfl e27 ?_
  cases h
  exact V_iret (zdk tbX7_adds_0_ok 37 rfl) rfl rfl

-- WhoComplainsCarriesModel.person
def tbX7_person_0 : List (Nat × Instr × Nat) := [(0, .iload_n 1, 1), (1, .ifCond .lt 9, 3), (4, .iload_n 1, 1), (5, .bipush 6, 2), (7, .if_icmp .le 9, 3), (10, .aload_n 0, 1), (11, .iconst (-1), 1), (12, .invokevirtual 106, 3), (15, .ireturn, 1), (16, .aload_n 0, 1), (17, .iload_n 2, 1), (18, .iconst 0, 1), (19, .bipush 9, 2), (21, .invokevirtual 122, 3), (24, .ifCond .eq 26, 3), (27, .aload_n 0, 1), (28, .iload_n 3, 1), (29, .iconst 1, 1), (30, .bipush 40, 2), (32, .invokevirtual 122, 3), (35, .ifCond .eq 15, 3), (38, .aload_n 0, 1), (39, .iload 4, 2), (41, .iconst 0, 1), (42, .bipush 40, 2), (44, .invokevirtual 122, 3), (47, .ifCond .ne 10, 3), (50, .aload_n 0, 1), (51, .bipush (-6), 2), (53, .invokevirtual 106, 3), (56, .ireturn, 1), (57, .aload_n 0, 1), (58, .getfield 99, 3), (61, .bipush 7, 2), (63, .if_icmp .ne 12, 3), (66, .aload_n 0, 1), (67, .bipush (-7), 2), (69, .invokevirtual 106, 3), (72, .goto 12, 3), (75, .aload_n 0, 1), (76, .iload_n 1, 1), (77, .iload_n 2, 1), (78, .iload_n 3, 1), (79, .iload 4, 2), (81, .invokevirtual 126, 3), (84, .ireturn, 1)]
theorem tbX7_person_0_ok : ∀ q ∈ tbX7_person_0, decode cX7_person q.1 = .ok (q.2.1, q.2.2) := by decide +kernel
theorem wCX7_isFrom : zCW mX7_isFrom 3 := ⟨zin (i := 8) (by decide +kernel) rfl, zin (i := 1003) (by decide +kernel) rfl, by decide +kernel, by decide +kernel, by decide +kernel⟩
theorem sC7_122 : zCV RX7 122 mX7_isFrom 3 := ⟨zin (i := 1000) (by decide +kernel) rfl, zin (i := 1002) (by decide +kernel) rfl, zinP (i := 35) (q := (yX7_isFrom, 42)) (by decide +kernel) rfl, wCX7_isFrom⟩
theorem wCX7_adds : zCW mX7_adds 4 := ⟨zin (i := 8) (by decide +kernel) rfl, zin (i := 1007) (by decide +kernel) rfl, by decide +kernel, by decide +kernel, by decide +kernel⟩
theorem sC7_126 : zCV RX7 126 mX7_adds 4 := ⟨zin (i := 1004) (by decide +kernel) rfl, zin (i := 1006) (by decide +kernel) rfl, zinP (i := 36) (q := (yX7_adds, 42)) (by decide +kernel) rfl, wCX7_adds⟩
def fX7_person_b10 (n : Nat) (v0 : Nat) (μ : ZMem) : Option (ZMem × Int32) := bd2 (fX7_no n v0 (-1 : Int32) μ) (fun μ2 r3 => some (μ2, r3))
theorem tX7_person_b10 {l : Launch} {fr : Bool} {n : Nat} {z : ZMem × Int32} (v0 : Nat) (μ : ZMem) (c_v0 : isC n 7 v0 = true) (h : fX7_person_b10 n v0 μ = some z) : V (zkI l mX7_person (rmd 2) fr n z) fr 10 [(0, .ref v0)] [] n μ := by
  unfold fX7_person_b10 at h
  refine V_aload_n 0 (zdk tbX7_person_0_ok 5 rfl) rfl ?_
  refine V_iconst (v := (-1)) (zdk tbX7_person_0_ok 6 rfl) rfl ?_
  obtain ⟨μ2, r3, q1, h⟩ := bd2_some h
  refine V_callV (R1 := (rmd 1)) (As := [.int (-1 : Int32)]) (r := (some (.int r3))) (zdk tbX7_person_0_ok 7 rfl) sC7_106 (tX7_no q1) (c_v0) rfl rfl rfl ⟨Nat.le_of_ble_eq_true rfl, Nat.le_of_ble_eq_true rfl⟩ (Nat.le_of_ble_eq_true rfl) ⟨rfl, rfl⟩ id ?_
  cases h
  exact V_iret (zdk tbX7_person_0_ok 8 rfl) rfl rfl
def fX7_person_b50 (n : Nat) (v0 : Nat) (μ : ZMem) : Option (ZMem × Int32) := bd2 (fX7_no n v0 (-6 : Int32) μ) (fun μ2 r3 => some (μ2, r3))
theorem tX7_person_b50 {l : Launch} {fr : Bool} {n : Nat} {z : ZMem × Int32} (v0 : Nat) (μ : ZMem) (c_v0 : isC n 7 v0 = true) (h : fX7_person_b50 n v0 μ = some z) : V (zkI l mX7_person (rmd 2) fr n z) fr 50 [(0, .ref v0)] [] n μ := by
  unfold fX7_person_b50 at h
  refine V_aload_n 0 (zdk tbX7_person_0_ok 27 rfl) rfl ?_
  refine V_bipush (v := (-6)) (zdk tbX7_person_0_ok 28 rfl) rfl ?_
  obtain ⟨μ2, r3, q1, h⟩ := bd2_some h
  refine V_callV (R1 := (rmd 1)) (As := [.int (-6 : Int32)]) (r := (some (.int r3))) (zdk tbX7_person_0_ok 29 rfl) sC7_106 (tX7_no q1) (c_v0) rfl rfl rfl ⟨Nat.le_of_ble_eq_true rfl, Nat.le_of_ble_eq_true rfl⟩ (Nat.le_of_ble_eq_true rfl) ⟨rfl, rfl⟩ id ?_
  cases h
  exact V_iret (zdk tbX7_person_0_ok 30 rfl) rfl rfl
def fX7_person_b84 (n : Nat) (s0 : Int32) (μ : ZMem) : Option (ZMem × Int32) := some (μ, s0)
theorem tX7_person_b84 {l : Launch} {fr : Bool} {n : Nat} {z : ZMem × Int32} (s0 : Int32) (μ : ZMem) (h : fX7_person_b84 n s0 μ = some z) : V (zkI l mX7_person (rmd 2) fr n z) fr 84 [] [.int s0] n μ := by
  unfold fX7_person_b84 at h
  cases h
  exact V_iret (zdk tbX7_person_0_ok 45 rfl) rfl rfl
def fX7_person (n : Nat) (v0 : Nat) (v1 : Int32) (v2 : Int32) (v3 : Int32) (v4 : Int32) (μ : ZMem) : Option (ZMem × Int32) := chk (isC n 7 v0) ((if v1 < 0 then (fX7_person_b10 n v0 μ) else (if v1 ≤ (6 : Int32) then bd2 (fX7_isFrom n v0 v2 (0 : Int32) (9 : Int32) μ) (fun μ4 r5 => (if r5 = 0 then (fX7_person_b50 n v0 μ4) else bd2 (fX7_isFrom n v0 v3 (1 : Int32) (40 : Int32) μ4) (fun μ8 r9 => (if r9 = 0 then (fX7_person_b50 n v0 μ8) else bd2 (fX7_isFrom n v0 v4 (0 : Int32) (40 : Int32) μ8) (fun μ12 r13 => (if r13 = 0 then (fX7_person_b50 n v0 μ12) else (if (zI μ12 v0 0) = (7 : Int32) then bd2 (fX7_no n v0 (-7 : Int32) μ12) (fun μ20 r21 => (fX7_person_b84 n r21 μ20)) else bd2 (fX7_adds n v0 v1 v2 v3 v4 μ12) (fun μ17 r18 => (fX7_person_b84 n r18 μ17))))))))) else (fX7_person_b10 n v0 μ))))
theorem tX7_person {l : Launch} {fr : Bool} {n : Nat} {v0 : Nat} {v1 : Int32} {v2 : Int32} {v3 : Int32} {v4 : Int32} {μ : ZMem} {z : ZMem × Int32} (h : fX7_person n v0 v1 v2 v3 v4 μ = some z) : ZFn l mX7_person (rmd 2) [.ref v0, .int v1, .int v2, .int v3, .int v4] fr n μ (fr, n, z.1, some (.int z.2)) := by
  unfold fX7_person at h
  obtain ⟨c_v0, h⟩ := chk_some h
  refine ZFn.of (ls := [(0, .ref v0), (1, .int v1), (2, .int v2), (3, .int v3), (4, .int v4)]) (by decide) (fun ξ => Nat.le_of_ble_eq_true rfl) (fun ξ => rfl) ?_
  refine V_iload_n 1 (zdk tbX7_person_0_ok 0 rfl) rfl ?_
  refine V_if_lt (tgt := 10) (zdk tbX7_person_0_ok 1 rfl) (by decide) (fun c1 => ?_) (fun c1 => ?_)
  · replace h := ite_t h c1
    refine V_sub (ls' := [(0, .ref v0)]) [0] rfl ?_
    exact tX7_person_b10 v0 μ c_v0 h
  · replace h := ite_f h c1
    refine V_iload_n 1 (zdk tbX7_person_0_ok 2 rfl) rfl ?_
    refine V_bipush (v := 6) (zdk tbX7_person_0_ok 3 rfl) rfl ?_
    refine V_icmp_le (tgt := 16) (zdk tbX7_person_0_ok 4 rfl) (by decide) (fun c2 => ?_) (fun c2 => ?_)
    · replace h := ite_t h c2
      refine V_aload_n 0 (zdk tbX7_person_0_ok 9 rfl) rfl ?_
      refine V_iload_n 2 (zdk tbX7_person_0_ok 10 rfl) rfl ?_
      refine V_iconst (v := 0) (zdk tbX7_person_0_ok 11 rfl) rfl ?_
      refine V_bipush (v := 9) (zdk tbX7_person_0_ok 12 rfl) rfl ?_
      obtain ⟨μ4, r5, q3, h⟩ := bd2_some h
      refine V_callV (R1 := (rmd 1)) (As := [.int v2, .int (0 : Int32), .int (9 : Int32)]) (r := (some (.int r5))) (zdk tbX7_person_0_ok 13 rfl) sC7_122 (tX7_isFrom q3) (c_v0) rfl rfl rfl ⟨Nat.le_of_ble_eq_true rfl, Nat.le_of_ble_eq_true rfl⟩ (Nat.le_of_ble_eq_true rfl) ⟨rfl, rfl⟩ id ?_
      refine V_if_eq (tgt := 50) (zdk tbX7_person_0_ok 14 rfl) (by decide) (fun c6 => ?_) (fun c6 => ?_)
      · replace h := ite_t h c6
        refine V_sub (ls' := [(0, .ref v0)]) [0] rfl ?_
        exact tX7_person_b50 v0 μ4 c_v0 h
      · replace h := ite_f h c6
        refine V_aload_n 0 (zdk tbX7_person_0_ok 15 rfl) rfl ?_
        refine V_iload_n 3 (zdk tbX7_person_0_ok 16 rfl) rfl ?_
        refine V_iconst (v := 1) (zdk tbX7_person_0_ok 17 rfl) rfl ?_
        refine V_bipush (v := 40) (zdk tbX7_person_0_ok 18 rfl) rfl ?_
        obtain ⟨μ8, r9, q7, h⟩ := bd2_some h
        refine V_callV (R1 := (rmd 1)) (As := [.int v3, .int (1 : Int32), .int (40 : Int32)]) (r := (some (.int r9))) (zdk tbX7_person_0_ok 19 rfl) sC7_122 (tX7_isFrom q7) (c_v0) rfl rfl rfl ⟨Nat.le_of_ble_eq_true rfl, Nat.le_of_ble_eq_true rfl⟩ (Nat.le_of_ble_eq_true rfl) ⟨rfl, rfl⟩ id ?_
        refine V_if_eq (tgt := 50) (zdk tbX7_person_0_ok 20 rfl) (by decide) (fun c10 => ?_) (fun c10 => ?_)
        · replace h := ite_t h c10
          refine V_sub (ls' := [(0, .ref v0)]) [0] rfl ?_
          exact tX7_person_b50 v0 μ8 c_v0 h
        · replace h := ite_f h c10
          refine V_aload_n 0 (zdk tbX7_person_0_ok 21 rfl) rfl ?_
          refine V_iload 4 (zdk tbX7_person_0_ok 22 rfl) rfl ?_
          refine V_iconst (v := 0) (zdk tbX7_person_0_ok 23 rfl) rfl ?_
          refine V_bipush (v := 40) (zdk tbX7_person_0_ok 24 rfl) rfl ?_
          obtain ⟨μ12, r13, q11, h⟩ := bd2_some h
          refine V_callV (R1 := (rmd 1)) (As := [.int v4, .int (0 : Int32), .int (40 : Int32)]) (r := (some (.int r13))) (zdk tbX7_person_0_ok 25 rfl) sC7_122 (tX7_isFrom q11) (c_v0) rfl rfl rfl ⟨Nat.le_of_ble_eq_true rfl, Nat.le_of_ble_eq_true rfl⟩ (Nat.le_of_ble_eq_true rfl) ⟨rfl, rfl⟩ id ?_
          refine V_if_ne (tgt := 57) (zdk tbX7_person_0_ok 26 rfl) (by decide) (fun c14 => ?_) (fun c14 => ?_)
          · replace h := ite_f h c14
            refine V_aload_n 0 (zdk tbX7_person_0_ok 31 rfl) rfl ?_
            refine V_getI (zdk tbX7_person_0_ok 32 rfl) c_v0 fF7_99 rfl ?_
            refine V_bipush (v := 7) (zdk tbX7_person_0_ok 33 rfl) rfl ?_
            refine V_icmp_ne (tgt := 75) (zdk tbX7_person_0_ok 34 rfl) (by decide) (fun c15 => ?_) (fun c15 => ?_)
            · replace h := ite_f h c15
              refine V_aload_n 0 (zdk tbX7_person_0_ok 39 rfl) rfl ?_
              refine V_iload_n 1 (zdk tbX7_person_0_ok 40 rfl) rfl ?_
              refine V_iload_n 2 (zdk tbX7_person_0_ok 41 rfl) rfl ?_
              refine V_iload_n 3 (zdk tbX7_person_0_ok 42 rfl) rfl ?_
              refine V_iload 4 (zdk tbX7_person_0_ok 43 rfl) rfl ?_
              obtain ⟨μ17, r18, q16, h⟩ := bd2_some h
              refine V_callV (R1 := (rmd 1)) (As := [.int v1, .int v2, .int v3, .int v4]) (r := (some (.int r18))) (zdk tbX7_person_0_ok 44 rfl) sC7_126 (tX7_adds q16) (c_v0) rfl rfl rfl ⟨Nat.le_of_ble_eq_true rfl, Nat.le_of_ble_eq_true rfl⟩ (Nat.le_of_ble_eq_true rfl) ⟨rfl, rfl⟩ id ?_
              refine V_sub (ls' := []) [] rfl ?_
              exact tX7_person_b84 r18 μ17  h
            · replace h := ite_t h c15
              refine V_aload_n 0 (zdk tbX7_person_0_ok 35 rfl) rfl ?_
              refine V_bipush (v := (-7)) (zdk tbX7_person_0_ok 36 rfl) rfl ?_
              obtain ⟨μ20, r21, q19, h⟩ := bd2_some h
              refine V_callV (R1 := (rmd 1)) (As := [.int (-7 : Int32)]) (r := (some (.int r21))) (zdk tbX7_person_0_ok 37 rfl) sC7_106 (tX7_no q19) (c_v0) rfl rfl rfl ⟨Nat.le_of_ble_eq_true rfl, Nat.le_of_ble_eq_true rfl⟩ (Nat.le_of_ble_eq_true rfl) ⟨rfl, rfl⟩ id ?_
              refine V_goto (tgt := 84) (zdk tbX7_person_0_ok 38 rfl) (by decide) ?_
              refine V_sub (ls' := []) [] rfl ?_
              exact tX7_person_b84 r21 μ20  h
          · replace h := ite_t h c14
            refine V_sub (ls' := [(0, .ref v0)]) [0] rfl ?_
            exact tX7_person_b50 v0 μ12 c_v0 h
    · replace h := ite_f h c2
      refine V_sub (ls' := [(0, .ref v0)]) [0] rfl ?_
      exact tX7_person_b10 v0 μ c_v0 h

-- WhoComplainsCarriesModel.ask
def tbX7_ask_0 : List (Nat × Instr × Nat) := [(0, .iload_n 1, 1), (1, .ifCond .ne 14, 3), (4, .aload_n 0, 1), (5, .iload_n 2, 1), (6, .iconst 1, 1), (7, .bipush 99, 2), (9, .invokevirtual 122, 3), (12, .goto 44, 3), (15, .iload_n 1, 1), (16, .iconst 1, 1), (17, .if_icmp .ne 18, 3), (20, .aload_n 0, 1), (21, .iload_n 2, 1), (22, .aload_n 0, 1), (23, .getfield 130, 3), (26, .sipush 999, 3), (29, .invokevirtual 122, 3), (32, .goto 24, 3), (35, .iload_n 1, 1), (36, .iconst 2, 1), (37, .if_icmp .ne 18, 3), (40, .aload_n 0, 1), (41, .iload_n 2, 1), (42, .iconst 0, 1), (43, .bipush 31, 2), (45, .invokevirtual 122, 3), (48, .ifCond .eq 7, 3), (51, .iconst 1, 1), (52, .goto 4, 3), (55, .iconst 0, 1), (56, .istore_n 3, 1), (57, .iload_n 3, 1), (58, .ifCond .ne 10, 3), (61, .aload_n 0, 1), (62, .bipush (-6), 2), (64, .invokevirtual 106, 3), (67, .ireturn, 1), (68, .iload_n 1, 1), (69, .ifCond .ne 10, 3), (72, .aload_n 0, 1), (73, .getfield 7, 3), (76, .goto 19, 3), (79, .iload_n 1, 1), (80, .iconst 1, 1), (81, .if_icmp .ne 10, 3), (84, .aload_n 0, 1), (85, .getfield 13, 3), (88, .goto 7, 3), (91, .aload_n 0, 1), (92, .getfield 19, 3)]
theorem tbX7_ask_0_ok : ∀ q ∈ tbX7_ask_0, decode cX7_ask q.1 = .ok (q.2.1, q.2.2) := by decide +kernel
def tbX7_ask_1 : List (Nat × Instr × Nat) := [(95, .istore 4, 2), (97, .iload_n 1, 1), (98, .ifCond .ne 11, 3), (101, .aload_n 0, 1), (102, .iload_n 2, 1), (103, .putfield 7, 3), (106, .goto 21, 3), (109, .iload_n 1, 1), (110, .iconst 1, 1), (111, .if_icmp .ne 11, 3), (114, .aload_n 0, 1), (115, .iload_n 2, 1), (116, .putfield 13, 3), (119, .goto 8, 3), (122, .aload_n 0, 1), (123, .iload_n 2, 1), (124, .putfield 19, 3), (127, .iload 4, 2), (129, .ireturn, 1)]
theorem tbX7_ask_1_ok : ∀ q ∈ tbX7_ask_1, decode cX7_ask q.1 = .ok (q.2.1, q.2.2) := by decide +kernel
theorem fF7_130 : zF RX7 130 7 3 := ⟨_, rfl, by decide, zin (i := 820) (by decide +kernel) rfl⟩
def fX7_ask_b127 (n : Nat) (v4 : Int32) (μ : ZMem) : Option (ZMem × Int32) := some (μ, v4)
theorem tX7_ask_b127 {l : Launch} {fr : Bool} {n : Nat} {z : ZMem × Int32} (v4 : Int32) (μ : ZMem) (h : fX7_ask_b127 n v4 μ = some z) : V (zkI l mX7_ask (rmd 2) fr n z) fr 127 [(4, .int v4)] [] n μ := by
  unfold fX7_ask_b127 at h
  refine V_iload 0 (zdk tbX7_ask_1_ok 17 rfl) rfl ?_
  cases h
  exact V_iret (zdk tbX7_ask_1_ok 18 rfl) rfl rfl
def fX7_ask_b95 (n : Nat) (v0 : Nat) (v1 : Int32) (v2 : Int32) (s0 : Int32) (μ : ZMem) : Option (ZMem × Int32) := (if v1 = 0 then lt (zpI μ v0 1 v2) (fun μ7 => (fX7_ask_b127 n s0 μ7)) else (if v1 = (1 : Int32) then lt (zpI μ v0 2 v2) (fun μ5 => (fX7_ask_b127 n s0 μ5)) else lt (zpI μ v0 6 v2) (fun μ3 => (fX7_ask_b127 n s0 μ3))))
theorem tX7_ask_b95 {l : Launch} {fr : Bool} {n : Nat} {z : ZMem × Int32} (v0 : Nat) (v1 : Int32) (v2 : Int32) (s0 : Int32) (μ : ZMem) (c_v0 : isC n 7 v0 = true) (h : fX7_ask_b95 n v0 v1 v2 s0 μ = some z) : V (zkI l mX7_ask (rmd 2) fr n z) fr 95 [(0, .ref v0), (1, .int v1), (2, .int v2)] [.int s0] n μ := by
  unfold fX7_ask_b95 at h
  refine V_istore (ls' := [(0, .ref v0), (1, .int v1), (2, .int v2), (4, .int s0)]) [1, 2, 3, 0] (zdk tbX7_ask_1_ok 0 rfl) (Nat.le_of_ble_eq_true rfl) rfl ?_
  refine V_iload_n 1 (zdk tbX7_ask_1_ok 1 rfl) rfl ?_
  refine V_if_ne (tgt := 109) (zdk tbX7_ask_1_ok 2 rfl) (by decide) (fun c1 => ?_) (fun c1 => ?_)
  · replace h := ite_f h c1
    refine V_iload_n 1 (zdk tbX7_ask_1_ok 7 rfl) rfl ?_
    refine V_iconst (v := 1) (zdk tbX7_ask_1_ok 8 rfl) rfl ?_
    refine V_icmp_ne (tgt := 122) (zdk tbX7_ask_1_ok 9 rfl) (by decide) (fun c2 => ?_) (fun c2 => ?_)
    · replace h := ite_f h c2
      refine V_aload_n 0 (zdk tbX7_ask_1_ok 14 rfl) rfl ?_
      refine V_iload_n 2 (zdk tbX7_ask_1_ok 15 rfl) rfl ?_
      obtain ⟨μ3, e4, h⟩ := lt_some h
      refine V_putI (zdk tbX7_ask_1_ok 16 rfl) c_v0 fF7_19 rfl rfl rfl e4 ?_
      refine V_sub (ls' := [(4, .int s0)]) [3] rfl ?_
      exact tX7_ask_b127 s0 μ3  h
    · replace h := ite_t h c2
      refine V_aload_n 0 (zdk tbX7_ask_1_ok 10 rfl) rfl ?_
      refine V_iload_n 2 (zdk tbX7_ask_1_ok 11 rfl) rfl ?_
      obtain ⟨μ5, e6, h⟩ := lt_some h
      refine V_putI (zdk tbX7_ask_1_ok 12 rfl) c_v0 fF7_13 rfl rfl rfl e6 ?_
      refine V_goto (tgt := 127) (zdk tbX7_ask_1_ok 13 rfl) (by decide) ?_
      refine V_sub (ls' := [(4, .int s0)]) [3] rfl ?_
      exact tX7_ask_b127 s0 μ5  h
  · replace h := ite_t h c1
    refine V_aload_n 0 (zdk tbX7_ask_1_ok 3 rfl) rfl ?_
    refine V_iload_n 2 (zdk tbX7_ask_1_ok 4 rfl) rfl ?_
    obtain ⟨μ7, e8, h⟩ := lt_some h
    refine V_putI (zdk tbX7_ask_1_ok 5 rfl) c_v0 fF7_7 rfl rfl rfl e8 ?_
    refine V_goto (tgt := 127) (zdk tbX7_ask_1_ok 6 rfl) (by decide) ?_
    refine V_sub (ls' := [(4, .int s0)]) [3] rfl ?_
    exact tX7_ask_b127 s0 μ7  h
def fX7_ask_b56 (n : Nat) (v0 : Nat) (v1 : Int32) (v2 : Int32) (s0 : Int32) (μ : ZMem) : Option (ZMem × Int32) := (if s0 = 0 then bd2 (fX7_no n v0 (-6 : Int32) μ) (fun μ5 r6 => some (μ5, r6)) else (if v1 = 0 then (fX7_ask_b95 n v0 v1 v2 (zI μ v0 1) μ) else (if v1 = (1 : Int32) then (fX7_ask_b95 n v0 v1 v2 (zI μ v0 2) μ) else (fX7_ask_b95 n v0 v1 v2 (zI μ v0 6) μ))))
theorem tX7_ask_b56 {l : Launch} {fr : Bool} {n : Nat} {z : ZMem × Int32} (v0 : Nat) (v1 : Int32) (v2 : Int32) (s0 : Int32) (μ : ZMem) (c_v0 : isC n 7 v0 = true) (h : fX7_ask_b56 n v0 v1 v2 s0 μ = some z) : V (zkI l mX7_ask (rmd 2) fr n z) fr 56 [(0, .ref v0), (1, .int v1), (2, .int v2)] [.int s0] n μ := by
  unfold fX7_ask_b56 at h
  refine V_istore_n (ls' := [(0, .ref v0), (1, .int v1), (2, .int v2), (3, .int s0)]) [1, 2, 3, 0] (zdk tbX7_ask_0_ok 30 rfl) (Nat.le_of_ble_eq_true rfl) rfl ?_
  refine V_iload_n 3 (zdk tbX7_ask_0_ok 31 rfl) rfl ?_
  refine V_if_ne (tgt := 68) (zdk tbX7_ask_0_ok 32 rfl) (by decide) (fun c1 => ?_) (fun c1 => ?_)
  · replace h := ite_f h c1
    refine V_iload_n 1 (zdk tbX7_ask_0_ok 37 rfl) rfl ?_
    refine V_if_ne (tgt := 79) (zdk tbX7_ask_0_ok 38 rfl) (by decide) (fun c2 => ?_) (fun c2 => ?_)
    · replace h := ite_f h c2
      refine V_iload_n 1 (zdk tbX7_ask_0_ok 42 rfl) rfl ?_
      refine V_iconst (v := 1) (zdk tbX7_ask_0_ok 43 rfl) rfl ?_
      refine V_icmp_ne (tgt := 91) (zdk tbX7_ask_0_ok 44 rfl) (by decide) (fun c3 => ?_) (fun c3 => ?_)
      · replace h := ite_f h c3
        refine V_aload_n 0 (zdk tbX7_ask_0_ok 48 rfl) rfl ?_
        refine V_getI (zdk tbX7_ask_0_ok 49 rfl) c_v0 fF7_19 rfl ?_
        refine V_sub (ls' := [(0, .ref v0), (1, .int v1), (2, .int v2)]) [0, 1, 2] rfl ?_
        exact tX7_ask_b95 v0 v1 v2 (zI μ v0 6) μ c_v0 h
      · replace h := ite_t h c3
        refine V_aload_n 0 (zdk tbX7_ask_0_ok 45 rfl) rfl ?_
        refine V_getI (zdk tbX7_ask_0_ok 46 rfl) c_v0 fF7_13 rfl ?_
        refine V_goto (tgt := 95) (zdk tbX7_ask_0_ok 47 rfl) (by decide) ?_
        refine V_sub (ls' := [(0, .ref v0), (1, .int v1), (2, .int v2)]) [0, 1, 2] rfl ?_
        exact tX7_ask_b95 v0 v1 v2 (zI μ v0 2) μ c_v0 h
    · replace h := ite_t h c2
      refine V_aload_n 0 (zdk tbX7_ask_0_ok 39 rfl) rfl ?_
      refine V_getI (zdk tbX7_ask_0_ok 40 rfl) c_v0 fF7_7 rfl ?_
      refine V_goto (tgt := 95) (zdk tbX7_ask_0_ok 41 rfl) (by decide) ?_
      refine V_sub (ls' := [(0, .ref v0), (1, .int v1), (2, .int v2)]) [0, 1, 2] rfl ?_
      exact tX7_ask_b95 v0 v1 v2 (zI μ v0 1) μ c_v0 h
  · replace h := ite_t h c1
    refine V_aload_n 0 (zdk tbX7_ask_0_ok 33 rfl) rfl ?_
    refine V_bipush (v := (-6)) (zdk tbX7_ask_0_ok 34 rfl) rfl ?_
    obtain ⟨μ5, r6, q4, h⟩ := bd2_some h
    refine V_callV (R1 := (rmd 1)) (As := [.int (-6 : Int32)]) (r := (some (.int r6))) (zdk tbX7_ask_0_ok 35 rfl) sC7_106 (tX7_no q4) (c_v0) rfl rfl rfl ⟨Nat.le_of_ble_eq_true rfl, Nat.le_of_ble_eq_true rfl⟩ (Nat.le_of_ble_eq_true rfl) ⟨rfl, rfl⟩ id ?_
    cases h
    exact V_iret (zdk tbX7_ask_0_ok 36 rfl) rfl rfl
def fX7_ask_b55 (n : Nat) (v0 : Nat) (v1 : Int32) (v2 : Int32) (μ : ZMem) : Option (ZMem × Int32) := (fX7_ask_b56 n v0 v1 v2 (0 : Int32) μ)
theorem tX7_ask_b55 {l : Launch} {fr : Bool} {n : Nat} {z : ZMem × Int32} (v0 : Nat) (v1 : Int32) (v2 : Int32) (μ : ZMem) (c_v0 : isC n 7 v0 = true) (h : fX7_ask_b55 n v0 v1 v2 μ = some z) : V (zkI l mX7_ask (rmd 2) fr n z) fr 55 [(0, .ref v0), (1, .int v1), (2, .int v2)] [] n μ := by
  unfold fX7_ask_b55 at h
  refine V_iconst (v := 0) (zdk tbX7_ask_0_ok 29 rfl) rfl ?_
  exact tX7_ask_b56 v0 v1 v2 (0 : Int32) μ c_v0 h
def fX7_ask (n : Nat) (v0 : Nat) (v1 : Int32) (v2 : Int32) (μ : ZMem) : Option (ZMem × Int32) := chk (isC n 7 v0) ((if v1 = 0 then bd2 (fX7_isFrom n v0 v2 (1 : Int32) (99 : Int32) μ) (fun μ12 r13 => (fX7_ask_b56 n v0 v1 v2 r13 μ12)) else (if v1 = (1 : Int32) then bd2 (fX7_isFrom n v0 v2 (zI μ v0 3) (999 : Int32) μ) (fun μ9 r10 => (fX7_ask_b56 n v0 v1 v2 r10 μ9)) else (if v1 = (2 : Int32) then bd2 (fX7_isFrom n v0 v2 (0 : Int32) (31 : Int32) μ) (fun μ5 r6 => (if r6 = 0 then (fX7_ask_b55 n v0 v1 v2 μ5) else (fX7_ask_b56 n v0 v1 v2 (1 : Int32) μ5))) else (fX7_ask_b55 n v0 v1 v2 μ)))))
theorem tX7_ask {l : Launch} {fr : Bool} {n : Nat} {v0 : Nat} {v1 : Int32} {v2 : Int32} {μ : ZMem} {z : ZMem × Int32} (h : fX7_ask n v0 v1 v2 μ = some z) : ZFn l mX7_ask (rmd 2) [.ref v0, .int v1, .int v2] fr n μ (fr, n, z.1, some (.int z.2)) := by
  unfold fX7_ask at h
  obtain ⟨c_v0, h⟩ := chk_some h
  refine ZFn.of (ls := [(0, .ref v0), (1, .int v1), (2, .int v2)]) (by decide) (fun ξ => Nat.le_of_ble_eq_true rfl) (fun ξ => rfl) ?_
  refine V_iload_n 1 (zdk tbX7_ask_0_ok 0 rfl) rfl ?_
  refine V_if_ne (tgt := 15) (zdk tbX7_ask_0_ok 1 rfl) (by decide) (fun c1 => ?_) (fun c1 => ?_)
  · replace h := ite_f h c1
    refine V_iload_n 1 (zdk tbX7_ask_0_ok 8 rfl) rfl ?_
    refine V_iconst (v := 1) (zdk tbX7_ask_0_ok 9 rfl) rfl ?_
    refine V_icmp_ne (tgt := 35) (zdk tbX7_ask_0_ok 10 rfl) (by decide) (fun c2 => ?_) (fun c2 => ?_)
    · replace h := ite_f h c2
      refine V_iload_n 1 (zdk tbX7_ask_0_ok 18 rfl) rfl ?_
      refine V_iconst (v := 2) (zdk tbX7_ask_0_ok 19 rfl) rfl ?_
      refine V_icmp_ne (tgt := 55) (zdk tbX7_ask_0_ok 20 rfl) (by decide) (fun c3 => ?_) (fun c3 => ?_)
      · replace h := ite_f h c3
        exact tX7_ask_b55 v0 v1 v2 μ c_v0 h
      · replace h := ite_t h c3
        refine V_aload_n 0 (zdk tbX7_ask_0_ok 21 rfl) rfl ?_
        refine V_iload_n 2 (zdk tbX7_ask_0_ok 22 rfl) rfl ?_
        refine V_iconst (v := 0) (zdk tbX7_ask_0_ok 23 rfl) rfl ?_
        refine V_bipush (v := 31) (zdk tbX7_ask_0_ok 24 rfl) rfl ?_
        obtain ⟨μ5, r6, q4, h⟩ := bd2_some h
        refine V_callV (R1 := (rmd 1)) (As := [.int v2, .int (0 : Int32), .int (31 : Int32)]) (r := (some (.int r6))) (zdk tbX7_ask_0_ok 25 rfl) sC7_122 (tX7_isFrom q4) (c_v0) rfl rfl rfl ⟨Nat.le_of_ble_eq_true rfl, Nat.le_of_ble_eq_true rfl⟩ (Nat.le_of_ble_eq_true rfl) ⟨rfl, rfl⟩ id ?_
        refine V_if_eq (tgt := 55) (zdk tbX7_ask_0_ok 26 rfl) (by decide) (fun c7 => ?_) (fun c7 => ?_)
        · replace h := ite_t h c7
          exact tX7_ask_b55 v0 v1 v2 μ5 c_v0 h
        · replace h := ite_f h c7
          refine V_iconst (v := 1) (zdk tbX7_ask_0_ok 27 rfl) rfl ?_
          refine V_goto (tgt := 56) (zdk tbX7_ask_0_ok 28 rfl) (by decide) ?_
          exact tX7_ask_b56 v0 v1 v2 (1 : Int32) μ5 c_v0 h
    · replace h := ite_t h c2
      refine V_aload_n 0 (zdk tbX7_ask_0_ok 11 rfl) rfl ?_
      refine V_iload_n 2 (zdk tbX7_ask_0_ok 12 rfl) rfl ?_
      refine V_aload_n 0 (zdk tbX7_ask_0_ok 13 rfl) rfl ?_
      refine V_getI (zdk tbX7_ask_0_ok 14 rfl) c_v0 fF7_130 rfl ?_
      refine V_sipush (v := 999) (zdk tbX7_ask_0_ok 15 rfl) rfl ?_
      obtain ⟨μ9, r10, q8, h⟩ := bd2_some h
      refine V_callV (R1 := (rmd 1)) (As := [.int v2, .int (zI μ v0 3), .int (999 : Int32)]) (r := (some (.int r10))) (zdk tbX7_ask_0_ok 16 rfl) sC7_122 (tX7_isFrom q8) (c_v0) rfl rfl rfl ⟨Nat.le_of_ble_eq_true rfl, Nat.le_of_ble_eq_true rfl⟩ (Nat.le_of_ble_eq_true rfl) ⟨rfl, rfl⟩ id ?_
      refine V_goto (tgt := 56) (zdk tbX7_ask_0_ok 17 rfl) (by decide) ?_
      exact tX7_ask_b56 v0 v1 v2 r10 μ9 c_v0 h
  · replace h := ite_t h c1
    refine V_aload_n 0 (zdk tbX7_ask_0_ok 2 rfl) rfl ?_
    refine V_iload_n 2 (zdk tbX7_ask_0_ok 3 rfl) rfl ?_
    refine V_iconst (v := 1) (zdk tbX7_ask_0_ok 4 rfl) rfl ?_
    refine V_bipush (v := 99) (zdk tbX7_ask_0_ok 5 rfl) rfl ?_
    obtain ⟨μ12, r13, q11, h⟩ := bd2_some h
    refine V_callV (R1 := (rmd 1)) (As := [.int v2, .int (1 : Int32), .int (99 : Int32)]) (r := (some (.int r13))) (zdk tbX7_ask_0_ok 6 rfl) sC7_122 (tX7_isFrom q11) (c_v0) rfl rfl rfl ⟨Nat.le_of_ble_eq_true rfl, Nat.le_of_ble_eq_true rfl⟩ (Nat.le_of_ble_eq_true rfl) ⟨rfl, rfl⟩ id ?_
    refine V_goto (tgt := 56) (zdk tbX7_ask_0_ok 7 rfl) (by decide) ?_
    exact tX7_ask_b56 v0 v1 v2 r13 μ12 c_v0 h

-- WhoComplainsCarriesModel.tire
def tbX7_tire_0 : List (Nat × Instr × Nat) := [(0, .aload_n 0, 1), (1, .iload_n 1, 1), (2, .invokevirtual 110, 3), (5, .ifCond .ne 9, 3), (8, .aload_n 0, 1), (9, .iconst (-1), 1), (10, .invokevirtual 106, 3), (13, .ireturn, 1), (14, .aload_n 0, 1), (15, .iload_n 2, 1), (16, .iconst 0, 1), (17, .bipush 99, 2), (19, .invokevirtual 122, 3), (22, .ifCond .ne 10, 3), (25, .aload_n 0, 1), (26, .bipush (-6), 2), (28, .invokevirtual 106, 3), (31, .ireturn, 1), (32, .aload_n 0, 1), (33, .getfield 44, 3), (36, .iload_n 1, 1), (37, .iaload, 1), (38, .istore_n 3, 1), (39, .aload_n 0, 1), (40, .getfield 44, 3), (43, .iload_n 1, 1), (44, .iload_n 2, 1), (45, .iastore, 1), (46, .iload_n 3, 1), (47, .ireturn, 1)]
theorem tbX7_tire_0_ok : ∀ q ∈ tbX7_tire_0, decode cX7_tire q.1 = .ok (q.2.1, q.2.2) := by decide +kernel
def fX7_tire (n : Nat) (v0 : Nat) (v1 : Int32) (v2 : Int32) (μ : ZMem) : Option (ZMem × Int32) := chk (isC n 7 v0) (bd2 (fX7_isOne n v0 v1 μ) (fun μ2 r3 => (if r3 = 0 then bd2 (fX7_no n v0 (-1 : Int32) μ2) (fun μ21 r22 => some (μ21, r22)) else bd2 (fX7_isFrom n v0 v2 (0 : Int32) (99 : Int32) μ2) (fun μ6 r7 => (if r7 = 0 then bd2 (fX7_no n v0 (-6 : Int32) μ6) (fun μ18 r19 => some (μ18, r19)) else bd1 (zRc n 100 μ6 v0 14) (fun r9 => chk (inb v1 r9) (bd1 (zRc n 100 μ6 v0 14) (fun r12 => chk (inb v1 r12) (lt (zpI μ6 r12 v1.toNatClampNeg v2) (fun μ15 => some (μ15, (zI μ6 r9 v1.toNatClampNeg))))))))))))
theorem tX7_tire {l : Launch} {fr : Bool} {n : Nat} {v0 : Nat} {v1 : Int32} {v2 : Int32} {μ : ZMem} {z : ZMem × Int32} (h : fX7_tire n v0 v1 v2 μ = some z) : ZFn l mX7_tire (rmd 2) [.ref v0, .int v1, .int v2] fr n μ (fr, n, z.1, some (.int z.2)) := by
  unfold fX7_tire at h
  obtain ⟨c_v0, h⟩ := chk_some h
  refine ZFn.of (ls := [(0, .ref v0), (1, .int v1), (2, .int v2)]) (by decide) (fun ξ => Nat.le_of_ble_eq_true rfl) (fun ξ => rfl) ?_
  refine V_aload_n 0 (zdk tbX7_tire_0_ok 0 rfl) rfl ?_
  refine V_iload_n 1 (zdk tbX7_tire_0_ok 1 rfl) rfl ?_
  obtain ⟨μ2, r3, q1, h⟩ := bd2_some h
  refine V_callV (R1 := (rmd 1)) (As := [.int v1]) (r := (some (.int r3))) (zdk tbX7_tire_0_ok 2 rfl) sC7_110 (tX7_isOne q1) (c_v0) rfl rfl rfl ⟨Nat.le_of_ble_eq_true rfl, Nat.le_of_ble_eq_true rfl⟩ (Nat.le_of_ble_eq_true rfl) ⟨rfl, rfl⟩ id ?_
  refine V_if_ne (tgt := 14) (zdk tbX7_tire_0_ok 3 rfl) (by decide) (fun c4 => ?_) (fun c4 => ?_)
  · replace h := ite_f h c4
    refine V_aload_n 0 (zdk tbX7_tire_0_ok 8 rfl) rfl ?_
    refine V_iload_n 2 (zdk tbX7_tire_0_ok 9 rfl) rfl ?_
    refine V_iconst (v := 0) (zdk tbX7_tire_0_ok 10 rfl) rfl ?_
    refine V_bipush (v := 99) (zdk tbX7_tire_0_ok 11 rfl) rfl ?_
    obtain ⟨μ6, r7, q5, h⟩ := bd2_some h
    refine V_callV (R1 := (rmd 1)) (As := [.int v2, .int (0 : Int32), .int (99 : Int32)]) (r := (some (.int r7))) (zdk tbX7_tire_0_ok 12 rfl) sC7_122 (tX7_isFrom q5) (c_v0) rfl rfl rfl ⟨Nat.le_of_ble_eq_true rfl, Nat.le_of_ble_eq_true rfl⟩ (Nat.le_of_ble_eq_true rfl) ⟨rfl, rfl⟩ id ?_
    refine V_if_ne (tgt := 32) (zdk tbX7_tire_0_ok 13 rfl) (by decide) (fun c8 => ?_) (fun c8 => ?_)
    · replace h := ite_f h c8
      refine V_aload_n 0 (zdk tbX7_tire_0_ok 18 rfl) rfl ?_
      obtain ⟨r9, q10, h⟩ := bd1_some h
      obtain ⟨q10, c_r9⟩ := zRc_some q10
      refine V_getR (zdk tbX7_tire_0_ok 19 rfl) c_v0 fF7_44 rfl q10 ?_
      refine V_iload_n 1 (zdk tbX7_tire_0_ok 20 rfl) rfl ?_
      obtain ⟨b11, h⟩ := chk_some h
      refine V_iald (zdk tbX7_tire_0_ok 21 rfl) c_r9 b11 ?_
      refine V_istore_n (ls' := [(0, .ref v0), (1, .int v1), (2, .int v2), (3, .int (zI μ6 r9 v1.toNatClampNeg))]) [1, 2, 3, 0] (zdk tbX7_tire_0_ok 22 rfl) (Nat.le_of_ble_eq_true rfl) rfl ?_
      refine V_aload_n 0 (zdk tbX7_tire_0_ok 23 rfl) rfl ?_
      obtain ⟨r12, q13, h⟩ := bd1_some h
      obtain ⟨q13, c_r12⟩ := zRc_some q13
      refine V_getR (zdk tbX7_tire_0_ok 24 rfl) c_v0 fF7_44 rfl q13 ?_
      refine V_iload_n 1 (zdk tbX7_tire_0_ok 25 rfl) rfl ?_
      refine V_iload_n 2 (zdk tbX7_tire_0_ok 26 rfl) rfl ?_
      obtain ⟨b14, h⟩ := chk_some h
      obtain ⟨μ15, e16, h⟩ := lt_some h
      refine V_iast (zdk tbX7_tire_0_ok 27 rfl) c_r12 b14 e16 ?_
      refine V_iload_n 3 (zdk tbX7_tire_0_ok 28 rfl) rfl ?_
      cases h
      exact V_iret (zdk tbX7_tire_0_ok 29 rfl) rfl rfl
    · replace h := ite_t h c8
      refine V_aload_n 0 (zdk tbX7_tire_0_ok 14 rfl) rfl ?_
      refine V_bipush (v := (-6)) (zdk tbX7_tire_0_ok 15 rfl) rfl ?_
      obtain ⟨μ18, r19, q17, h⟩ := bd2_some h
      refine V_callV (R1 := (rmd 1)) (As := [.int (-6 : Int32)]) (r := (some (.int r19))) (zdk tbX7_tire_0_ok 16 rfl) sC7_106 (tX7_no q17) (c_v0) rfl rfl rfl ⟨Nat.le_of_ble_eq_true rfl, Nat.le_of_ble_eq_true rfl⟩ (Nat.le_of_ble_eq_true rfl) ⟨rfl, rfl⟩ id ?_
      cases h
      exact V_iret (zdk tbX7_tire_0_ok 17 rfl) rfl rfl
  · replace h := ite_t h c4
    refine V_aload_n 0 (zdk tbX7_tire_0_ok 4 rfl) rfl ?_
    refine V_iconst (v := (-1)) (zdk tbX7_tire_0_ok 5 rfl) rfl ?_
    obtain ⟨μ21, r22, q20, h⟩ := bd2_some h
    refine V_callV (R1 := (rmd 1)) (As := [.int (-1 : Int32)]) (r := (some (.int r22))) (zdk tbX7_tire_0_ok 6 rfl) sC7_106 (tX7_no q20) (c_v0) rfl rfl rfl ⟨Nat.le_of_ble_eq_true rfl, Nat.le_of_ble_eq_true rfl⟩ (Nat.le_of_ble_eq_true rfl) ⟨rfl, rfl⟩ id ?_
    cases h
    exact V_iret (zdk tbX7_tire_0_ok 7 rfl) rfl rfl

-- WhoComplainsCarriesModel.give
def tbX7_give_0 : List (Nat × Instr × Nat) := [(0, .iload_n 1, 1), (1, .iconst (-1), 1), (2, .if_icmp .eq 17, 3), (5, .aload_n 0, 1), (6, .iload_n 1, 1), (7, .invokevirtual 110, 3), (10, .ifCond .ne 9, 3), (13, .aload_n 0, 1), (14, .iconst (-1), 1), (15, .invokevirtual 133, 3), (18, .ireturn, 1), (19, .aload_n 0, 1), (20, .getfield 16, 3), (23, .istore_n 2, 1), (24, .aload_n 0, 1), (25, .iload_n 1, 1), (26, .putfield 16, 3), (29, .iload_n 2, 1), (30, .ireturn, 1)]
theorem tbX7_give_0_ok : ∀ q ∈ tbX7_give_0, decode cX7_give q.1 = .ok (q.2.1, q.2.2) := by decide +kernel
theorem wCX7_noTen : zCW mX7_noTen 1 := ⟨zin (i := 8) (by decide +kernel) rfl, zin (i := 1023) (by decide +kernel) rfl, by decide +kernel, by decide +kernel, by decide +kernel⟩
theorem sC7_133 : zCV RX7 133 mX7_noTen 1 := ⟨zin (i := 1020) (by decide +kernel) rfl, zin (i := 1022) (by decide +kernel) rfl, zinP (i := 37) (q := (yX7_noTen, 42)) (by decide +kernel) rfl, wCX7_noTen⟩
def fX7_give_b19 (n : Nat) (v0 : Nat) (v1 : Int32) (μ : ZMem) : Option (ZMem × Int32) := lt (zpI μ v0 4 v1) (fun μ1 => some (μ1, (zI μ v0 4)))
theorem tX7_give_b19 {l : Launch} {fr : Bool} {n : Nat} {z : ZMem × Int32} (v0 : Nat) (v1 : Int32) (μ : ZMem) (c_v0 : isC n 7 v0 = true) (h : fX7_give_b19 n v0 v1 μ = some z) : V (zkI l mX7_give (rmd 2) fr n z) fr 19 [(0, .ref v0), (1, .int v1)] [] n μ := by
  unfold fX7_give_b19 at h
  refine V_aload_n 0 (zdk tbX7_give_0_ok 11 rfl) rfl ?_
  refine V_getI (zdk tbX7_give_0_ok 12 rfl) c_v0 fF7_16 rfl ?_
  refine V_istore_n (ls' := [(0, .ref v0), (1, .int v1), (2, .int (zI μ v0 4))]) [1, 2, 0] (zdk tbX7_give_0_ok 13 rfl) (Nat.le_of_ble_eq_true rfl) rfl ?_
  refine V_aload_n 0 (zdk tbX7_give_0_ok 14 rfl) rfl ?_
  refine V_iload_n 1 (zdk tbX7_give_0_ok 15 rfl) rfl ?_
  obtain ⟨μ1, e2, h⟩ := lt_some h
  refine V_putI (zdk tbX7_give_0_ok 16 rfl) c_v0 fF7_16 rfl rfl rfl e2 ?_
  refine V_iload_n 2 (zdk tbX7_give_0_ok 17 rfl) rfl ?_
  cases h
  exact V_iret (zdk tbX7_give_0_ok 18 rfl) rfl rfl
def fX7_give (n : Nat) (v0 : Nat) (v1 : Int32) (μ : ZMem) : Option (ZMem × Int32) := chk (isC n 7 v0) ((if v1 = (-1 : Int32) then (fX7_give_b19 n v0 v1 μ) else bd2 (fX7_isOne n v0 v1 μ) (fun μ3 r4 => (if r4 = 0 then bd2 (fX7_noTen n v0 (-1 : Int32) μ3) (fun μ7 r8 => some (μ7, r8)) else (fX7_give_b19 n v0 v1 μ3)))))
theorem tX7_give {l : Launch} {fr : Bool} {n : Nat} {v0 : Nat} {v1 : Int32} {μ : ZMem} {z : ZMem × Int32} (h : fX7_give n v0 v1 μ = some z) : ZFn l mX7_give (rmd 2) [.ref v0, .int v1] fr n μ (fr, n, z.1, some (.int z.2)) := by
  unfold fX7_give at h
  obtain ⟨c_v0, h⟩ := chk_some h
  refine ZFn.of (ls := [(0, .ref v0), (1, .int v1)]) (by decide) (fun ξ => Nat.le_of_ble_eq_true rfl) (fun ξ => rfl) ?_
  refine V_iload_n 1 (zdk tbX7_give_0_ok 0 rfl) rfl ?_
  refine V_iconst (v := (-1)) (zdk tbX7_give_0_ok 1 rfl) rfl ?_
  refine V_icmp_eq (tgt := 19) (zdk tbX7_give_0_ok 2 rfl) (by decide) (fun c1 => ?_) (fun c1 => ?_)
  · replace h := ite_t h c1
    exact tX7_give_b19 v0 v1 μ c_v0 h
  · replace h := ite_f h c1
    refine V_aload_n 0 (zdk tbX7_give_0_ok 3 rfl) rfl ?_
    refine V_iload_n 1 (zdk tbX7_give_0_ok 4 rfl) rfl ?_
    obtain ⟨μ3, r4, q2, h⟩ := bd2_some h
    refine V_callV (R1 := (rmd 1)) (As := [.int v1]) (r := (some (.int r4))) (zdk tbX7_give_0_ok 5 rfl) sC7_110 (tX7_isOne q2) (c_v0) rfl rfl rfl ⟨Nat.le_of_ble_eq_true rfl, Nat.le_of_ble_eq_true rfl⟩ (Nat.le_of_ble_eq_true rfl) ⟨rfl, rfl⟩ id ?_
    refine V_if_ne (tgt := 19) (zdk tbX7_give_0_ok 6 rfl) (by decide) (fun c5 => ?_) (fun c5 => ?_)
    · replace h := ite_f h c5
      exact tX7_give_b19 v0 v1 μ3 c_v0 h
    · replace h := ite_t h c5
      refine V_aload_n 0 (zdk tbX7_give_0_ok 7 rfl) rfl ?_
      refine V_iconst (v := (-1)) (zdk tbX7_give_0_ok 8 rfl) rfl ?_
      obtain ⟨μ7, r8, q6, h⟩ := bd2_some h
      refine V_callV (R1 := (rmd 1)) (As := [.int (-1 : Int32)]) (r := (some (.int r8))) (zdk tbX7_give_0_ok 9 rfl) sC7_133 (tX7_noTen q6) (c_v0) rfl rfl rfl ⟨Nat.le_of_ble_eq_true rfl, Nat.le_of_ble_eq_true rfl⟩ (Nat.le_of_ble_eq_true rfl) ⟨rfl, rfl⟩ id ?_
      cases h
      exact V_iret (zdk tbX7_give_0_ok 10 rfl) rfl rfl

-- WhoComplainsCarriesModel.personOf
def tbX7_personOf_0 : List (Nat × Instr × Nat) := [(0, .aload_n 0, 1), (1, .iload_n 1, 1), (2, .invokevirtual 110, 3), (5, .ifCond .ne 10, 3), (8, .aload_n 0, 1), (9, .bipush (-5), 2), (11, .invokevirtual 106, 3), (14, .ireturn, 1), (15, .iload_n 2, 1), (16, .tableswitch 101 0 7 #[48, 55, 62, 69, 76, 83, 89, 95], 48), (64, .aload_n 0, 1), (65, .getfield 32, 3), (68, .iload_n 1, 1), (69, .iaload, 1), (70, .ireturn, 1), (71, .aload_n 0, 1), (72, .getfield 35, 3), (75, .iload_n 1, 1), (76, .iaload, 1), (77, .ireturn, 1), (78, .aload_n 0, 1), (79, .getfield 38, 3), (82, .iload_n 1, 1), (83, .iaload, 1), (84, .ireturn, 1), (85, .aload_n 0, 1), (86, .getfield 41, 3), (89, .iload_n 1, 1), (90, .iaload, 1), (91, .ireturn, 1), (92, .aload_n 0, 1), (93, .getfield 44, 3), (96, .iload_n 1, 1), (97, .iaload, 1), (98, .ireturn, 1), (99, .aload_n 0, 1), (100, .iload_n 1, 1), (101, .invokevirtual 119, 3), (104, .ireturn, 1), (105, .aload_n 0, 1), (106, .iload_n 1, 1), (107, .invokevirtual 116, 3), (110, .ireturn, 1), (111, .aload_n 0, 1), (112, .iload_n 1, 1), (113, .invokevirtual 113, 3), (116, .ireturn, 1), (117, .aload_n 0, 1), (118, .bipush (-5), 2), (120, .invokevirtual 106, 3)]
theorem tbX7_personOf_0_ok : ∀ q ∈ tbX7_personOf_0, decode cX7_personOf q.1 = .ok (q.2.1, q.2.2) := by decide +kernel
def tbX7_personOf_1 : List (Nat × Instr × Nat) := [(123, .ireturn, 1)]
theorem tbX7_personOf_1_ok : ∀ q ∈ tbX7_personOf_1, decode cX7_personOf q.1 = .ok (q.2.1, q.2.2) := by decide +kernel
def fX7_personOf (n : Nat) (v0 : Nat) (v1 : Int32) (v2 : Int32) (μ : ZMem) : Option (ZMem × Int32) := chk (isC n 7 v0) (bd2 (fX7_isOne n v0 v1 μ) (fun μ2 r3 => (if r3 = 0 then bd2 (fX7_no n v0 (-5 : Int32) μ2) (fun μ41 r42 => some (μ41, r42)) else (if v2 = (0 : Int32) then bd1 (zRc n 100 μ2 v0 10) (fun r6 => chk (inb v1 r6) (some (μ2, (zI μ2 r6 v1.toNatClampNeg)))) else (if v2 = (1 : Int32) then bd1 (zRc n 100 μ2 v0 11) (fun r10 => chk (inb v1 r10) (some (μ2, (zI μ2 r10 v1.toNatClampNeg)))) else (if v2 = (2 : Int32) then bd1 (zRc n 100 μ2 v0 12) (fun r14 => chk (inb v1 r14) (some (μ2, (zI μ2 r14 v1.toNatClampNeg)))) else (if v2 = (3 : Int32) then bd1 (zRc n 100 μ2 v0 13) (fun r18 => chk (inb v1 r18) (some (μ2, (zI μ2 r18 v1.toNatClampNeg)))) else (if v2 = (4 : Int32) then bd1 (zRc n 100 μ2 v0 14) (fun r22 => chk (inb v1 r22) (some (μ2, (zI μ2 r22 v1.toNatClampNeg)))) else (if v2 = (5 : Int32) then bd2 (fX7_pace n v0 v1 μ2) (fun μ27 r28 => some (μ27, r28)) else (if v2 = (6 : Int32) then bd2 (fX7_toil n v0 v1 μ2) (fun μ31 r32 => some (μ31, r32)) else (if v2 = (7 : Int32) then bd2 (fX7_limit n v0 v1 μ2) (fun μ35 r36 => some (μ35, r36)) else bd2 (fX7_no n v0 (-5 : Int32) μ2) (fun μ38 r39 => some (μ38, r39)))))))))))))
theorem tX7_personOf {l : Launch} {fr : Bool} {n : Nat} {v0 : Nat} {v1 : Int32} {v2 : Int32} {μ : ZMem} {z : ZMem × Int32} (h : fX7_personOf n v0 v1 v2 μ = some z) : ZFn l mX7_personOf (rmd 2) [.ref v0, .int v1, .int v2] fr n μ (fr, n, z.1, some (.int z.2)) := by
  unfold fX7_personOf at h
  obtain ⟨c_v0, h⟩ := chk_some h
  refine ZFn.of (ls := [(0, .ref v0), (1, .int v1), (2, .int v2)]) (by decide) (fun ξ => Nat.le_of_ble_eq_true rfl) (fun ξ => rfl) ?_
  refine V_aload_n 0 (zdk tbX7_personOf_0_ok 0 rfl) rfl ?_
  refine V_iload_n 1 (zdk tbX7_personOf_0_ok 1 rfl) rfl ?_
  obtain ⟨μ2, r3, q1, h⟩ := bd2_some h
  refine V_callV (R1 := (rmd 1)) (As := [.int v1]) (r := (some (.int r3))) (zdk tbX7_personOf_0_ok 2 rfl) sC7_110 (tX7_isOne q1) (c_v0) rfl rfl rfl ⟨Nat.le_of_ble_eq_true rfl, Nat.le_of_ble_eq_true rfl⟩ (Nat.le_of_ble_eq_true rfl) ⟨rfl, rfl⟩ id ?_
  refine V_if_ne (tgt := 15) (zdk tbX7_personOf_0_ok 3 rfl) (by decide) (fun c4 => ?_) (fun c4 => ?_)
  · replace h := ite_f h c4
    refine V_iload_n 2 (zdk tbX7_personOf_0_ok 8 rfl) rfl ?_
    by_cases c5 : v2 = (0 : Int32)
    · replace h := ite_t h c5
      refine V_tsw (off := 48) (tgt := 64) 0 c5 (zdk tbX7_personOf_0_ok 9 rfl) (by decide) rfl (by decide) ?_
      refine V_aload_n 0 (zdk tbX7_personOf_0_ok 10 rfl) rfl ?_
      obtain ⟨r6, q7, h⟩ := bd1_some h
      obtain ⟨q7, c_r6⟩ := zRc_some q7
      refine V_getR (zdk tbX7_personOf_0_ok 11 rfl) c_v0 fF7_32 rfl q7 ?_
      refine V_iload_n 1 (zdk tbX7_personOf_0_ok 12 rfl) rfl ?_
      obtain ⟨b8, h⟩ := chk_some h
      refine V_iald (zdk tbX7_personOf_0_ok 13 rfl) c_r6 b8 ?_
      cases h
      exact V_iret (zdk tbX7_personOf_0_ok 14 rfl) rfl rfl
    · replace h := ite_f h c5
      by_cases c9 : v2 = (1 : Int32)
      · replace h := ite_t h c9
        refine V_tsw (off := 55) (tgt := 71) 1 c9 (zdk tbX7_personOf_0_ok 9 rfl) (by decide) rfl (by decide) ?_
        refine V_aload_n 0 (zdk tbX7_personOf_0_ok 15 rfl) rfl ?_
        obtain ⟨r10, q11, h⟩ := bd1_some h
        obtain ⟨q11, c_r10⟩ := zRc_some q11
        refine V_getR (zdk tbX7_personOf_0_ok 16 rfl) c_v0 fF7_35 rfl q11 ?_
        refine V_iload_n 1 (zdk tbX7_personOf_0_ok 17 rfl) rfl ?_
        obtain ⟨b12, h⟩ := chk_some h
        refine V_iald (zdk tbX7_personOf_0_ok 18 rfl) c_r10 b12 ?_
        cases h
        exact V_iret (zdk tbX7_personOf_0_ok 19 rfl) rfl rfl
      · replace h := ite_f h c9
        by_cases c13 : v2 = (2 : Int32)
        · replace h := ite_t h c13
          refine V_tsw (off := 62) (tgt := 78) 2 c13 (zdk tbX7_personOf_0_ok 9 rfl) (by decide) rfl (by decide) ?_
          refine V_aload_n 0 (zdk tbX7_personOf_0_ok 20 rfl) rfl ?_
          obtain ⟨r14, q15, h⟩ := bd1_some h
          obtain ⟨q15, c_r14⟩ := zRc_some q15
          refine V_getR (zdk tbX7_personOf_0_ok 21 rfl) c_v0 fF7_38 rfl q15 ?_
          refine V_iload_n 1 (zdk tbX7_personOf_0_ok 22 rfl) rfl ?_
          obtain ⟨b16, h⟩ := chk_some h
          refine V_iald (zdk tbX7_personOf_0_ok 23 rfl) c_r14 b16 ?_
          cases h
          exact V_iret (zdk tbX7_personOf_0_ok 24 rfl) rfl rfl
        · replace h := ite_f h c13
          by_cases c17 : v2 = (3 : Int32)
          · replace h := ite_t h c17
            refine V_tsw (off := 69) (tgt := 85) 3 c17 (zdk tbX7_personOf_0_ok 9 rfl) (by decide) rfl (by decide) ?_
            refine V_aload_n 0 (zdk tbX7_personOf_0_ok 25 rfl) rfl ?_
            obtain ⟨r18, q19, h⟩ := bd1_some h
            obtain ⟨q19, c_r18⟩ := zRc_some q19
            refine V_getR (zdk tbX7_personOf_0_ok 26 rfl) c_v0 fF7_41 rfl q19 ?_
            refine V_iload_n 1 (zdk tbX7_personOf_0_ok 27 rfl) rfl ?_
            obtain ⟨b20, h⟩ := chk_some h
            refine V_iald (zdk tbX7_personOf_0_ok 28 rfl) c_r18 b20 ?_
            cases h
            exact V_iret (zdk tbX7_personOf_0_ok 29 rfl) rfl rfl
          · replace h := ite_f h c17
            by_cases c21 : v2 = (4 : Int32)
            · replace h := ite_t h c21
              refine V_tsw (off := 76) (tgt := 92) 4 c21 (zdk tbX7_personOf_0_ok 9 rfl) (by decide) rfl (by decide) ?_
              refine V_aload_n 0 (zdk tbX7_personOf_0_ok 30 rfl) rfl ?_
              obtain ⟨r22, q23, h⟩ := bd1_some h
              obtain ⟨q23, c_r22⟩ := zRc_some q23
              refine V_getR (zdk tbX7_personOf_0_ok 31 rfl) c_v0 fF7_44 rfl q23 ?_
              refine V_iload_n 1 (zdk tbX7_personOf_0_ok 32 rfl) rfl ?_
              obtain ⟨b24, h⟩ := chk_some h
              refine V_iald (zdk tbX7_personOf_0_ok 33 rfl) c_r22 b24 ?_
              cases h
              exact V_iret (zdk tbX7_personOf_0_ok 34 rfl) rfl rfl
            · replace h := ite_f h c21
              by_cases c25 : v2 = (5 : Int32)
              · replace h := ite_t h c25
                refine V_tsw (off := 83) (tgt := 99) 5 c25 (zdk tbX7_personOf_0_ok 9 rfl) (by decide) rfl (by decide) ?_
                refine V_aload_n 0 (zdk tbX7_personOf_0_ok 35 rfl) rfl ?_
                refine V_iload_n 1 (zdk tbX7_personOf_0_ok 36 rfl) rfl ?_
                obtain ⟨μ27, r28, q26, h⟩ := bd2_some h
                refine V_callV (R1 := (rmd 1)) (As := [.int v1]) (r := (some (.int r28))) (zdk tbX7_personOf_0_ok 37 rfl) sC7_119 (tX7_pace q26) (c_v0) rfl rfl rfl ⟨Nat.le_of_ble_eq_true rfl, Nat.le_of_ble_eq_true rfl⟩ (Nat.le_of_ble_eq_true rfl) ⟨rfl, rfl⟩ id ?_
                cases h
                exact V_iret (zdk tbX7_personOf_0_ok 38 rfl) rfl rfl
              · replace h := ite_f h c25
                by_cases c29 : v2 = (6 : Int32)
                · replace h := ite_t h c29
                  refine V_tsw (off := 89) (tgt := 105) 6 c29 (zdk tbX7_personOf_0_ok 9 rfl) (by decide) rfl (by decide) ?_
                  refine V_aload_n 0 (zdk tbX7_personOf_0_ok 39 rfl) rfl ?_
                  refine V_iload_n 1 (zdk tbX7_personOf_0_ok 40 rfl) rfl ?_
                  obtain ⟨μ31, r32, q30, h⟩ := bd2_some h
                  refine V_callV (R1 := (rmd 1)) (As := [.int v1]) (r := (some (.int r32))) (zdk tbX7_personOf_0_ok 41 rfl) sC7_116 (tX7_toil q30) (c_v0) rfl rfl rfl ⟨Nat.le_of_ble_eq_true rfl, Nat.le_of_ble_eq_true rfl⟩ (Nat.le_of_ble_eq_true rfl) ⟨rfl, rfl⟩ id ?_
                  cases h
                  exact V_iret (zdk tbX7_personOf_0_ok 42 rfl) rfl rfl
                · replace h := ite_f h c29
                  by_cases c33 : v2 = (7 : Int32)
                  · replace h := ite_t h c33
                    refine V_tsw (off := 95) (tgt := 111) 7 c33 (zdk tbX7_personOf_0_ok 9 rfl) (by decide) rfl (by decide) ?_
                    refine V_aload_n 0 (zdk tbX7_personOf_0_ok 43 rfl) rfl ?_
                    refine V_iload_n 1 (zdk tbX7_personOf_0_ok 44 rfl) rfl ?_
                    obtain ⟨μ35, r36, q34, h⟩ := bd2_some h
                    refine V_callV (R1 := (rmd 1)) (As := [.int v1]) (r := (some (.int r36))) (zdk tbX7_personOf_0_ok 45 rfl) sC7_113 (tX7_limit q34) (c_v0) rfl rfl rfl ⟨Nat.le_of_ble_eq_true rfl, Nat.le_of_ble_eq_true rfl⟩ (Nat.le_of_ble_eq_true rfl) ⟨rfl, rfl⟩ id ?_
                    cases h
                    exact V_iret (zdk tbX7_personOf_0_ok 46 rfl) rfl rfl
                  · replace h := ite_f h c33
                    refine V_tsw0 (tgt := 117) [0, 1, 2, 3, 4, 5, 6, 7] (List.forall_mem_cons.mpr ⟨c5, List.forall_mem_cons.mpr ⟨c9, List.forall_mem_cons.mpr ⟨c13, List.forall_mem_cons.mpr ⟨c17, List.forall_mem_cons.mpr ⟨c21, List.forall_mem_cons.mpr ⟨c25, List.forall_mem_cons.mpr ⟨c29, List.forall_mem_cons.mpr ⟨c33, fun _ h => absurd h List.not_mem_nil⟩⟩⟩⟩⟩⟩⟩⟩) (zdk tbX7_personOf_0_ok 9 rfl) (by decide) (by decide) (by decide) ?_
                    refine V_aload_n 0 (zdk tbX7_personOf_0_ok 47 rfl) rfl ?_
                    refine V_bipush (v := (-5)) (zdk tbX7_personOf_0_ok 48 rfl) rfl ?_
                    obtain ⟨μ38, r39, q37, h⟩ := bd2_some h
                    refine V_callV (R1 := (rmd 1)) (As := [.int (-5 : Int32)]) (r := (some (.int r39))) (zdk tbX7_personOf_0_ok 49 rfl) sC7_106 (tX7_no q37) (c_v0) rfl rfl rfl ⟨Nat.le_of_ble_eq_true rfl, Nat.le_of_ble_eq_true rfl⟩ (Nat.le_of_ble_eq_true rfl) ⟨rfl, rfl⟩ id ?_
                    cases h
                    exact V_iret (zdk tbX7_personOf_1_ok 0 rfl) rfl rfl
  · replace h := ite_t h c4
    refine V_aload_n 0 (zdk tbX7_personOf_0_ok 4 rfl) rfl ?_
    refine V_bipush (v := (-5)) (zdk tbX7_personOf_0_ok 5 rfl) rfl ?_
    obtain ⟨μ41, r42, q40, h⟩ := bd2_some h
    refine V_callV (R1 := (rmd 1)) (As := [.int (-5 : Int32)]) (r := (some (.int r42))) (zdk tbX7_personOf_0_ok 6 rfl) sC7_106 (tX7_no q40) (c_v0) rfl rfl rfl ⟨Nat.le_of_ble_eq_true rfl, Nat.le_of_ble_eq_true rfl⟩ (Nat.le_of_ble_eq_true rfl) ⟨rfl, rfl⟩ id ?_
    cases h
    exact V_iret (zdk tbX7_personOf_0_ok 7 rfl) rfl rfl

-- WhoComplainsCarriesModel.wrong
def tbX7_wrong_0 : List (Nat × Instr × Nat) := [(0, .aload_n 0, 1), (1, .iload_n 1, 1), (2, .putfield 136, 3), (5, .iconst 0, 1), (6, .ireturn, 1)]
theorem tbX7_wrong_0_ok : ∀ q ∈ tbX7_wrong_0, decode cX7_wrong q.1 = .ok (q.2.1, q.2.2) := by decide +kernel
theorem fF7_136 : zF RX7 136 7 29 := ⟨_, rfl, by decide, zin (i := 846) (by decide +kernel) rfl⟩
def fX7_wrong (n : Nat) (v0 : Nat) (v1 : Int32) (μ : ZMem) : Option (ZMem × Int32) := chk (isC n 7 v0) (lt (zpI μ v0 29 v1) (fun μ1 => some (μ1, (0 : Int32))))
theorem tX7_wrong {l : Launch} {fr : Bool} {n : Nat} {v0 : Nat} {v1 : Int32} {μ : ZMem} {z : ZMem × Int32} (h : fX7_wrong n v0 v1 μ = some z) : ZFn l mX7_wrong (rmd 1) [.ref v0, .int v1] fr n μ (fr, n, z.1, some (.int z.2)) := by
  unfold fX7_wrong at h
  obtain ⟨c_v0, h⟩ := chk_some h
  refine ZFn.of (ls := [(0, .ref v0), (1, .int v1)]) (by decide) (fun ξ => Nat.le_of_ble_eq_true rfl) (fun ξ => rfl) ?_
  refine V_aload_n 0 (zdk tbX7_wrong_0_ok 0 rfl) rfl ?_
  refine V_iload_n 1 (zdk tbX7_wrong_0_ok 1 rfl) rfl ?_
  obtain ⟨μ1, e2, h⟩ := lt_some h
  refine V_putI (zdk tbX7_wrong_0_ok 2 rfl) c_v0 fF7_136 rfl rfl rfl e2 ?_
  refine V_iconst (v := 0) (zdk tbX7_wrong_0_ok 3 rfl) rfl ?_
  cases h
  exact V_zret (zdk tbX7_wrong_0_ok 4 rfl) rfl (by decide) rfl

-- WhoComplainsCarriesModel.stands
def tbX7_stands_0 : List (Nat × Instr × Nat) := [(0, .iconst 0, 1), (1, .istore_n 2, 1), (2, .iconst 0, 1), (3, .istore_n 3, 1), (4, .iload_n 3, 1), (5, .iload_n 1, 1), (6, .if_icmp .ge 26, 3), (9, .iload_n 3, 1), (10, .aload_n 0, 1), (11, .getfield 66, 3), (14, .iload_n 2, 1), (15, .iaload, 1), (16, .ifCond .ne 7, 3), (19, .iconst 1, 1), (20, .goto 4, 3), (23, .iconst 0, 1), (24, .iadd, 1), (25, .istore_n 3, 1), (26, .iinc 2 1, 3), (29, .goto (-25), 3), (32, .aload_n 0, 1), (33, .getfield 139, 3), (36, .istore_n 3, 1), (37, .aload_n 0, 1), (38, .getfield 66, 3), (41, .iload_n 2, 1), (42, .iaload, 1), (43, .bipush 32, 2), (45, .if_icmp .le 41, 3), (48, .iload_n 3, 1), (49, .aload_n 0, 1), (50, .getfield 142, 3), (53, .if_icmp .ge 33, 3), (56, .aload_n 0, 1), (57, .getfield 59, 3), (60, .aload_n 0, 1), (61, .getfield 145, 3), (64, .iload_n 3, 1), (65, .iadd, 1), (66, .laload, 1), (67, .l2i, 1), (68, .aload_n 0, 1), (69, .getfield 66, 3), (72, .iload_n 2, 1), (73, .iaload, 1), (74, .if_icmp .ne 12, 3), (77, .iinc 3 1, 3), (80, .iinc 2 1, 3), (83, .goto (-46), 3), (86, .aload_n 0, 1)]
theorem tbX7_stands_0_ok : ∀ q ∈ tbX7_stands_0, decode cX7_stands q.1 = .ok (q.2.1, q.2.2) := by decide +kernel
def tbX7_stands_1 : List (Nat × Instr × Nat) := [(87, .getfield 66, 3), (90, .iload_n 2, 1), (91, .iaload, 1), (92, .bipush 32, 2), (94, .if_icmp .gt 7, 3), (97, .iconst 1, 1), (98, .goto 4, 3), (101, .iconst 0, 1), (102, .ireturn, 1)]
theorem tbX7_stands_1_ok : ∀ q ∈ tbX7_stands_1, decode cX7_stands q.1 = .ok (q.2.1, q.2.2) := by decide +kernel
theorem fF7_142 : zF RX7 142 7 27 := ⟨_, rfl, by decide, zin (i := 844) (by decide +kernel) rfl⟩
theorem fF7_145 : zF RX7 145 7 25 := ⟨_, rfl, by decide, zin (i := 842) (by decide +kernel) rfl⟩
theorem fF7_139 : zF RX7 139 7 26 := ⟨_, rfl, by decide, zin (i := 843) (by decide +kernel) rfl⟩
def fX7_stands_b24 (g4 : Nat → Int32 → Int32 → Int32 → ZMem → Option (ZMem × Int32)) (n : Nat) (v0 : Nat) (v1 : Int32) (v2 : Int32) (s0 : Int32) (s1 : Int32) (μ : ZMem) : Option (ZMem × Int32) := (g4 v0 v1 (v2 + (1 : Int32)) (s0 + s1) μ)
theorem tX7_stands_b24 {l : Launch} {fr : Bool} {n : Nat} {z : ZMem × Int32} {g4 : Nat → Int32 → Int32 → Int32 → ZMem → Option (ZMem × Int32)} (hg4 : ∀ (v0 : Nat) (v1 : Int32) (v2 : Int32) (v3 : Int32) (μ : ZMem), isC n 7 v0 = true → g4 v0 v1 v2 v3 μ = some z → V (zkI l mX7_stands (rmd 1) fr n z) fr 4 [(0, .ref v0), (1, .int v1), (2, .int v2), (3, .int v3)] [] n μ) (v0 : Nat) (v1 : Int32) (v2 : Int32) (s0 : Int32) (s1 : Int32) (μ : ZMem) (c_v0 : isC n 7 v0 = true) (h : fX7_stands_b24 g4 n v0 v1 v2 s0 s1 μ = some z) : V (zkI l mX7_stands (rmd 1) fr n z) fr 24 [(0, .ref v0), (1, .int v1), (2, .int v2)] [.int s1, .int s0] n μ := by
  unfold fX7_stands_b24 at h
  refine V_iadd (zdk tbX7_stands_0_ok 16 rfl) ?_
  refine V_istore_n (ls' := [(0, .ref v0), (1, .int v1), (2, .int v2), (3, .int (s0 + s1))]) [1, 2, 3, 0] (zdk tbX7_stands_0_ok 17 rfl) (Nat.le_of_ble_eq_true rfl) rfl ?_
  refine V_inc (dx := 1) (ls' := [(0, .ref v0), (1, .int v1), (2, .int (v2 + (1 : Int32))), (3, .int (s0 + s1))]) 2 [1, 2, 0, 3] (zdk tbX7_stands_0_ok 18 rfl) rfl (Nat.le_of_ble_eq_true rfl) rfl rfl ?_
  refine V_goto (tgt := 4) (zdk tbX7_stands_0_ok 19 rfl) (by decide) ?_
  exact hg4 v0 v1 (v2 + (1 : Int32)) (s0 + s1) μ c_v0 h
def fX7_stands_b102 (n : Nat) (s0 : Int32) (μ : ZMem) : Option (ZMem × Int32) := chk (b01 s0) (some (μ, s0))
theorem tX7_stands_b102 {l : Launch} {fr : Bool} {n : Nat} {z : ZMem × Int32} (s0 : Int32) (μ : ZMem) (h : fX7_stands_b102 n s0 μ = some z) : V (zkI l mX7_stands (rmd 1) fr n z) fr 102 [] [.int s0] n μ := by
  unfold fX7_stands_b102 at h
  obtain ⟨b1, h⟩ := chk_some h
  cases h
  exact V_zret (zdk tbX7_stands_1_ok 8 rfl) rfl (b01_n b1) rfl
def fX7_stands_b86 (n : Nat) (v0 : Nat) (v2 : Int32) (μ : ZMem) : Option (ZMem × Int32) := bd1 (zRc n 100 μ v0 21) (fun r1 => chk (inb v2 r1) ((if (32 : Int32) < (zI μ r1 v2.toNatClampNeg) then (fX7_stands_b102 n (0 : Int32) μ) else (fX7_stands_b102 n (1 : Int32) μ))))
theorem tX7_stands_b86 {l : Launch} {fr : Bool} {n : Nat} {z : ZMem × Int32} (v0 : Nat) (v2 : Int32) (μ : ZMem) (c_v0 : isC n 7 v0 = true) (h : fX7_stands_b86 n v0 v2 μ = some z) : V (zkI l mX7_stands (rmd 1) fr n z) fr 86 [(0, .ref v0), (2, .int v2)] [] n μ := by
  unfold fX7_stands_b86 at h
  refine V_aload_n 0 (zdk tbX7_stands_0_ok 49 rfl) rfl ?_
  obtain ⟨r1, q2, h⟩ := bd1_some h
  obtain ⟨q2, c_r1⟩ := zRc_some q2
  refine V_getR (zdk tbX7_stands_1_ok 0 rfl) c_v0 fF7_66 rfl q2 ?_
  refine V_iload_n 1 (zdk tbX7_stands_1_ok 1 rfl) rfl ?_
  obtain ⟨b3, h⟩ := chk_some h
  refine V_iald (zdk tbX7_stands_1_ok 2 rfl) c_r1 b3 ?_
  refine V_bipush (v := 32) (zdk tbX7_stands_1_ok 3 rfl) rfl ?_
  refine V_icmp_gt (tgt := 101) (zdk tbX7_stands_1_ok 4 rfl) (by decide) (fun c4 => ?_) (fun c4 => ?_)
  · replace h := ite_t h c4
    refine V_iconst (v := 0) (zdk tbX7_stands_1_ok 7 rfl) rfl ?_
    refine V_sub (ls' := []) [] rfl ?_
    exact tX7_stands_b102 (0 : Int32) μ  h
  · replace h := ite_f h c4
    refine V_iconst (v := 1) (zdk tbX7_stands_1_ok 5 rfl) rfl ?_
    refine V_goto (tgt := 102) (zdk tbX7_stands_1_ok 6 rfl) (by decide) ?_
    refine V_sub (ls' := []) [] rfl ?_
    exact tX7_stands_b102 (1 : Int32) μ  h
def fX7_stands_b37 (n : Nat) : Nat → Nat → Int32 → Int32 → ZMem → Option (ZMem × Int32)
  | 0, _, _, _, _ => none
  | k + 1, v0, v2, v3, μ => bd1 (zRc n 100 μ v0 21) (fun r1 => chk (inb v2 r1) ((if (zI μ r1 v2.toNatClampNeg) ≤ (32 : Int32) then (fX7_stands_b86 n v0 v2 μ) else (if (zI μ v0 27) ≤ v3 then (fX7_stands_b86 n v0 v2 μ) else bd1 (zRc n 101 μ v0 19) (fun r6 => chk (inb ((zI μ v0 25) + v3) r6) (bd1 (zRc n 100 μ v0 21) (fun r9 => chk (inb v2 r9) ((if ((zL μ r6 ((zI μ v0 25) + v3).toNatClampNeg).toInt32) = (zI μ r9 v2.toNatClampNeg) then (fX7_stands_b37 n k v0 (v2 + (1 : Int32)) (v3 + (1 : Int32)) μ) else (fX7_stands_b86 n v0 v2 μ))))))))))
theorem tX7_stands_b37 {l : Launch} {fr : Bool} {n : Nat} {z : ZMem × Int32} : ∀ (k : Nat) (v0 : Nat) (v2 : Int32) (v3 : Int32) (μ : ZMem) (c_v0 : isC n 7 v0 = true), fX7_stands_b37 n k v0 v2 v3 μ = some z → V (zkI l mX7_stands (rmd 1) fr n z) fr 37 [(0, .ref v0), (2, .int v2), (3, .int v3)] [] n μ := by
  intro k
  induction k with
  | zero =>
    intro v0 v2 v3 μ c_v0 h
    unfold fX7_stands_b37 at h
    cases h
  | succ k ih =>
    intro v0 v2 v3 μ c_v0 h
    unfold fX7_stands_b37 at h
    refine V_aload_n 0 (zdk tbX7_stands_0_ok 23 rfl) rfl ?_
    obtain ⟨r1, q2, h⟩ := bd1_some h
    obtain ⟨q2, c_r1⟩ := zRc_some q2
    refine V_getR (zdk tbX7_stands_0_ok 24 rfl) c_v0 fF7_66 rfl q2 ?_
    refine V_iload_n 1 (zdk tbX7_stands_0_ok 25 rfl) rfl ?_
    obtain ⟨b3, h⟩ := chk_some h
    refine V_iald (zdk tbX7_stands_0_ok 26 rfl) c_r1 b3 ?_
    refine V_bipush (v := 32) (zdk tbX7_stands_0_ok 27 rfl) rfl ?_
    refine V_icmp_le (tgt := 86) (zdk tbX7_stands_0_ok 28 rfl) (by decide) (fun c4 => ?_) (fun c4 => ?_)
    · replace h := ite_t h c4
      refine V_sub (ls' := [(0, .ref v0), (2, .int v2)]) [0, 1] rfl ?_
      exact tX7_stands_b86 v0 v2 μ c_v0 h
    · replace h := ite_f h c4
      refine V_iload_n 2 (zdk tbX7_stands_0_ok 29 rfl) rfl ?_
      refine V_aload_n 0 (zdk tbX7_stands_0_ok 30 rfl) rfl ?_
      refine V_getI (zdk tbX7_stands_0_ok 31 rfl) c_v0 fF7_142 rfl ?_
      refine V_icmp_ge (tgt := 86) (zdk tbX7_stands_0_ok 32 rfl) (by decide) (fun c5 => ?_) (fun c5 => ?_)
      · replace h := ite_t h c5
        refine V_sub (ls' := [(0, .ref v0), (2, .int v2)]) [0, 1] rfl ?_
        exact tX7_stands_b86 v0 v2 μ c_v0 h
      · replace h := ite_f h c5
        refine V_aload_n 0 (zdk tbX7_stands_0_ok 33 rfl) rfl ?_
        obtain ⟨r6, q7, h⟩ := bd1_some h
        obtain ⟨q7, c_r6⟩ := zRc_some q7
        refine V_getR (zdk tbX7_stands_0_ok 34 rfl) c_v0 fF7_59 rfl q7 ?_
        refine V_aload_n 0 (zdk tbX7_stands_0_ok 35 rfl) rfl ?_
        refine V_getI (zdk tbX7_stands_0_ok 36 rfl) c_v0 fF7_145 rfl ?_
        refine V_iload_n 2 (zdk tbX7_stands_0_ok 37 rfl) rfl ?_
        refine V_iadd (zdk tbX7_stands_0_ok 38 rfl) ?_
        obtain ⟨b8, h⟩ := chk_some h
        refine V_lald (zdk tbX7_stands_0_ok 39 rfl) c_r6 b8 ?_
        refine V_l2i (zdk tbX7_stands_0_ok 40 rfl) rfl ?_
        refine V_aload_n 0 (zdk tbX7_stands_0_ok 41 rfl) rfl ?_
        obtain ⟨r9, q10, h⟩ := bd1_some h
        obtain ⟨q10, c_r9⟩ := zRc_some q10
        refine V_getR (zdk tbX7_stands_0_ok 42 rfl) c_v0 fF7_66 rfl q10 ?_
        refine V_iload_n 1 (zdk tbX7_stands_0_ok 43 rfl) rfl ?_
        obtain ⟨b11, h⟩ := chk_some h
        refine V_iald (zdk tbX7_stands_0_ok 44 rfl) c_r9 b11 ?_
        refine V_icmp_ne (tgt := 86) (zdk tbX7_stands_0_ok 45 rfl) (by decide) (fun c12 => ?_) (fun c12 => ?_)
        · replace h := ite_f h c12
          refine V_sub (ls' := [(0, .ref v0), (2, .int v2)]) [0, 1] rfl ?_
          exact tX7_stands_b86 v0 v2 μ c_v0 h
        · replace h := ite_t h c12
          refine V_inc (dx := 1) (ls' := [(0, .ref v0), (2, .int v2), (3, .int (v3 + (1 : Int32)))]) 2 [1, 2, 0] (zdk tbX7_stands_0_ok 46 rfl) rfl (Nat.le_of_ble_eq_true rfl) rfl rfl ?_
          refine V_inc (dx := 1) (ls' := [(0, .ref v0), (2, .int (v2 + (1 : Int32))), (3, .int (v3 + (1 : Int32)))]) 1 [1, 0, 2] (zdk tbX7_stands_0_ok 47 rfl) rfl (Nat.le_of_ble_eq_true rfl) rfl rfl ?_
          refine V_goto (tgt := 37) (zdk tbX7_stands_0_ok 48 rfl) (by decide) ?_
          exact ih v0 (v2 + (1 : Int32)) (v3 + (1 : Int32)) μ c_v0 h
def fX7_stands_b4 (n : Nat) : Nat → Nat → Int32 → Int32 → Int32 → ZMem → Option (ZMem × Int32)
  | 0, _, _, _, _, _ => none
  | k + 1, v0, v1, v2, v3, μ => (if v1 ≤ v3 then (fX7_stands_b37 n FU v0 v2 (zI μ v0 26) μ) else bd1 (zRc n 100 μ v0 21) (fun r2 => chk (inb v2 r2) ((if (zI μ r2 v2.toNatClampNeg) = 0 then (fX7_stands_b24 (fX7_stands_b4 n k) n v0 v1 v2 v3 (1 : Int32) μ) else (fX7_stands_b24 (fX7_stands_b4 n k) n v0 v1 v2 v3 (0 : Int32) μ)))))
theorem tX7_stands_b4 {l : Launch} {fr : Bool} {n : Nat} {z : ZMem × Int32} : ∀ (k : Nat) (v0 : Nat) (v1 : Int32) (v2 : Int32) (v3 : Int32) (μ : ZMem) (c_v0 : isC n 7 v0 = true), fX7_stands_b4 n k v0 v1 v2 v3 μ = some z → V (zkI l mX7_stands (rmd 1) fr n z) fr 4 [(0, .ref v0), (1, .int v1), (2, .int v2), (3, .int v3)] [] n μ := by
  intro k
  induction k with
  | zero =>
    intro v0 v1 v2 v3 μ c_v0 h
    unfold fX7_stands_b4 at h
    cases h
  | succ k ih =>
    intro v0 v1 v2 v3 μ c_v0 h
    unfold fX7_stands_b4 at h
    refine V_iload_n 3 (zdk tbX7_stands_0_ok 4 rfl) rfl ?_
    refine V_iload_n 1 (zdk tbX7_stands_0_ok 5 rfl) rfl ?_
    refine V_icmp_ge (tgt := 32) (zdk tbX7_stands_0_ok 6 rfl) (by decide) (fun c1 => ?_) (fun c1 => ?_)
    · replace h := ite_t h c1
      refine V_aload_n 0 (zdk tbX7_stands_0_ok 20 rfl) rfl ?_
      refine V_getI (zdk tbX7_stands_0_ok 21 rfl) c_v0 fF7_139 rfl ?_
      refine V_istore_n (ls' := [(0, .ref v0), (2, .int v2), (3, .int (zI μ v0 26))]) [1, 3, 0] (zdk tbX7_stands_0_ok 22 rfl) (Nat.le_of_ble_eq_true rfl) rfl ?_
      exact tX7_stands_b37 FU v0 v2 (zI μ v0 26) μ c_v0 h
    · replace h := ite_f h c1
      refine V_iload_n 3 (zdk tbX7_stands_0_ok 7 rfl) rfl ?_
      refine V_aload_n 0 (zdk tbX7_stands_0_ok 8 rfl) rfl ?_
      obtain ⟨r2, q3, h⟩ := bd1_some h
      obtain ⟨q3, c_r2⟩ := zRc_some q3
      refine V_getR (zdk tbX7_stands_0_ok 9 rfl) c_v0 fF7_66 rfl q3 ?_
      refine V_iload_n 2 (zdk tbX7_stands_0_ok 10 rfl) rfl ?_
      obtain ⟨b4, h⟩ := chk_some h
      refine V_iald (zdk tbX7_stands_0_ok 11 rfl) c_r2 b4 ?_
      refine V_if_ne (tgt := 23) (zdk tbX7_stands_0_ok 12 rfl) (by decide) (fun c5 => ?_) (fun c5 => ?_)
      · replace h := ite_f h c5
        refine V_iconst (v := 0) (zdk tbX7_stands_0_ok 15 rfl) rfl ?_
        refine V_sub (ls' := [(0, .ref v0), (1, .int v1), (2, .int v2)]) [0, 1, 2] rfl ?_
        exact tX7_stands_b24 (fun v0 v1 v2 v3 μ y0 h => ih v0 v1 v2 v3 μ y0 h) v0 v1 v2 v3 (0 : Int32) μ c_v0 h
      · replace h := ite_t h c5
        refine V_iconst (v := 1) (zdk tbX7_stands_0_ok 13 rfl) rfl ?_
        refine V_goto (tgt := 24) (zdk tbX7_stands_0_ok 14 rfl) (by decide) ?_
        refine V_sub (ls' := [(0, .ref v0), (1, .int v1), (2, .int v2)]) [0, 1, 2] rfl ?_
        exact tX7_stands_b24 (fun v0 v1 v2 v3 μ y0 h => ih v0 v1 v2 v3 μ y0 h) v0 v1 v2 v3 (1 : Int32) μ c_v0 h
def fX7_stands (n : Nat) (v0 : Nat) (v1 : Int32) (μ : ZMem) : Option (ZMem × Int32) := chk (isC n 7 v0) ((fX7_stands_b4 n FU v0 v1 (0 : Int32) (0 : Int32) μ))
theorem tX7_stands {l : Launch} {fr : Bool} {n : Nat} {v0 : Nat} {v1 : Int32} {μ : ZMem} {z : ZMem × Int32} (h : fX7_stands n v0 v1 μ = some z) : ZFn l mX7_stands (rmd 1) [.ref v0, .int v1] fr n μ (fr, n, z.1, some (.int z.2)) := by
  unfold fX7_stands at h
  obtain ⟨c_v0, h⟩ := chk_some h
  refine ZFn.of (ls := [(0, .ref v0), (1, .int v1)]) (by decide) (fun ξ => Nat.le_of_ble_eq_true rfl) (fun ξ => rfl) ?_
  refine V_iconst (v := 0) (zdk tbX7_stands_0_ok 0 rfl) rfl ?_
  refine V_istore_n (ls' := [(0, .ref v0), (1, .int v1), (2, .int (0 : Int32))]) [1, 2, 0] (zdk tbX7_stands_0_ok 1 rfl) (Nat.le_of_ble_eq_true rfl) rfl ?_
  refine V_iconst (v := 0) (zdk tbX7_stands_0_ok 2 rfl) rfl ?_
  refine V_istore_n (ls' := [(0, .ref v0), (1, .int v1), (2, .int (0 : Int32)), (3, .int (0 : Int32))]) [1, 2, 3, 0] (zdk tbX7_stands_0_ok 3 rfl) (Nat.le_of_ble_eq_true rfl) rfl ?_
  exact tX7_stands_b4 FU v0 v1 (0 : Int32) (0 : Int32) μ c_v0 h

-- WhoComplainsCarriesModel.word
def tbX7_word_0 : List (Nat × Instr × Nat) := [(0, .iconst 0, 1), (1, .istore_n 1, 1), (2, .aload_n 0, 1), (3, .getfield 139, 3), (6, .istore_n 2, 1), (7, .iconst 0, 1), (8, .istore_n 3, 1), (9, .iload_n 3, 1), (10, .bipush 7, 2), (12, .if_icmp .ge 118, 3), (15, .aload_n 0, 1), (16, .getfield 139, 3), (19, .istore 4, 2), (21, .iload_n 1, 1), (22, .istore 5, 2), (24, .aload_n 0, 1), (25, .getfield 66, 3), (28, .iload 5, 2), (30, .iaload, 1), (31, .ifCond .eq 44, 3), (34, .iload 4, 2), (36, .aload_n 0, 1), (37, .getfield 142, 3), (40, .if_icmp .ge 35, 3), (43, .aload_n 0, 1), (44, .getfield 59, 3), (47, .aload_n 0, 1), (48, .getfield 145, 3), (51, .iload 4, 2), (53, .iadd, 1), (54, .laload, 1), (55, .l2i, 1), (56, .aload_n 0, 1), (57, .getfield 66, 3), (60, .iload 5, 2), (62, .iaload, 1), (63, .if_icmp .ne 12, 3), (66, .iinc 4 1, 3), (69, .iinc 5 1, 3), (72, .goto (-48), 3), (75, .aload_n 0, 1), (76, .getfield 66, 3), (79, .iload 5, 2), (81, .iaload, 1), (82, .ifCond .ne 11, 3), (85, .aload_n 0, 1), (86, .iload 4, 2), (88, .putfield 139, 3), (91, .iload_n 3, 1), (92, .ireturn, 1)]
theorem tbX7_word_0_ok : ∀ q ∈ tbX7_word_0, decode cX7_word q.1 = .ok (q.2.1, q.2.2) := by decide +kernel
def tbX7_word_1 : List (Nat × Instr × Nat) := [(93, .iload 4, 2), (95, .iload_n 2, 1), (96, .if_icmp .le 8, 3), (99, .iload 4, 2), (101, .goto 4, 3), (104, .iload_n 2, 1), (105, .istore_n 2, 1), (106, .aload_n 0, 1), (107, .getfield 66, 3), (110, .iload_n 1, 1), (111, .iaload, 1), (112, .ifCond .eq 9, 3), (115, .iinc 1 1, 3), (118, .goto (-12), 3), (121, .iinc 1 1, 3), (124, .iinc 3 1, 3), (127, .goto (-118), 3), (130, .aload_n 0, 1), (131, .iload_n 2, 1), (132, .putfield 136, 3), (135, .iconst (-1), 1), (136, .ireturn, 1)]
theorem tbX7_word_1_ok : ∀ q ∈ tbX7_word_1, decode cX7_word q.1 = .ok (q.2.1, q.2.2) := by decide +kernel
def fX7_word_b106 (g9 : Nat → Int32 → Int32 → Int32 → ZMem → Option (ZMem × Int32)) (n : Nat) : Nat → Nat → Int32 → Int32 → Int32 → ZMem → Option (ZMem × Int32)
  | 0, _, _, _, _, _ => none
  | k + 1, v0, v1, v2, v3, μ => bd1 (zRc n 100 μ v0 21) (fun r1 => chk (inb v1 r1) ((if (zI μ r1 v1.toNatClampNeg) = 0 then (g9 v0 (v1 + (1 : Int32)) v2 (v3 + (1 : Int32)) μ) else (fX7_word_b106 g9 n k v0 (v1 + (1 : Int32)) v2 v3 μ))))
theorem tX7_word_b106 {l : Launch} {fr : Bool} {n : Nat} {z : ZMem × Int32} {g9 : Nat → Int32 → Int32 → Int32 → ZMem → Option (ZMem × Int32)} (hg9 : ∀ (v0 : Nat) (v1 : Int32) (v2 : Int32) (v3 : Int32) (μ : ZMem), isC n 7 v0 = true → g9 v0 v1 v2 v3 μ = some z → V (zkI l mX7_word (rmd 1) fr n z) fr 9 [(0, .ref v0), (1, .int v1), (2, .int v2), (3, .int v3)] [] n μ) : ∀ (k : Nat) (v0 : Nat) (v1 : Int32) (v2 : Int32) (v3 : Int32) (μ : ZMem) (c_v0 : isC n 7 v0 = true), fX7_word_b106 g9 n k v0 v1 v2 v3 μ = some z → V (zkI l mX7_word (rmd 1) fr n z) fr 106 [(0, .ref v0), (1, .int v1), (2, .int v2), (3, .int v3)] [] n μ := by
  intro k
  induction k with
  | zero =>
    intro v0 v1 v2 v3 μ c_v0 h
    unfold fX7_word_b106 at h
    cases h
  | succ k ih =>
    intro v0 v1 v2 v3 μ c_v0 h
    unfold fX7_word_b106 at h
    refine V_aload_n 0 (zdk tbX7_word_1_ok 7 rfl) rfl ?_
    obtain ⟨r1, q2, h⟩ := bd1_some h
    obtain ⟨q2, c_r1⟩ := zRc_some q2
    refine V_getR (zdk tbX7_word_1_ok 8 rfl) c_v0 fF7_66 rfl q2 ?_
    refine V_iload_n 1 (zdk tbX7_word_1_ok 9 rfl) rfl ?_
    obtain ⟨b3, h⟩ := chk_some h
    refine V_iald (zdk tbX7_word_1_ok 10 rfl) c_r1 b3 ?_
    refine V_if_eq (tgt := 121) (zdk tbX7_word_1_ok 11 rfl) (by decide) (fun c4 => ?_) (fun c4 => ?_)
    · replace h := ite_t h c4
      refine V_inc (dx := 1) (ls' := [(0, .ref v0), (1, .int (v1 + (1 : Int32))), (2, .int v2), (3, .int v3)]) 1 [1, 0, 2, 3] (zdk tbX7_word_1_ok 14 rfl) rfl (Nat.le_of_ble_eq_true rfl) rfl rfl ?_
      refine V_inc (dx := 1) (ls' := [(0, .ref v0), (1, .int (v1 + (1 : Int32))), (2, .int v2), (3, .int (v3 + (1 : Int32)))]) 3 [1, 2, 3, 0] (zdk tbX7_word_1_ok 15 rfl) rfl (Nat.le_of_ble_eq_true rfl) rfl rfl ?_
      refine V_goto (tgt := 9) (zdk tbX7_word_1_ok 16 rfl) (by decide) ?_
      exact hg9 v0 (v1 + (1 : Int32)) v2 (v3 + (1 : Int32)) μ c_v0 h
    · replace h := ite_f h c4
      refine V_inc (dx := 1) (ls' := [(0, .ref v0), (1, .int (v1 + (1 : Int32))), (2, .int v2), (3, .int v3)]) 1 [1, 0, 2, 3] (zdk tbX7_word_1_ok 12 rfl) rfl (Nat.le_of_ble_eq_true rfl) rfl rfl ?_
      refine V_goto (tgt := 106) (zdk tbX7_word_1_ok 13 rfl) (by decide) ?_
      exact ih v0 (v1 + (1 : Int32)) v2 v3 μ c_v0 h
def fX7_word_b105 (g9 : Nat → Int32 → Int32 → Int32 → ZMem → Option (ZMem × Int32)) (n : Nat) (v0 : Nat) (v1 : Int32) (v3 : Int32) (s0 : Int32) (μ : ZMem) : Option (ZMem × Int32) := (fX7_word_b106 g9 n FU v0 v1 s0 v3 μ)
theorem tX7_word_b105 {l : Launch} {fr : Bool} {n : Nat} {z : ZMem × Int32} {g9 : Nat → Int32 → Int32 → Int32 → ZMem → Option (ZMem × Int32)} (hg9 : ∀ (v0 : Nat) (v1 : Int32) (v2 : Int32) (v3 : Int32) (μ : ZMem), isC n 7 v0 = true → g9 v0 v1 v2 v3 μ = some z → V (zkI l mX7_word (rmd 1) fr n z) fr 9 [(0, .ref v0), (1, .int v1), (2, .int v2), (3, .int v3)] [] n μ) (v0 : Nat) (v1 : Int32) (v3 : Int32) (s0 : Int32) (μ : ZMem) (c_v0 : isC n 7 v0 = true) (h : fX7_word_b105 g9 n v0 v1 v3 s0 μ = some z) : V (zkI l mX7_word (rmd 1) fr n z) fr 105 [(0, .ref v0), (1, .int v1), (3, .int v3)] [.int s0] n μ := by
  unfold fX7_word_b105 at h
  refine V_istore_n (ls' := [(0, .ref v0), (1, .int v1), (2, .int s0), (3, .int v3)]) [1, 2, 0, 3] (zdk tbX7_word_1_ok 6 rfl) (Nat.le_of_ble_eq_true rfl) rfl ?_
  exact tX7_word_b106 hg9 FU v0 v1 s0 v3 μ c_v0 h
def fX7_word_b75 (g9 : Nat → Int32 → Int32 → Int32 → ZMem → Option (ZMem × Int32)) (n : Nat) (v0 : Nat) (v1 : Int32) (v2 : Int32) (v3 : Int32) (v4 : Int32) (v5 : Int32) (μ : ZMem) : Option (ZMem × Int32) := bd1 (zRc n 100 μ v0 21) (fun r1 => chk (inb v5 r1) ((if (zI μ r1 v5.toNatClampNeg) = 0 then lt (zpI μ v0 26 v4) (fun μ6 => some (μ6, v3)) else (if v4 ≤ v2 then (fX7_word_b105 g9 n v0 v1 v3 v2 μ) else (fX7_word_b105 g9 n v0 v1 v3 v4 μ)))))
theorem tX7_word_b75 {l : Launch} {fr : Bool} {n : Nat} {z : ZMem × Int32} {g9 : Nat → Int32 → Int32 → Int32 → ZMem → Option (ZMem × Int32)} (hg9 : ∀ (v0 : Nat) (v1 : Int32) (v2 : Int32) (v3 : Int32) (μ : ZMem), isC n 7 v0 = true → g9 v0 v1 v2 v3 μ = some z → V (zkI l mX7_word (rmd 1) fr n z) fr 9 [(0, .ref v0), (1, .int v1), (2, .int v2), (3, .int v3)] [] n μ) (v0 : Nat) (v1 : Int32) (v2 : Int32) (v3 : Int32) (v4 : Int32) (v5 : Int32) (μ : ZMem) (c_v0 : isC n 7 v0 = true) (h : fX7_word_b75 g9 n v0 v1 v2 v3 v4 v5 μ = some z) : V (zkI l mX7_word (rmd 1) fr n z) fr 75 [(0, .ref v0), (1, .int v1), (2, .int v2), (3, .int v3), (4, .int v4), (5, .int v5)] [] n μ := by
  unfold fX7_word_b75 at h
  refine V_aload_n 0 (zdk tbX7_word_0_ok 40 rfl) rfl ?_
  obtain ⟨r1, q2, h⟩ := bd1_some h
  obtain ⟨q2, c_r1⟩ := zRc_some q2
  refine V_getR (zdk tbX7_word_0_ok 41 rfl) c_v0 fF7_66 rfl q2 ?_
  refine V_iload 5 (zdk tbX7_word_0_ok 42 rfl) rfl ?_
  obtain ⟨b3, h⟩ := chk_some h
  refine V_iald (zdk tbX7_word_0_ok 43 rfl) c_r1 b3 ?_
  refine V_if_ne (tgt := 93) (zdk tbX7_word_0_ok 44 rfl) (by decide) (fun c4 => ?_) (fun c4 => ?_)
  · replace h := ite_f h c4
    refine V_iload 4 (zdk tbX7_word_1_ok 0 rfl) rfl ?_
    refine V_iload_n 2 (zdk tbX7_word_1_ok 1 rfl) rfl ?_
    refine V_icmp_le (tgt := 104) (zdk tbX7_word_1_ok 2 rfl) (by decide) (fun c5 => ?_) (fun c5 => ?_)
    · replace h := ite_t h c5
      refine V_iload_n 2 (zdk tbX7_word_1_ok 5 rfl) rfl ?_
      refine V_sub (ls' := [(0, .ref v0), (1, .int v1), (3, .int v3)]) [0, 1, 3] rfl ?_
      exact tX7_word_b105 hg9 v0 v1 v3 v2 μ c_v0 h
    · replace h := ite_f h c5
      refine V_iload 4 (zdk tbX7_word_1_ok 3 rfl) rfl ?_
      refine V_goto (tgt := 105) (zdk tbX7_word_1_ok 4 rfl) (by decide) ?_
      refine V_sub (ls' := [(0, .ref v0), (1, .int v1), (3, .int v3)]) [0, 1, 3] rfl ?_
      exact tX7_word_b105 hg9 v0 v1 v3 v4 μ c_v0 h
  · replace h := ite_t h c4
    refine V_aload_n 0 (zdk tbX7_word_0_ok 45 rfl) rfl ?_
    refine V_iload 4 (zdk tbX7_word_0_ok 46 rfl) rfl ?_
    obtain ⟨μ6, e7, h⟩ := lt_some h
    refine V_putI (zdk tbX7_word_0_ok 47 rfl) c_v0 fF7_139 rfl rfl rfl e7 ?_
    refine V_iload_n 3 (zdk tbX7_word_0_ok 48 rfl) rfl ?_
    cases h
    exact V_iret (zdk tbX7_word_0_ok 49 rfl) rfl rfl
def fX7_word_b24 (g9 : Nat → Int32 → Int32 → Int32 → ZMem → Option (ZMem × Int32)) (n : Nat) : Nat → Nat → Int32 → Int32 → Int32 → Int32 → Int32 → ZMem → Option (ZMem × Int32)
  | 0, _, _, _, _, _, _, _ => none
  | k + 1, v0, v1, v2, v3, v4, v5, μ => bd1 (zRc n 100 μ v0 21) (fun r1 => chk (inb v5 r1) ((if (zI μ r1 v5.toNatClampNeg) = 0 then (fX7_word_b75 g9 n v0 v1 v2 v3 v4 v5 μ) else (if (zI μ v0 27) ≤ v4 then (fX7_word_b75 g9 n v0 v1 v2 v3 v4 v5 μ) else bd1 (zRc n 101 μ v0 19) (fun r6 => chk (inb ((zI μ v0 25) + v4) r6) (bd1 (zRc n 100 μ v0 21) (fun r9 => chk (inb v5 r9) ((if ((zL μ r6 ((zI μ v0 25) + v4).toNatClampNeg).toInt32) = (zI μ r9 v5.toNatClampNeg) then (fX7_word_b24 g9 n k v0 v1 v2 v3 (v4 + (1 : Int32)) (v5 + (1 : Int32)) μ) else (fX7_word_b75 g9 n v0 v1 v2 v3 v4 v5 μ))))))))))
theorem tX7_word_b24 {l : Launch} {fr : Bool} {n : Nat} {z : ZMem × Int32} {g9 : Nat → Int32 → Int32 → Int32 → ZMem → Option (ZMem × Int32)} (hg9 : ∀ (v0 : Nat) (v1 : Int32) (v2 : Int32) (v3 : Int32) (μ : ZMem), isC n 7 v0 = true → g9 v0 v1 v2 v3 μ = some z → V (zkI l mX7_word (rmd 1) fr n z) fr 9 [(0, .ref v0), (1, .int v1), (2, .int v2), (3, .int v3)] [] n μ) : ∀ (k : Nat) (v0 : Nat) (v1 : Int32) (v2 : Int32) (v3 : Int32) (v4 : Int32) (v5 : Int32) (μ : ZMem) (c_v0 : isC n 7 v0 = true), fX7_word_b24 g9 n k v0 v1 v2 v3 v4 v5 μ = some z → V (zkI l mX7_word (rmd 1) fr n z) fr 24 [(0, .ref v0), (1, .int v1), (2, .int v2), (3, .int v3), (4, .int v4), (5, .int v5)] [] n μ := by
  intro k
  induction k with
  | zero =>
    intro v0 v1 v2 v3 v4 v5 μ c_v0 h
    unfold fX7_word_b24 at h
    cases h
  | succ k ih =>
    intro v0 v1 v2 v3 v4 v5 μ c_v0 h
    unfold fX7_word_b24 at h
    refine V_aload_n 0 (zdk tbX7_word_0_ok 15 rfl) rfl ?_
    obtain ⟨r1, q2, h⟩ := bd1_some h
    obtain ⟨q2, c_r1⟩ := zRc_some q2
    refine V_getR (zdk tbX7_word_0_ok 16 rfl) c_v0 fF7_66 rfl q2 ?_
    refine V_iload 5 (zdk tbX7_word_0_ok 17 rfl) rfl ?_
    obtain ⟨b3, h⟩ := chk_some h
    refine V_iald (zdk tbX7_word_0_ok 18 rfl) c_r1 b3 ?_
    refine V_if_eq (tgt := 75) (zdk tbX7_word_0_ok 19 rfl) (by decide) (fun c4 => ?_) (fun c4 => ?_)
    · replace h := ite_t h c4
      exact tX7_word_b75 hg9 v0 v1 v2 v3 v4 v5 μ c_v0 h
    · replace h := ite_f h c4
      refine V_iload 4 (zdk tbX7_word_0_ok 20 rfl) rfl ?_
      refine V_aload_n 0 (zdk tbX7_word_0_ok 21 rfl) rfl ?_
      refine V_getI (zdk tbX7_word_0_ok 22 rfl) c_v0 fF7_142 rfl ?_
      refine V_icmp_ge (tgt := 75) (zdk tbX7_word_0_ok 23 rfl) (by decide) (fun c5 => ?_) (fun c5 => ?_)
      · replace h := ite_t h c5
        exact tX7_word_b75 hg9 v0 v1 v2 v3 v4 v5 μ c_v0 h
      · replace h := ite_f h c5
        refine V_aload_n 0 (zdk tbX7_word_0_ok 24 rfl) rfl ?_
        obtain ⟨r6, q7, h⟩ := bd1_some h
        obtain ⟨q7, c_r6⟩ := zRc_some q7
        refine V_getR (zdk tbX7_word_0_ok 25 rfl) c_v0 fF7_59 rfl q7 ?_
        refine V_aload_n 0 (zdk tbX7_word_0_ok 26 rfl) rfl ?_
        refine V_getI (zdk tbX7_word_0_ok 27 rfl) c_v0 fF7_145 rfl ?_
        refine V_iload 4 (zdk tbX7_word_0_ok 28 rfl) rfl ?_
        refine V_iadd (zdk tbX7_word_0_ok 29 rfl) ?_
        obtain ⟨b8, h⟩ := chk_some h
        refine V_lald (zdk tbX7_word_0_ok 30 rfl) c_r6 b8 ?_
        refine V_l2i (zdk tbX7_word_0_ok 31 rfl) rfl ?_
        refine V_aload_n 0 (zdk tbX7_word_0_ok 32 rfl) rfl ?_
        obtain ⟨r9, q10, h⟩ := bd1_some h
        obtain ⟨q10, c_r9⟩ := zRc_some q10
        refine V_getR (zdk tbX7_word_0_ok 33 rfl) c_v0 fF7_66 rfl q10 ?_
        refine V_iload 5 (zdk tbX7_word_0_ok 34 rfl) rfl ?_
        obtain ⟨b11, h⟩ := chk_some h
        refine V_iald (zdk tbX7_word_0_ok 35 rfl) c_r9 b11 ?_
        refine V_icmp_ne (tgt := 75) (zdk tbX7_word_0_ok 36 rfl) (by decide) (fun c12 => ?_) (fun c12 => ?_)
        · replace h := ite_f h c12
          exact tX7_word_b75 hg9 v0 v1 v2 v3 v4 v5 μ c_v0 h
        · replace h := ite_t h c12
          refine V_inc (dx := 1) (ls' := [(0, .ref v0), (1, .int v1), (2, .int v2), (3, .int v3), (4, .int (v4 + (1 : Int32))), (5, .int v5)]) 4 [1, 2, 3, 4, 0, 5] (zdk tbX7_word_0_ok 37 rfl) rfl (Nat.le_of_ble_eq_true rfl) rfl rfl ?_
          refine V_inc (dx := 1) (ls' := [(0, .ref v0), (1, .int v1), (2, .int v2), (3, .int v3), (4, .int (v4 + (1 : Int32))), (5, .int (v5 + (1 : Int32)))]) 5 [1, 2, 3, 4, 5, 0] (zdk tbX7_word_0_ok 38 rfl) rfl (Nat.le_of_ble_eq_true rfl) rfl rfl ?_
          refine V_goto (tgt := 24) (zdk tbX7_word_0_ok 39 rfl) (by decide) ?_
          exact ih v0 v1 v2 v3 (v4 + (1 : Int32)) (v5 + (1 : Int32)) μ c_v0 h
def fX7_word_b9 (n : Nat) : Nat → Nat → Int32 → Int32 → Int32 → ZMem → Option (ZMem × Int32)
  | 0, _, _, _, _, _ => none
  | k + 1, v0, v1, v2, v3, μ => (if (7 : Int32) ≤ v3 then lt (zpI μ v0 29 v2) (fun μ2 => some (μ2, (-1 : Int32))) else (fX7_word_b24 (fX7_word_b9 n k) n FU v0 v1 v2 v3 (zI μ v0 26) v1 μ))
theorem tX7_word_b9 {l : Launch} {fr : Bool} {n : Nat} {z : ZMem × Int32} : ∀ (k : Nat) (v0 : Nat) (v1 : Int32) (v2 : Int32) (v3 : Int32) (μ : ZMem) (c_v0 : isC n 7 v0 = true), fX7_word_b9 n k v0 v1 v2 v3 μ = some z → V (zkI l mX7_word (rmd 1) fr n z) fr 9 [(0, .ref v0), (1, .int v1), (2, .int v2), (3, .int v3)] [] n μ := by
  intro k
  induction k with
  | zero =>
    intro v0 v1 v2 v3 μ c_v0 h
    unfold fX7_word_b9 at h
    cases h
  | succ k ih =>
    intro v0 v1 v2 v3 μ c_v0 h
    unfold fX7_word_b9 at h
    refine V_iload_n 3 (zdk tbX7_word_0_ok 7 rfl) rfl ?_
    refine V_bipush (v := 7) (zdk tbX7_word_0_ok 8 rfl) rfl ?_
    refine V_icmp_ge (tgt := 130) (zdk tbX7_word_0_ok 9 rfl) (by decide) (fun c1 => ?_) (fun c1 => ?_)
    · replace h := ite_t h c1
      refine V_aload_n 0 (zdk tbX7_word_1_ok 17 rfl) rfl ?_
      refine V_iload_n 2 (zdk tbX7_word_1_ok 18 rfl) rfl ?_
      obtain ⟨μ2, e3, h⟩ := lt_some h
      refine V_putI (zdk tbX7_word_1_ok 19 rfl) c_v0 fF7_136 rfl rfl rfl e3 ?_
      refine V_iconst (v := (-1)) (zdk tbX7_word_1_ok 20 rfl) rfl ?_
      cases h
      exact V_iret (zdk tbX7_word_1_ok 21 rfl) rfl rfl
    · replace h := ite_f h c1
      refine V_aload_n 0 (zdk tbX7_word_0_ok 10 rfl) rfl ?_
      refine V_getI (zdk tbX7_word_0_ok 11 rfl) c_v0 fF7_139 rfl ?_
      refine V_istore (ls' := [(0, .ref v0), (1, .int v1), (2, .int v2), (3, .int v3), (4, .int (zI μ v0 26))]) [1, 2, 3, 4, 0] (zdk tbX7_word_0_ok 12 rfl) (Nat.le_of_ble_eq_true rfl) rfl ?_
      refine V_iload_n 1 (zdk tbX7_word_0_ok 13 rfl) rfl ?_
      refine V_istore (ls' := [(0, .ref v0), (1, .int v1), (2, .int v2), (3, .int v3), (4, .int (zI μ v0 26)), (5, .int v1)]) [1, 2, 3, 4, 5, 0] (zdk tbX7_word_0_ok 14 rfl) (Nat.le_of_ble_eq_true rfl) rfl ?_
      exact tX7_word_b24 (fun v0 v1 v2 v3 μ y0 h => ih v0 v1 v2 v3 μ y0 h) FU v0 v1 v2 v3 (zI μ v0 26) v1 μ c_v0 h
def fX7_word (n : Nat) (v0 : Nat) (μ : ZMem) : Option (ZMem × Int32) := chk (isC n 7 v0) ((fX7_word_b9 n FU v0 (0 : Int32) (zI μ v0 26) (0 : Int32) μ))
theorem tX7_word {l : Launch} {fr : Bool} {n : Nat} {v0 : Nat} {μ : ZMem} {z : ZMem × Int32} (h : fX7_word n v0 μ = some z) : ZFn l mX7_word (rmd 1) [.ref v0] fr n μ (fr, n, z.1, some (.int z.2)) := by
  unfold fX7_word at h
  obtain ⟨c_v0, h⟩ := chk_some h
  refine ZFn.of (ls := [(0, .ref v0)]) (by decide) (fun ξ => Nat.le_of_ble_eq_true rfl) (fun ξ => rfl) ?_
  refine V_iconst (v := 0) (zdk tbX7_word_0_ok 0 rfl) rfl ?_
  refine V_istore_n (ls' := [(0, .ref v0), (1, .int (0 : Int32))]) [1, 0] (zdk tbX7_word_0_ok 1 rfl) (Nat.le_of_ble_eq_true rfl) rfl ?_
  refine V_aload_n 0 (zdk tbX7_word_0_ok 2 rfl) rfl ?_
  refine V_getI (zdk tbX7_word_0_ok 3 rfl) c_v0 fF7_139 rfl ?_
  refine V_istore_n (ls' := [(0, .ref v0), (1, .int (0 : Int32)), (2, .int (zI μ v0 26))]) [1, 2, 0] (zdk tbX7_word_0_ok 4 rfl) (Nat.le_of_ble_eq_true rfl) rfl ?_
  refine V_iconst (v := 0) (zdk tbX7_word_0_ok 5 rfl) rfl ?_
  refine V_istore_n (ls' := [(0, .ref v0), (1, .int (0 : Int32)), (2, .int (zI μ v0 26)), (3, .int (0 : Int32))]) [1, 2, 3, 0] (zdk tbX7_word_0_ok 6 rfl) (Nat.le_of_ble_eq_true rfl) rfl ?_
  exact tX7_word_b9 FU v0 (0 : Int32) (zI μ v0 26) (0 : Int32) μ c_v0 h

-- WhoComplainsCarriesModel.isDigit
def tbX7_isDigit_0 : List (Nat × Instr × Nat) := [(0, .aload_n 0, 1), (1, .getfield 139, 3), (4, .aload_n 0, 1), (5, .getfield 142, 3), (8, .if_icmp .ge 47, 3), (11, .aload_n 0, 1), (12, .getfield 59, 3), (15, .aload_n 0, 1), (16, .getfield 145, 3), (19, .aload_n 0, 1), (20, .getfield 139, 3), (23, .iadd, 1), (24, .laload, 1), (25, .l2i, 1), (26, .bipush 48, 2), (28, .if_icmp .lt 27, 3), (31, .aload_n 0, 1), (32, .getfield 59, 3), (35, .aload_n 0, 1), (36, .getfield 145, 3), (39, .aload_n 0, 1), (40, .getfield 139, 3), (43, .iadd, 1), (44, .laload, 1), (45, .l2i, 1), (46, .bipush 57, 2), (48, .if_icmp .gt 7, 3), (51, .iconst 1, 1), (52, .goto 4, 3), (55, .iconst 0, 1), (56, .ireturn, 1)]
theorem tbX7_isDigit_0_ok : ∀ q ∈ tbX7_isDigit_0, decode cX7_isDigit q.1 = .ok (q.2.1, q.2.2) := by decide +kernel
def fX7_isDigit_b56 (n : Nat) (s0 : Int32) (μ : ZMem) : Option (ZMem × Int32) := chk (b01 s0) (some (μ, s0))
theorem tX7_isDigit_b56 {l : Launch} {fr : Bool} {n : Nat} {z : ZMem × Int32} (s0 : Int32) (μ : ZMem) (h : fX7_isDigit_b56 n s0 μ = some z) : V (zkI l mX7_isDigit (rmd 1) fr n z) fr 56 [] [.int s0] n μ := by
  unfold fX7_isDigit_b56 at h
  obtain ⟨b1, h⟩ := chk_some h
  cases h
  exact V_zret (zdk tbX7_isDigit_0_ok 30 rfl) rfl (b01_n b1) rfl
def fX7_isDigit_b55 (n : Nat) (μ : ZMem) : Option (ZMem × Int32) := (fX7_isDigit_b56 n (0 : Int32) μ)
theorem tX7_isDigit_b55 {l : Launch} {fr : Bool} {n : Nat} {z : ZMem × Int32} (μ : ZMem) (h : fX7_isDigit_b55 n μ = some z) : V (zkI l mX7_isDigit (rmd 1) fr n z) fr 55 [] [] n μ := by
  unfold fX7_isDigit_b55 at h
  refine V_iconst (v := 0) (zdk tbX7_isDigit_0_ok 29 rfl) rfl ?_
  exact tX7_isDigit_b56 (0 : Int32) μ  h
def fX7_isDigit (n : Nat) (v0 : Nat) (μ : ZMem) : Option (ZMem × Int32) := chk (isC n 7 v0) ((if (zI μ v0 27) ≤ (zI μ v0 26) then (fX7_isDigit_b55 n  μ) else bd1 (zRc n 101 μ v0 19) (fun r2 => chk (inb ((zI μ v0 25) + (zI μ v0 26)) r2) ((if ((zL μ r2 ((zI μ v0 25) + (zI μ v0 26)).toNatClampNeg).toInt32) < (48 : Int32) then (fX7_isDigit_b55 n  μ) else bd1 (zRc n 101 μ v0 19) (fun r6 => chk (inb ((zI μ v0 25) + (zI μ v0 26)) r6) ((if (57 : Int32) < ((zL μ r6 ((zI μ v0 25) + (zI μ v0 26)).toNatClampNeg).toInt32) then (fX7_isDigit_b55 n  μ) else (fX7_isDigit_b56 n (1 : Int32) μ)))))))))
theorem tX7_isDigit {l : Launch} {fr : Bool} {n : Nat} {v0 : Nat} {μ : ZMem} {z : ZMem × Int32} (h : fX7_isDigit n v0 μ = some z) : ZFn l mX7_isDigit (rmd 1) [.ref v0] fr n μ (fr, n, z.1, some (.int z.2)) := by
  unfold fX7_isDigit at h
  obtain ⟨c_v0, h⟩ := chk_some h
  refine ZFn.of (ls := [(0, .ref v0)]) (by decide) (fun ξ => Nat.le_of_ble_eq_true rfl) (fun ξ => rfl) ?_
  refine V_aload_n 0 (zdk tbX7_isDigit_0_ok 0 rfl) rfl ?_
  refine V_getI (zdk tbX7_isDigit_0_ok 1 rfl) c_v0 fF7_139 rfl ?_
  refine V_aload_n 0 (zdk tbX7_isDigit_0_ok 2 rfl) rfl ?_
  refine V_getI (zdk tbX7_isDigit_0_ok 3 rfl) c_v0 fF7_142 rfl ?_
  refine V_icmp_ge (tgt := 55) (zdk tbX7_isDigit_0_ok 4 rfl) (by decide) (fun c1 => ?_) (fun c1 => ?_)
  · replace h := ite_t h c1
    refine V_sub (ls' := []) [] rfl ?_
    exact tX7_isDigit_b55  μ  h
  · replace h := ite_f h c1
    refine V_aload_n 0 (zdk tbX7_isDigit_0_ok 5 rfl) rfl ?_
    obtain ⟨r2, q3, h⟩ := bd1_some h
    obtain ⟨q3, c_r2⟩ := zRc_some q3
    refine V_getR (zdk tbX7_isDigit_0_ok 6 rfl) c_v0 fF7_59 rfl q3 ?_
    refine V_aload_n 0 (zdk tbX7_isDigit_0_ok 7 rfl) rfl ?_
    refine V_getI (zdk tbX7_isDigit_0_ok 8 rfl) c_v0 fF7_145 rfl ?_
    refine V_aload_n 0 (zdk tbX7_isDigit_0_ok 9 rfl) rfl ?_
    refine V_getI (zdk tbX7_isDigit_0_ok 10 rfl) c_v0 fF7_139 rfl ?_
    refine V_iadd (zdk tbX7_isDigit_0_ok 11 rfl) ?_
    obtain ⟨b4, h⟩ := chk_some h
    refine V_lald (zdk tbX7_isDigit_0_ok 12 rfl) c_r2 b4 ?_
    refine V_l2i (zdk tbX7_isDigit_0_ok 13 rfl) rfl ?_
    refine V_bipush (v := 48) (zdk tbX7_isDigit_0_ok 14 rfl) rfl ?_
    refine V_icmp_lt (tgt := 55) (zdk tbX7_isDigit_0_ok 15 rfl) (by decide) (fun c5 => ?_) (fun c5 => ?_)
    · replace h := ite_t h c5
      refine V_sub (ls' := []) [] rfl ?_
      exact tX7_isDigit_b55  μ  h
    · replace h := ite_f h c5
      refine V_aload_n 0 (zdk tbX7_isDigit_0_ok 16 rfl) rfl ?_
      obtain ⟨r6, q7, h⟩ := bd1_some h
      obtain ⟨q7, c_r6⟩ := zRc_some q7
      refine V_getR (zdk tbX7_isDigit_0_ok 17 rfl) c_v0 fF7_59 rfl q7 ?_
      refine V_aload_n 0 (zdk tbX7_isDigit_0_ok 18 rfl) rfl ?_
      refine V_getI (zdk tbX7_isDigit_0_ok 19 rfl) c_v0 fF7_145 rfl ?_
      refine V_aload_n 0 (zdk tbX7_isDigit_0_ok 20 rfl) rfl ?_
      refine V_getI (zdk tbX7_isDigit_0_ok 21 rfl) c_v0 fF7_139 rfl ?_
      refine V_iadd (zdk tbX7_isDigit_0_ok 22 rfl) ?_
      obtain ⟨b8, h⟩ := chk_some h
      refine V_lald (zdk tbX7_isDigit_0_ok 23 rfl) c_r6 b8 ?_
      refine V_l2i (zdk tbX7_isDigit_0_ok 24 rfl) rfl ?_
      refine V_bipush (v := 57) (zdk tbX7_isDigit_0_ok 25 rfl) rfl ?_
      refine V_icmp_gt (tgt := 55) (zdk tbX7_isDigit_0_ok 26 rfl) (by decide) (fun c9 => ?_) (fun c9 => ?_)
      · replace h := ite_t h c9
        refine V_sub (ls' := []) [] rfl ?_
        exact tX7_isDigit_b55  μ  h
      · replace h := ite_f h c9
        refine V_iconst (v := 1) (zdk tbX7_isDigit_0_ok 27 rfl) rfl ?_
        refine V_goto (tgt := 56) (zdk tbX7_isDigit_0_ok 28 rfl) (by decide) ?_
        refine V_sub (ls' := []) [] rfl ?_
        exact tX7_isDigit_b56 (1 : Int32) μ  h

-- WhoComplainsCarriesModel.reads
def tbX7_reads_0 : List (Nat × Instr × Nat) := [(0, .aload_n 0, 1), (1, .iconst 0, 1), (2, .putfield 148, 3), (5, .aload_n 0, 1), (6, .invokevirtual 151, 3), (9, .ifCond .ne 12, 3), (12, .aload_n 0, 1), (13, .aload_n 0, 1), (14, .getfield 139, 3), (17, .invokevirtual 155, 3), (20, .ireturn, 1), (21, .iconst 0, 1), (22, .istore_n 1, 1), (23, .iload_n 1, 1), (24, .iconst 2, 1), (25, .if_icmp .ge 56, 3), (28, .aload_n 0, 1), (29, .invokevirtual 151, 3), (32, .ifCond .eq 49, 3), (35, .aload_n 0, 1), (36, .bipush 10, 2), (38, .aload_n 0, 1), (39, .getfield 148, 3), (42, .imul, 1), (43, .aload_n 0, 1), (44, .getfield 59, 3), (47, .aload_n 0, 1), (48, .getfield 145, 3), (51, .aload_n 0, 1), (52, .getfield 139, 3), (55, .iadd, 1), (56, .laload, 1), (57, .l2i, 1), (58, .iadd, 1), (59, .bipush 48, 2), (61, .isub, 1), (62, .putfield 148, 3), (65, .aload_n 0, 1), (66, .dup, 1), (67, .getfield 139, 3), (70, .iconst 1, 1), (71, .iadd, 1), (72, .putfield 139, 3), (75, .iinc 1 1, 3), (78, .goto (-55), 3), (81, .iconst 1, 1), (82, .ireturn, 1)]
theorem tbX7_reads_0_ok : ∀ q ∈ tbX7_reads_0, decode cX7_reads q.1 = .ok (q.2.1, q.2.2) := by decide +kernel
theorem wCX7_isDigit : zCW mX7_isDigit 0 := ⟨zin (i := 8) (by decide +kernel) rfl, zin (i := 1067) (by decide +kernel) rfl, by decide +kernel, by decide +kernel, by decide +kernel⟩
theorem sC7_151 : zCV RX7 151 mX7_isDigit 0 := ⟨zin (i := 1064) (by decide +kernel) rfl, zin (i := 1066) (by decide +kernel) rfl, zinP (i := 46) (q := (yX7_isDigit, 42)) (by decide +kernel) rfl, wCX7_isDigit⟩
theorem fF7_148 : zF RX7 148 7 28 := ⟨_, rfl, by decide, zin (i := 845) (by decide +kernel) rfl⟩
theorem wCX7_wrong : zCW mX7_wrong 1 := ⟨zin (i := 8) (by decide +kernel) rfl, zin (i := 1055) (by decide +kernel) rfl, by decide +kernel, by decide +kernel, by decide +kernel⟩
theorem sC7_155 : zCV RX7 155 mX7_wrong 1 := ⟨zin (i := 1052) (by decide +kernel) rfl, zin (i := 1054) (by decide +kernel) rfl, zinP (i := 43) (q := (yX7_wrong, 42)) (by decide +kernel) rfl, wCX7_wrong⟩
def fX7_reads_b81 (n : Nat) (μ : ZMem) : Option (ZMem × Int32) := some (μ, (1 : Int32))
theorem tX7_reads_b81 {l : Launch} {fr : Bool} {n : Nat} {z : ZMem × Int32} (μ : ZMem) (h : fX7_reads_b81 n μ = some z) : V (zkI l mX7_reads (rmd 2) fr n z) fr 81 [] [] n μ := by
  unfold fX7_reads_b81 at h
  refine V_iconst (v := 1) (zdk tbX7_reads_0_ok 45 rfl) rfl ?_
  cases h
  exact V_zret (zdk tbX7_reads_0_ok 46 rfl) rfl (by decide) rfl
def fX7_reads_b23 (n : Nat) : Nat → Nat → Int32 → ZMem → Option (ZMem × Int32)
  | 0, _, _, _ => none
  | k + 1, v0, v1, μ => (if (2 : Int32) ≤ v1 then (fX7_reads_b81 n  μ) else bd2 (fX7_isDigit n v0 μ) (fun μ3 r4 => (if r4 = 0 then (fX7_reads_b81 n  μ3) else bd1 (zRc n 101 μ3 v0 19) (fun r6 => chk (inb ((zI μ3 v0 25) + (zI μ3 v0 26)) r6) (lt (zpI μ3 v0 28 ((((10 : Int32) * (zI μ3 v0 28)) + ((zL μ3 r6 ((zI μ3 v0 25) + (zI μ3 v0 26)).toNatClampNeg).toInt32)) - (48 : Int32))) (fun μ9 => lt (zpI μ9 v0 26 ((zI μ9 v0 26) + (1 : Int32))) (fun μ11 => (fX7_reads_b23 n k v0 (v1 + (1 : Int32)) μ11))))))))
theorem tX7_reads_b23 {l : Launch} {fr : Bool} {n : Nat} {z : ZMem × Int32} : ∀ (k : Nat) (v0 : Nat) (v1 : Int32) (μ : ZMem) (c_v0 : isC n 7 v0 = true), fX7_reads_b23 n k v0 v1 μ = some z → V (zkI l mX7_reads (rmd 2) fr n z) fr 23 [(0, .ref v0), (1, .int v1)] [] n μ := by
  intro k
  induction k with
  | zero =>
    intro v0 v1 μ c_v0 h
    unfold fX7_reads_b23 at h
    cases h
  | succ k ih =>
    intro v0 v1 μ c_v0 h
    unfold fX7_reads_b23 at h
    refine V_iload_n 1 (zdk tbX7_reads_0_ok 13 rfl) rfl ?_
    refine V_iconst (v := 2) (zdk tbX7_reads_0_ok 14 rfl) rfl ?_
    refine V_icmp_ge (tgt := 81) (zdk tbX7_reads_0_ok 15 rfl) (by decide) (fun c1 => ?_) (fun c1 => ?_)
    · replace h := ite_t h c1
      refine V_sub (ls' := []) [] rfl ?_
      exact tX7_reads_b81  μ  h
    · replace h := ite_f h c1
      refine V_aload_n 0 (zdk tbX7_reads_0_ok 16 rfl) rfl ?_
      obtain ⟨μ3, r4, q2, h⟩ := bd2_some h
      refine V_callV (R1 := (rmd 1)) (As := []) (r := (some (.int r4))) (zdk tbX7_reads_0_ok 17 rfl) sC7_151 (tX7_isDigit q2) (c_v0) rfl rfl rfl ⟨Nat.le_of_ble_eq_true rfl, Nat.le_of_ble_eq_true rfl⟩ (Nat.le_of_ble_eq_true rfl) ⟨rfl, rfl⟩ id ?_
      refine V_if_eq (tgt := 81) (zdk tbX7_reads_0_ok 18 rfl) (by decide) (fun c5 => ?_) (fun c5 => ?_)
      · replace h := ite_t h c5
        refine V_sub (ls' := []) [] rfl ?_
        exact tX7_reads_b81  μ3  h
      · replace h := ite_f h c5
        refine V_aload_n 0 (zdk tbX7_reads_0_ok 19 rfl) rfl ?_
        refine V_bipush (v := 10) (zdk tbX7_reads_0_ok 20 rfl) rfl ?_
        refine V_aload_n 0 (zdk tbX7_reads_0_ok 21 rfl) rfl ?_
        refine V_getI (zdk tbX7_reads_0_ok 22 rfl) c_v0 fF7_148 rfl ?_
        refine V_imul (zdk tbX7_reads_0_ok 23 rfl) ?_
        refine V_aload_n 0 (zdk tbX7_reads_0_ok 24 rfl) rfl ?_
        obtain ⟨r6, q7, h⟩ := bd1_some h
        obtain ⟨q7, c_r6⟩ := zRc_some q7
        refine V_getR (zdk tbX7_reads_0_ok 25 rfl) c_v0 fF7_59 rfl q7 ?_
        refine V_aload_n 0 (zdk tbX7_reads_0_ok 26 rfl) rfl ?_
        refine V_getI (zdk tbX7_reads_0_ok 27 rfl) c_v0 fF7_145 rfl ?_
        refine V_aload_n 0 (zdk tbX7_reads_0_ok 28 rfl) rfl ?_
        refine V_getI (zdk tbX7_reads_0_ok 29 rfl) c_v0 fF7_139 rfl ?_
        refine V_iadd (zdk tbX7_reads_0_ok 30 rfl) ?_
        obtain ⟨b8, h⟩ := chk_some h
        refine V_lald (zdk tbX7_reads_0_ok 31 rfl) c_r6 b8 ?_
        refine V_l2i (zdk tbX7_reads_0_ok 32 rfl) rfl ?_
        refine V_iadd (zdk tbX7_reads_0_ok 33 rfl) ?_
        refine V_bipush (v := 48) (zdk tbX7_reads_0_ok 34 rfl) rfl ?_
        refine V_isub (zdk tbX7_reads_0_ok 35 rfl) ?_
        obtain ⟨μ9, e10, h⟩ := lt_some h
        refine V_putI (zdk tbX7_reads_0_ok 36 rfl) c_v0 fF7_148 rfl rfl rfl e10 ?_
        refine V_aload_n 0 (zdk tbX7_reads_0_ok 37 rfl) rfl ?_
        refine V_dup_r (zdk tbX7_reads_0_ok 38 rfl) ?_
        refine V_getI (zdk tbX7_reads_0_ok 39 rfl) c_v0 fF7_139 rfl ?_
        refine V_iconst (v := 1) (zdk tbX7_reads_0_ok 40 rfl) rfl ?_
        refine V_iadd (zdk tbX7_reads_0_ok 41 rfl) ?_
        obtain ⟨μ11, e12, h⟩ := lt_some h
        refine V_putI (zdk tbX7_reads_0_ok 42 rfl) c_v0 fF7_139 rfl rfl rfl e12 ?_
        refine V_inc (dx := 1) (ls' := [(0, .ref v0), (1, .int (v1 + (1 : Int32)))]) 1 [1, 0] (zdk tbX7_reads_0_ok 43 rfl) rfl (Nat.le_of_ble_eq_true rfl) rfl rfl ?_
        refine V_goto (tgt := 23) (zdk tbX7_reads_0_ok 44 rfl) (by decide) ?_
        exact ih v0 (v1 + (1 : Int32)) μ11 c_v0 h
def fX7_reads (n : Nat) (v0 : Nat) (μ : ZMem) : Option (ZMem × Int32) := chk (isC n 7 v0) (lt (zpI μ v0 28 (0 : Int32)) (fun μ1 => bd2 (fX7_isDigit n v0 μ1) (fun μ4 r5 => (if r5 = 0 then bd2 (fX7_wrong n v0 (zI μ4 v0 26) μ4) (fun μ8 r9 => chk (b01 r9) (some (μ8, r9))) else (fX7_reads_b23 n FU v0 (0 : Int32) μ4)))))
theorem tX7_reads {l : Launch} {fr : Bool} {n : Nat} {v0 : Nat} {μ : ZMem} {z : ZMem × Int32} (h : fX7_reads n v0 μ = some z) : ZFn l mX7_reads (rmd 2) [.ref v0] fr n μ (fr, n, z.1, some (.int z.2)) := by
  unfold fX7_reads at h
  obtain ⟨c_v0, h⟩ := chk_some h
  refine ZFn.of (ls := [(0, .ref v0)]) (by decide) (fun ξ => Nat.le_of_ble_eq_true rfl) (fun ξ => rfl) ?_
  refine V_aload_n 0 (zdk tbX7_reads_0_ok 0 rfl) rfl ?_
  refine V_iconst (v := 0) (zdk tbX7_reads_0_ok 1 rfl) rfl ?_
  obtain ⟨μ1, e2, h⟩ := lt_some h
  refine V_putI (zdk tbX7_reads_0_ok 2 rfl) c_v0 fF7_148 rfl rfl rfl e2 ?_
  refine V_aload_n 0 (zdk tbX7_reads_0_ok 3 rfl) rfl ?_
  obtain ⟨μ4, r5, q3, h⟩ := bd2_some h
  refine V_callV (R1 := (rmd 1)) (As := []) (r := (some (.int r5))) (zdk tbX7_reads_0_ok 4 rfl) sC7_151 (tX7_isDigit q3) (c_v0) rfl rfl rfl ⟨Nat.le_of_ble_eq_true rfl, Nat.le_of_ble_eq_true rfl⟩ (Nat.le_of_ble_eq_true rfl) ⟨rfl, rfl⟩ id ?_
  refine V_if_ne (tgt := 21) (zdk tbX7_reads_0_ok 5 rfl) (by decide) (fun c6 => ?_) (fun c6 => ?_)
  · replace h := ite_f h c6
    refine V_iconst (v := 0) (zdk tbX7_reads_0_ok 11 rfl) rfl ?_
    refine V_istore_n (ls' := [(0, .ref v0), (1, .int (0 : Int32))]) [1, 0] (zdk tbX7_reads_0_ok 12 rfl) (Nat.le_of_ble_eq_true rfl) rfl ?_
    exact tX7_reads_b23 FU v0 (0 : Int32) μ4 c_v0 h
  · replace h := ite_t h c6
    refine V_aload_n 0 (zdk tbX7_reads_0_ok 6 rfl) rfl ?_
    refine V_aload_n 0 (zdk tbX7_reads_0_ok 7 rfl) rfl ?_
    refine V_getI (zdk tbX7_reads_0_ok 8 rfl) c_v0 fF7_139 rfl ?_
    obtain ⟨μ8, r9, q7, h⟩ := bd2_some h
    refine V_callV (R1 := (rmd 1)) (As := [.int (zI μ4 v0 26)]) (r := (some (.int r9))) (zdk tbX7_reads_0_ok 9 rfl) sC7_155 (tX7_wrong q7) (c_v0) rfl rfl rfl ⟨Nat.le_of_ble_eq_true rfl, Nat.le_of_ble_eq_true rfl⟩ (Nat.le_of_ble_eq_true rfl) ⟨rfl, rfl⟩ id ?_
    obtain ⟨b10, h⟩ := chk_some h
    cases h
    exact V_zret (zdk tbX7_reads_0_ok 10 rfl) rfl (b01_n b10) rfl

-- WhoComplainsCarriesModel.isSo
def tbX7_isSo_0 : List (Nat × Instr × Nat) := [(0, .iload_n 1, 1), (1, .tableswitch 104 0 3 #[31, 56, 70, 87], 31), (32, .aload_n 0, 1), (33, .aload_n 0, 1), (34, .getfield 148, 3), (37, .iload_n 2, 1), (38, .iconst 2, 1), (39, .if_icmp .ne 7, 3), (42, .iconst 1, 1), (43, .goto 4, 3), (46, .iconst 0, 1), (47, .aload_n 0, 1), (48, .getfield 72, 3), (51, .iload_n 2, 1), (52, .iaload, 1), (53, .invokevirtual 122, 3), (56, .ireturn, 1), (57, .aload_n 0, 1), (58, .getfield 148, 3), (61, .iconst 1, 1), (62, .if_icmp .lt 7, 3), (65, .iconst 1, 1), (66, .goto 4, 3), (69, .iconst 0, 1), (70, .ireturn, 1), (71, .aload_n 0, 1), (72, .getfield 148, 3), (75, .aload_n 0, 1), (76, .getfield 130, 3), (79, .if_icmp .lt 7, 3), (82, .iconst 1, 1), (83, .goto 4, 3), (86, .iconst 0, 1), (87, .ireturn, 1), (88, .aload_n 0, 1), (89, .getfield 148, 3), (92, .aload_n 0, 1), (93, .getfield 99, 3), (96, .if_icmp .ge 7, 3), (99, .iconst 1, 1), (100, .goto 4, 3), (103, .iconst 0, 1), (104, .ireturn, 1), (105, .aload_n 0, 1), (106, .getfield 148, 3), (109, .iconst 4, 1), (110, .if_icmp .gt 7, 3), (113, .iconst 1, 1), (114, .goto 4, 3), (117, .iconst 0, 1)]
theorem tbX7_isSo_0_ok : ∀ q ∈ tbX7_isSo_0, decode cX7_isSo q.1 = .ok (q.2.1, q.2.2) := by decide +kernel
def tbX7_isSo_1 : List (Nat × Instr × Nat) := [(118, .ireturn, 1)]
theorem tbX7_isSo_1_ok : ∀ q ∈ tbX7_isSo_1, decode cX7_isSo q.1 = .ok (q.2.1, q.2.2) := by decide +kernel
def fX7_isSo_b47 (n : Nat) (v0 : Nat) (v2 : Int32) (s0 : Nat) (s1 : Int32) (s2 : Int32) (μ : ZMem) : Option (ZMem × Int32) := bd1 (zRc n 100 μ v0 23) (fun r1 => chk (inb v2 r1) (bd2 (fX7_isFrom n s0 s1 s2 (zI μ r1 v2.toNatClampNeg) μ) (fun μ5 r6 => chk (b01 r6) (some (μ5, r6)))))
theorem tX7_isSo_b47 {l : Launch} {fr : Bool} {n : Nat} {z : ZMem × Int32} (v0 : Nat) (v2 : Int32) (s0 : Nat) (s1 : Int32) (s2 : Int32) (μ : ZMem) (c_v0 : isC n 7 v0 = true) (c_s0 : isC n 7 s0 = true) (h : fX7_isSo_b47 n v0 v2 s0 s1 s2 μ = some z) : V (zkI l mX7_isSo (rmd 2) fr n z) fr 47 [(0, .ref v0), (2, .int v2)] [.int s2, .int s1, .ref s0] n μ := by
  unfold fX7_isSo_b47 at h
  refine V_aload_n 0 (zdk tbX7_isSo_0_ok 11 rfl) rfl ?_
  obtain ⟨r1, q2, h⟩ := bd1_some h
  obtain ⟨q2, c_r1⟩ := zRc_some q2
  refine V_getR (zdk tbX7_isSo_0_ok 12 rfl) c_v0 fF7_72 rfl q2 ?_
  refine V_iload_n 1 (zdk tbX7_isSo_0_ok 13 rfl) rfl ?_
  obtain ⟨b3, h⟩ := chk_some h
  refine V_iald (zdk tbX7_isSo_0_ok 14 rfl) c_r1 b3 ?_
  obtain ⟨μ5, r6, q4, h⟩ := bd2_some h
  refine V_callV (R1 := (rmd 1)) (As := [.int s1, .int s2, .int (zI μ r1 v2.toNatClampNeg)]) (r := (some (.int r6))) (zdk tbX7_isSo_0_ok 15 rfl) sC7_122 (tX7_isFrom q4) (c_s0) rfl rfl rfl ⟨Nat.le_of_ble_eq_true rfl, Nat.le_of_ble_eq_true rfl⟩ (Nat.le_of_ble_eq_true rfl) ⟨rfl, rfl⟩ id ?_
  obtain ⟨b7, h⟩ := chk_some h
  cases h
  exact V_zret (zdk tbX7_isSo_0_ok 16 rfl) rfl (b01_n b7) rfl
def fX7_isSo_b70 (n : Nat) (s0 : Int32) (μ : ZMem) : Option (ZMem × Int32) := chk (b01 s0) (some (μ, s0))
theorem tX7_isSo_b70 {l : Launch} {fr : Bool} {n : Nat} {z : ZMem × Int32} (s0 : Int32) (μ : ZMem) (h : fX7_isSo_b70 n s0 μ = some z) : V (zkI l mX7_isSo (rmd 2) fr n z) fr 70 [] [.int s0] n μ := by
  unfold fX7_isSo_b70 at h
  obtain ⟨b1, h⟩ := chk_some h
  cases h
  exact V_zret (zdk tbX7_isSo_0_ok 24 rfl) rfl (b01_n b1) rfl
def fX7_isSo_b87 (n : Nat) (s0 : Int32) (μ : ZMem) : Option (ZMem × Int32) := chk (b01 s0) (some (μ, s0))
theorem tX7_isSo_b87 {l : Launch} {fr : Bool} {n : Nat} {z : ZMem × Int32} (s0 : Int32) (μ : ZMem) (h : fX7_isSo_b87 n s0 μ = some z) : V (zkI l mX7_isSo (rmd 2) fr n z) fr 87 [] [.int s0] n μ := by
  unfold fX7_isSo_b87 at h
  obtain ⟨b1, h⟩ := chk_some h
  cases h
  exact V_zret (zdk tbX7_isSo_0_ok 33 rfl) rfl (b01_n b1) rfl
def fX7_isSo_b104 (n : Nat) (s0 : Int32) (μ : ZMem) : Option (ZMem × Int32) := chk (b01 s0) (some (μ, s0))
theorem tX7_isSo_b104 {l : Launch} {fr : Bool} {n : Nat} {z : ZMem × Int32} (s0 : Int32) (μ : ZMem) (h : fX7_isSo_b104 n s0 μ = some z) : V (zkI l mX7_isSo (rmd 2) fr n z) fr 104 [] [.int s0] n μ := by
  unfold fX7_isSo_b104 at h
  obtain ⟨b1, h⟩ := chk_some h
  cases h
  exact V_zret (zdk tbX7_isSo_0_ok 42 rfl) rfl (b01_n b1) rfl
def fX7_isSo_b118 (n : Nat) (s0 : Int32) (μ : ZMem) : Option (ZMem × Int32) := chk (b01 s0) (some (μ, s0))
theorem tX7_isSo_b118 {l : Launch} {fr : Bool} {n : Nat} {z : ZMem × Int32} (s0 : Int32) (μ : ZMem) (h : fX7_isSo_b118 n s0 μ = some z) : V (zkI l mX7_isSo (rmd 2) fr n z) fr 118 [] [.int s0] n μ := by
  unfold fX7_isSo_b118 at h
  obtain ⟨b1, h⟩ := chk_some h
  cases h
  exact V_zret (zdk tbX7_isSo_1_ok 0 rfl) rfl (b01_n b1) rfl
def fX7_isSo (n : Nat) (v0 : Nat) (v1 : Int32) (v2 : Int32) (μ : ZMem) : Option (ZMem × Int32) := chk (isC n 7 v0) ((if v1 = (0 : Int32) then (if v2 = (2 : Int32) then (fX7_isSo_b47 n v0 v2 v0 (zI μ v0 28) (1 : Int32) μ) else (fX7_isSo_b47 n v0 v2 v0 (zI μ v0 28) (0 : Int32) μ)) else (if v1 = (1 : Int32) then (if (zI μ v0 28) < (1 : Int32) then (fX7_isSo_b70 n (0 : Int32) μ) else (fX7_isSo_b70 n (1 : Int32) μ)) else (if v1 = (2 : Int32) then (if (zI μ v0 28) < (zI μ v0 3) then (fX7_isSo_b87 n (0 : Int32) μ) else (fX7_isSo_b87 n (1 : Int32) μ)) else (if v1 = (3 : Int32) then (if (zI μ v0 0) ≤ (zI μ v0 28) then (fX7_isSo_b104 n (0 : Int32) μ) else (fX7_isSo_b104 n (1 : Int32) μ)) else (if (4 : Int32) < (zI μ v0 28) then (fX7_isSo_b118 n (0 : Int32) μ) else (fX7_isSo_b118 n (1 : Int32) μ)))))))
theorem tX7_isSo {l : Launch} {fr : Bool} {n : Nat} {v0 : Nat} {v1 : Int32} {v2 : Int32} {μ : ZMem} {z : ZMem × Int32} (h : fX7_isSo n v0 v1 v2 μ = some z) : ZFn l mX7_isSo (rmd 2) [.ref v0, .int v1, .int v2] fr n μ (fr, n, z.1, some (.int z.2)) := by
  unfold fX7_isSo at h
  obtain ⟨c_v0, h⟩ := chk_some h
  refine ZFn.of (ls := [(0, .ref v0), (1, .int v1), (2, .int v2)]) (by decide) (fun ξ => Nat.le_of_ble_eq_true rfl) (fun ξ => rfl) ?_
  refine V_iload_n 1 (zdk tbX7_isSo_0_ok 0 rfl) rfl ?_
  by_cases c1 : v1 = (0 : Int32)
  · replace h := ite_t h c1
    refine V_tsw (off := 31) (tgt := 32) 0 c1 (zdk tbX7_isSo_0_ok 1 rfl) (by decide) rfl (by decide) ?_
    refine V_aload_n 0 (zdk tbX7_isSo_0_ok 2 rfl) rfl ?_
    refine V_aload_n 0 (zdk tbX7_isSo_0_ok 3 rfl) rfl ?_
    refine V_getI (zdk tbX7_isSo_0_ok 4 rfl) c_v0 fF7_148 rfl ?_
    refine V_iload_n 2 (zdk tbX7_isSo_0_ok 5 rfl) rfl ?_
    refine V_iconst (v := 2) (zdk tbX7_isSo_0_ok 6 rfl) rfl ?_
    refine V_icmp_ne (tgt := 46) (zdk tbX7_isSo_0_ok 7 rfl) (by decide) (fun c2 => ?_) (fun c2 => ?_)
    · replace h := ite_f h c2
      refine V_iconst (v := 0) (zdk tbX7_isSo_0_ok 10 rfl) rfl ?_
      refine V_sub (ls' := [(0, .ref v0), (2, .int v2)]) [0, 2] rfl ?_
      exact tX7_isSo_b47 v0 v2 v0 (zI μ v0 28) (0 : Int32) μ c_v0 c_v0 h
    · replace h := ite_t h c2
      refine V_iconst (v := 1) (zdk tbX7_isSo_0_ok 8 rfl) rfl ?_
      refine V_goto (tgt := 47) (zdk tbX7_isSo_0_ok 9 rfl) (by decide) ?_
      refine V_sub (ls' := [(0, .ref v0), (2, .int v2)]) [0, 2] rfl ?_
      exact tX7_isSo_b47 v0 v2 v0 (zI μ v0 28) (1 : Int32) μ c_v0 c_v0 h
  · replace h := ite_f h c1
    by_cases c3 : v1 = (1 : Int32)
    · replace h := ite_t h c3
      refine V_tsw (off := 56) (tgt := 57) 1 c3 (zdk tbX7_isSo_0_ok 1 rfl) (by decide) rfl (by decide) ?_
      refine V_aload_n 0 (zdk tbX7_isSo_0_ok 17 rfl) rfl ?_
      refine V_getI (zdk tbX7_isSo_0_ok 18 rfl) c_v0 fF7_148 rfl ?_
      refine V_iconst (v := 1) (zdk tbX7_isSo_0_ok 19 rfl) rfl ?_
      refine V_icmp_lt (tgt := 69) (zdk tbX7_isSo_0_ok 20 rfl) (by decide) (fun c4 => ?_) (fun c4 => ?_)
      · replace h := ite_t h c4
        refine V_iconst (v := 0) (zdk tbX7_isSo_0_ok 23 rfl) rfl ?_
        refine V_sub (ls' := []) [] rfl ?_
        exact tX7_isSo_b70 (0 : Int32) μ  h
      · replace h := ite_f h c4
        refine V_iconst (v := 1) (zdk tbX7_isSo_0_ok 21 rfl) rfl ?_
        refine V_goto (tgt := 70) (zdk tbX7_isSo_0_ok 22 rfl) (by decide) ?_
        refine V_sub (ls' := []) [] rfl ?_
        exact tX7_isSo_b70 (1 : Int32) μ  h
    · replace h := ite_f h c3
      by_cases c5 : v1 = (2 : Int32)
      · replace h := ite_t h c5
        refine V_tsw (off := 70) (tgt := 71) 2 c5 (zdk tbX7_isSo_0_ok 1 rfl) (by decide) rfl (by decide) ?_
        refine V_aload_n 0 (zdk tbX7_isSo_0_ok 25 rfl) rfl ?_
        refine V_getI (zdk tbX7_isSo_0_ok 26 rfl) c_v0 fF7_148 rfl ?_
        refine V_aload_n 0 (zdk tbX7_isSo_0_ok 27 rfl) rfl ?_
        refine V_getI (zdk tbX7_isSo_0_ok 28 rfl) c_v0 fF7_130 rfl ?_
        refine V_icmp_lt (tgt := 86) (zdk tbX7_isSo_0_ok 29 rfl) (by decide) (fun c6 => ?_) (fun c6 => ?_)
        · replace h := ite_t h c6
          refine V_iconst (v := 0) (zdk tbX7_isSo_0_ok 32 rfl) rfl ?_
          refine V_sub (ls' := []) [] rfl ?_
          exact tX7_isSo_b87 (0 : Int32) μ  h
        · replace h := ite_f h c6
          refine V_iconst (v := 1) (zdk tbX7_isSo_0_ok 30 rfl) rfl ?_
          refine V_goto (tgt := 87) (zdk tbX7_isSo_0_ok 31 rfl) (by decide) ?_
          refine V_sub (ls' := []) [] rfl ?_
          exact tX7_isSo_b87 (1 : Int32) μ  h
      · replace h := ite_f h c5
        by_cases c7 : v1 = (3 : Int32)
        · replace h := ite_t h c7
          refine V_tsw (off := 87) (tgt := 88) 3 c7 (zdk tbX7_isSo_0_ok 1 rfl) (by decide) rfl (by decide) ?_
          refine V_aload_n 0 (zdk tbX7_isSo_0_ok 34 rfl) rfl ?_
          refine V_getI (zdk tbX7_isSo_0_ok 35 rfl) c_v0 fF7_148 rfl ?_
          refine V_aload_n 0 (zdk tbX7_isSo_0_ok 36 rfl) rfl ?_
          refine V_getI (zdk tbX7_isSo_0_ok 37 rfl) c_v0 fF7_99 rfl ?_
          refine V_icmp_ge (tgt := 103) (zdk tbX7_isSo_0_ok 38 rfl) (by decide) (fun c8 => ?_) (fun c8 => ?_)
          · replace h := ite_t h c8
            refine V_iconst (v := 0) (zdk tbX7_isSo_0_ok 41 rfl) rfl ?_
            refine V_sub (ls' := []) [] rfl ?_
            exact tX7_isSo_b104 (0 : Int32) μ  h
          · replace h := ite_f h c8
            refine V_iconst (v := 1) (zdk tbX7_isSo_0_ok 39 rfl) rfl ?_
            refine V_goto (tgt := 104) (zdk tbX7_isSo_0_ok 40 rfl) (by decide) ?_
            refine V_sub (ls' := []) [] rfl ?_
            exact tX7_isSo_b104 (1 : Int32) μ  h
        · replace h := ite_f h c7
          refine V_tsw0 (tgt := 105) [0, 1, 2, 3] (List.forall_mem_cons.mpr ⟨c1, List.forall_mem_cons.mpr ⟨c3, List.forall_mem_cons.mpr ⟨c5, List.forall_mem_cons.mpr ⟨c7, fun _ h => absurd h List.not_mem_nil⟩⟩⟩⟩) (zdk tbX7_isSo_0_ok 1 rfl) (by decide) (by decide) (by decide) ?_
          refine V_aload_n 0 (zdk tbX7_isSo_0_ok 43 rfl) rfl ?_
          refine V_getI (zdk tbX7_isSo_0_ok 44 rfl) c_v0 fF7_148 rfl ?_
          refine V_iconst (v := 4) (zdk tbX7_isSo_0_ok 45 rfl) rfl ?_
          refine V_icmp_gt (tgt := 117) (zdk tbX7_isSo_0_ok 46 rfl) (by decide) (fun c9 => ?_) (fun c9 => ?_)
          · replace h := ite_t h c9
            refine V_iconst (v := 0) (zdk tbX7_isSo_0_ok 49 rfl) rfl ?_
            refine V_sub (ls' := []) [] rfl ?_
            exact tX7_isSo_b118 (0 : Int32) μ  h
          · replace h := ite_f h c9
            refine V_iconst (v := 1) (zdk tbX7_isSo_0_ok 47 rfl) rfl ?_
            refine V_goto (tgt := 118) (zdk tbX7_isSo_0_ok 48 rfl) (by decide) ?_
            refine V_sub (ls' := []) [] rfl ?_
            exact tX7_isSo_b118 (1 : Int32) μ  h

-- WhoComplainsCarriesModel.item
def tbX7_item_0 : List (Nat × Instr × Nat) := [(0, .aload_n 0, 1), (1, .iconst 0, 1), (2, .invokevirtual 158, 3), (5, .ifCond .eq 21, 3), (8, .aload_n 0, 1), (9, .getfield 99, 3), (12, .bipush 7, 2), (14, .if_icmp .ne 12, 3), (17, .aload_n 0, 1), (18, .aload_n 0, 1), (19, .getfield 139, 3), (22, .invokevirtual 155, 3), (25, .ireturn, 1), (26, .aload_n 0, 1), (27, .invokevirtual 161, 3), (30, .istore_n 1, 1), (31, .iload_n 1, 1), (32, .iconst (-1), 1), (33, .if_icmp .ne 5, 3), (36, .iconst 0, 1), (37, .ireturn, 1), (38, .iconst 0, 1), (39, .istore_n 2, 1), (40, .iload_n 2, 1), (41, .aload_n 0, 1), (42, .getfield 69, 3), (45, .iload_n 1, 1), (46, .iaload, 1), (47, .if_icmp .ge 102, 3), (50, .iload_n 2, 1), (51, .ifCond .le 53, 3), (54, .aload_n 0, 1), (55, .getfield 139, 3), (58, .aload_n 0, 1), (59, .getfield 142, 3), (62, .if_icmp .ge 23, 3), (65, .aload_n 0, 1), (66, .getfield 59, 3), (69, .aload_n 0, 1), (70, .getfield 145, 3), (73, .aload_n 0, 1), (74, .getfield 139, 3), (77, .iadd, 1), (78, .laload, 1), (79, .l2i, 1), (80, .bipush 32, 2), (82, .if_icmp .eq 12, 3), (85, .aload_n 0, 1), (86, .aload_n 0, 1), (87, .getfield 139, 3)]
theorem tbX7_item_0_ok : ∀ q ∈ tbX7_item_0, decode cX7_item q.1 = .ok (q.2.1, q.2.2) := by decide +kernel
def tbX7_item_1 : List (Nat × Instr × Nat) := [(90, .invokevirtual 155, 3), (93, .ireturn, 1), (94, .aload_n 0, 1), (95, .dup, 1), (96, .getfield 139, 3), (99, .iconst 1, 1), (100, .iadd, 1), (101, .putfield 139, 3), (104, .aload_n 0, 1), (105, .getfield 139, 3), (108, .istore_n 3, 1), (109, .aload_n 0, 1), (110, .invokevirtual 165, 3), (113, .ifCond .ne 5, 3), (116, .iconst 0, 1), (117, .ireturn, 1), (118, .aload_n 0, 1), (119, .iload_n 1, 1), (120, .iload_n 2, 1), (121, .invokevirtual 168, 3), (124, .ifCond .ne 9, 3), (127, .aload_n 0, 1), (128, .iload_n 3, 1), (129, .invokevirtual 155, 3), (132, .ireturn, 1), (133, .aload_n 0, 1), (134, .getfield 75, 3), (137, .iload_n 2, 1), (138, .aload_n 0, 1), (139, .getfield 148, 3), (142, .iastore, 1), (143, .iinc 2 1, 3), (146, .goto (-106), 3), (149, .iload_n 1, 1), (150, .tableswitch 137 0 5 #[38, 70, 83, 96, 109, 117], 38), (188, .aload_n 0, 1), (189, .aload_n 0, 1), (190, .getfield 75, 3), (193, .iconst 0, 1), (194, .iaload, 1), (195, .aload_n 0, 1), (196, .getfield 75, 3), (199, .iconst 1, 1), (200, .iaload, 1), (201, .aload_n 0, 1), (202, .getfield 75, 3), (205, .iconst 2, 1), (206, .iaload, 1), (207, .aload_n 0, 1), (208, .getfield 75, 3)]
theorem tbX7_item_1_ok : ∀ q ∈ tbX7_item_1, decode cX7_item q.1 = .ok (q.2.1, q.2.2) := by decide +kernel
def tbX7_item_2 : List (Nat × Instr × Nat) := [(211, .iconst 3, 1), (212, .iaload, 1), (213, .invokevirtual 126, 3), (216, .pop, 1), (217, .goto 90, 3), (220, .aload_n 0, 1), (221, .aload_n 0, 1), (222, .getfield 75, 3), (225, .iconst 0, 1), (226, .iaload, 1), (227, .putfield 7, 3), (230, .goto 77, 3), (233, .aload_n 0, 1), (234, .aload_n 0, 1), (235, .getfield 75, 3), (238, .iconst 0, 1), (239, .iaload, 1), (240, .putfield 13, 3), (243, .goto 64, 3), (246, .aload_n 0, 1), (247, .aload_n 0, 1), (248, .getfield 75, 3), (251, .iconst 0, 1), (252, .iaload, 1), (253, .putfield 16, 3), (256, .goto 51, 3), (259, .aload_n 0, 1), (260, .iconst (-1), 1), (261, .putfield 16, 3), (264, .goto 43, 3), (267, .aload_n 0, 1), (268, .dup, 1), (269, .getfield 19, 3), (272, .iconst 1, 1), (273, .aload_n 0, 1), (274, .getfield 75, 3), (277, .iconst 0, 1), (278, .iaload, 1), (279, .ishl, 1), (280, .ior, 1), (281, .putfield 19, 3), (284, .goto 23, 3), (287, .aload_n 0, 1), (288, .dup, 1), (289, .getfield 19, 3), (292, .bipush 31, 2), (294, .iconst 1, 1), (295, .aload_n 0, 1), (296, .getfield 75, 3), (299, .iconst 0, 1)]
theorem tbX7_item_2_ok : ∀ q ∈ tbX7_item_2, decode cX7_item q.1 = .ok (q.2.1, q.2.2) := by decide +kernel
def tbX7_item_3 : List (Nat × Instr × Nat) := [(300, .iaload, 1), (301, .ishl, 1), (302, .isub, 1), (303, .iand, 1), (304, .putfield 19, 3), (307, .iconst 1, 1), (308, .ireturn, 1)]
theorem tbX7_item_3_ok : ∀ q ∈ tbX7_item_3, decode cX7_item q.1 = .ok (q.2.1, q.2.2) := by decide +kernel
theorem wCX7_reads : zCW mX7_reads 0 := ⟨zin (i := 8) (by decide +kernel) rfl, zin (i := 1063) (by decide +kernel) rfl, by decide +kernel, by decide +kernel, by decide +kernel⟩
theorem sC7_165 : zCV RX7 165 mX7_reads 0 := ⟨zin (i := 1060) (by decide +kernel) rfl, zin (i := 1062) (by decide +kernel) rfl, zinP (i := 45) (q := (yX7_reads, 42)) (by decide +kernel) rfl, wCX7_reads⟩
theorem wCX7_isSo : zCW mX7_isSo 2 := ⟨zin (i := 8) (by decide +kernel) rfl, zin (i := 1071) (by decide +kernel) rfl, by decide +kernel, by decide +kernel, by decide +kernel⟩
theorem sC7_168 : zCV RX7 168 mX7_isSo 2 := ⟨zin (i := 1068) (by decide +kernel) rfl, zin (i := 1070) (by decide +kernel) rfl, zinP (i := 47) (q := (yX7_isSo, 42)) (by decide +kernel) rfl, wCX7_isSo⟩
theorem wCX7_word : zCW mX7_word 0 := ⟨zin (i := 8) (by decide +kernel) rfl, zin (i := 1059) (by decide +kernel) rfl, by decide +kernel, by decide +kernel, by decide +kernel⟩
theorem sC7_161 : zCV RX7 161 mX7_word 0 := ⟨zin (i := 1056) (by decide +kernel) rfl, zin (i := 1058) (by decide +kernel) rfl, zinP (i := 44) (q := (yX7_word, 42)) (by decide +kernel) rfl, wCX7_word⟩
theorem wCX7_stands : zCW mX7_stands 1 := ⟨zin (i := 8) (by decide +kernel) rfl, zin (i := 1051) (by decide +kernel) rfl, by decide +kernel, by decide +kernel, by decide +kernel⟩
theorem sC7_158 : zCV RX7 158 mX7_stands 1 := ⟨zin (i := 1048) (by decide +kernel) rfl, zin (i := 1050) (by decide +kernel) rfl, zinP (i := 42) (q := (yX7_stands, 42)) (by decide +kernel) rfl, wCX7_stands⟩
def fX7_item_b85 (n : Nat) (v0 : Nat) (μ : ZMem) : Option (ZMem × Int32) := bd2 (fX7_wrong n v0 (zI μ v0 26) μ) (fun μ2 r3 => chk (b01 r3) (some (μ2, r3)))
theorem tX7_item_b85 {l : Launch} {fr : Bool} {n : Nat} {z : ZMem × Int32} (v0 : Nat) (μ : ZMem) (c_v0 : isC n 7 v0 = true) (h : fX7_item_b85 n v0 μ = some z) : V (zkI l mX7_item (rmd 3) fr n z) fr 85 [(0, .ref v0)] [] n μ := by
  unfold fX7_item_b85 at h
  refine V_aload_n 0 (zdk tbX7_item_0_ok 47 rfl) rfl ?_
  refine V_aload_n 0 (zdk tbX7_item_0_ok 48 rfl) rfl ?_
  refine V_getI (zdk tbX7_item_0_ok 49 rfl) c_v0 fF7_139 rfl ?_
  obtain ⟨μ2, r3, q1, h⟩ := bd2_some h
  refine V_callV (R1 := (rmd 1)) (As := [.int (zI μ v0 26)]) (r := (some (.int r3))) (zdk tbX7_item_1_ok 0 rfl) sC7_155 (tX7_wrong q1) (c_v0) rfl rfl rfl ⟨Nat.le_of_ble_eq_true rfl, Nat.le_of_ble_eq_true rfl⟩ (Nat.le_of_ble_eq_true rfl) ⟨rfl, rfl⟩ id ?_
  obtain ⟨b4, h⟩ := chk_some h
  cases h
  exact V_zret (zdk tbX7_item_1_ok 1 rfl) rfl (b01_n b4) rfl
def fX7_item_b104 (g40 : Nat → Int32 → Int32 → ZMem → Option (ZMem × Int32)) (n : Nat) (v0 : Nat) (v1 : Int32) (v2 : Int32) (μ : ZMem) : Option (ZMem × Int32) := bd2 (fX7_reads n v0 μ) (fun μ2 r3 => (if r3 = 0 then some (μ2, (0 : Int32)) else bd2 (fX7_isSo n v0 v1 v2 μ2) (fun μ6 r7 => (if r7 = 0 then bd2 (fX7_wrong n v0 (zI μ v0 26) μ6) (fun μ15 r16 => chk (b01 r16) (some (μ15, r16))) else bd1 (zRc n 100 μ6 v0 24) (fun r9 => chk (inb v2 r9) (lt (zpI μ6 r9 v2.toNatClampNeg (zI μ6 v0 28)) (fun μ12 => (g40 v0 v1 (v2 + (1 : Int32)) μ12))))))))
theorem tX7_item_b104 {l : Launch} {fr : Bool} {n : Nat} {z : ZMem × Int32} {g40 : Nat → Int32 → Int32 → ZMem → Option (ZMem × Int32)} (hg40 : ∀ (v0 : Nat) (v1 : Int32) (v2 : Int32) (μ : ZMem), isC n 7 v0 = true → g40 v0 v1 v2 μ = some z → V (zkI l mX7_item (rmd 3) fr n z) fr 40 [(0, .ref v0), (1, .int v1), (2, .int v2)] [] n μ) (v0 : Nat) (v1 : Int32) (v2 : Int32) (μ : ZMem) (c_v0 : isC n 7 v0 = true) (h : fX7_item_b104 g40 n v0 v1 v2 μ = some z) : V (zkI l mX7_item (rmd 3) fr n z) fr 104 [(0, .ref v0), (1, .int v1), (2, .int v2)] [] n μ := by
  unfold fX7_item_b104 at h
  refine V_aload_n 0 (zdk tbX7_item_1_ok 8 rfl) rfl ?_
  refine V_getI (zdk tbX7_item_1_ok 9 rfl) c_v0 fF7_139 rfl ?_
  refine V_istore_n (ls' := [(0, .ref v0), (1, .int v1), (2, .int v2), (3, .int (zI μ v0 26))]) [1, 2, 3, 0] (zdk tbX7_item_1_ok 10 rfl) (Nat.le_of_ble_eq_true rfl) rfl ?_
  refine V_aload_n 0 (zdk tbX7_item_1_ok 11 rfl) rfl ?_
  obtain ⟨μ2, r3, q1, h⟩ := bd2_some h
  refine V_callV (R1 := (rmd 2)) (As := []) (r := (some (.int r3))) (zdk tbX7_item_1_ok 12 rfl) sC7_165 (tX7_reads q1) (c_v0) rfl rfl rfl ⟨Nat.le_of_ble_eq_true rfl, Nat.le_of_ble_eq_true rfl⟩ (Nat.le_of_ble_eq_true rfl) ⟨rfl, rfl⟩ id ?_
  refine V_if_ne (tgt := 118) (zdk tbX7_item_1_ok 13 rfl) (by decide) (fun c4 => ?_) (fun c4 => ?_)
  · replace h := ite_f h c4
    refine V_aload_n 0 (zdk tbX7_item_1_ok 16 rfl) rfl ?_
    refine V_iload_n 1 (zdk tbX7_item_1_ok 17 rfl) rfl ?_
    refine V_iload_n 2 (zdk tbX7_item_1_ok 18 rfl) rfl ?_
    obtain ⟨μ6, r7, q5, h⟩ := bd2_some h
    refine V_callV (R1 := (rmd 2)) (As := [.int v1, .int v2]) (r := (some (.int r7))) (zdk tbX7_item_1_ok 19 rfl) sC7_168 (tX7_isSo q5) (c_v0) rfl rfl rfl ⟨Nat.le_of_ble_eq_true rfl, Nat.le_of_ble_eq_true rfl⟩ (Nat.le_of_ble_eq_true rfl) ⟨rfl, rfl⟩ id ?_
    refine V_if_ne (tgt := 133) (zdk tbX7_item_1_ok 20 rfl) (by decide) (fun c8 => ?_) (fun c8 => ?_)
    · replace h := ite_f h c8
      refine V_aload_n 0 (zdk tbX7_item_1_ok 25 rfl) rfl ?_
      obtain ⟨r9, q10, h⟩ := bd1_some h
      obtain ⟨q10, c_r9⟩ := zRc_some q10
      refine V_getR (zdk tbX7_item_1_ok 26 rfl) c_v0 fF7_75 rfl q10 ?_
      refine V_iload_n 2 (zdk tbX7_item_1_ok 27 rfl) rfl ?_
      refine V_aload_n 0 (zdk tbX7_item_1_ok 28 rfl) rfl ?_
      refine V_getI (zdk tbX7_item_1_ok 29 rfl) c_v0 fF7_148 rfl ?_
      obtain ⟨b11, h⟩ := chk_some h
      obtain ⟨μ12, e13, h⟩ := lt_some h
      refine V_iast (zdk tbX7_item_1_ok 30 rfl) c_r9 b11 e13 ?_
      refine V_inc (dx := 1) (ls' := [(0, .ref v0), (1, .int v1), (2, .int (v2 + (1 : Int32)))]) 2 [1, 2, 0] (zdk tbX7_item_1_ok 31 rfl) rfl (Nat.le_of_ble_eq_true rfl) rfl rfl ?_
      refine V_goto (tgt := 40) (zdk tbX7_item_1_ok 32 rfl) (by decide) ?_
      exact hg40 v0 v1 (v2 + (1 : Int32)) μ12 c_v0 h
    · replace h := ite_t h c8
      refine V_aload_n 0 (zdk tbX7_item_1_ok 21 rfl) rfl ?_
      refine V_iload_n 3 (zdk tbX7_item_1_ok 22 rfl) rfl ?_
      obtain ⟨μ15, r16, q14, h⟩ := bd2_some h
      refine V_callV (R1 := (rmd 1)) (As := [.int (zI μ v0 26)]) (r := (some (.int r16))) (zdk tbX7_item_1_ok 23 rfl) sC7_155 (tX7_wrong q14) (c_v0) rfl rfl rfl ⟨Nat.le_of_ble_eq_true rfl, Nat.le_of_ble_eq_true rfl⟩ (Nat.le_of_ble_eq_true rfl) ⟨rfl, rfl⟩ id ?_
      obtain ⟨b17, h⟩ := chk_some h
      cases h
      exact V_zret (zdk tbX7_item_1_ok 24 rfl) rfl (b01_n b17) rfl
  · replace h := ite_t h c4
    refine V_iconst (v := 0) (zdk tbX7_item_1_ok 14 rfl) rfl ?_
    cases h
    exact V_zret (zdk tbX7_item_1_ok 15 rfl) rfl (by decide) rfl
def fX7_item_b307 (n : Nat) (μ : ZMem) : Option (ZMem × Int32) := some (μ, (1 : Int32))
theorem tX7_item_b307 {l : Launch} {fr : Bool} {n : Nat} {z : ZMem × Int32} (μ : ZMem) (h : fX7_item_b307 n μ = some z) : V (zkI l mX7_item (rmd 3) fr n z) fr 307 [] [] n μ := by
  unfold fX7_item_b307 at h
  refine V_iconst (v := 1) (zdk tbX7_item_3_ok 5 rfl) rfl ?_
  cases h
  exact V_zret (zdk tbX7_item_3_ok 6 rfl) rfl (by decide) rfl
def fX7_item_b40 (n : Nat) : Nat → Nat → Int32 → Int32 → ZMem → Option (ZMem × Int32)
  | 0, _, _, _, _ => none
  | k + 1, v0, v1, v2, μ => bd1 (zRc n 100 μ v0 22) (fun r1 => chk (inb v1 r1) ((if (zI μ r1 v1.toNatClampNeg) ≤ v2 then (if v1 = (0 : Int32) then bd1 (zRc n 100 μ v0 24) (fun r6 => chk (inb (0 : Int32) r6) (bd1 (zRc n 100 μ v0 24) (fun r9 => chk (inb (1 : Int32) r9) (bd1 (zRc n 100 μ v0 24) (fun r12 => chk (inb (2 : Int32) r12) (bd1 (zRc n 100 μ v0 24) (fun r15 => chk (inb (3 : Int32) r15) (bd2 (fX7_adds n v0 (zI μ r6 (0 : Int32).toNatClampNeg) (zI μ r9 (1 : Int32).toNatClampNeg) (zI μ r12 (2 : Int32).toNatClampNeg) (zI μ r15 (3 : Int32).toNatClampNeg) μ) (fun μ19 r20 => (fX7_item_b307 n  μ19)))))))))) else (if v1 = (1 : Int32) then bd1 (zRc n 100 μ v0 24) (fun r22 => chk (inb (0 : Int32) r22) (lt (zpI μ v0 1 (zI μ r22 (0 : Int32).toNatClampNeg)) (fun μ25 => (fX7_item_b307 n  μ25)))) else (if v1 = (2 : Int32) then bd1 (zRc n 100 μ v0 24) (fun r28 => chk (inb (0 : Int32) r28) (lt (zpI μ v0 2 (zI μ r28 (0 : Int32).toNatClampNeg)) (fun μ31 => (fX7_item_b307 n  μ31)))) else (if v1 = (3 : Int32) then bd1 (zRc n 100 μ v0 24) (fun r34 => chk (inb (0 : Int32) r34) (lt (zpI μ v0 4 (zI μ r34 (0 : Int32).toNatClampNeg)) (fun μ37 => (fX7_item_b307 n  μ37)))) else (if v1 = (4 : Int32) then lt (zpI μ v0 4 (-1 : Int32)) (fun μ40 => (fX7_item_b307 n  μ40)) else (if v1 = (5 : Int32) then bd1 (zRc n 100 μ v0 24) (fun r43 => chk (inb (0 : Int32) r43) (lt (zpI μ v0 6 ((zI μ v0 6) ||| ((1 : Int32) <<< ((zI μ r43 (0 : Int32).toNatClampNeg) &&& 31)))) (fun μ46 => (fX7_item_b307 n  μ46)))) else bd1 (zRc n 100 μ v0 24) (fun r48 => chk (inb (0 : Int32) r48) (lt (zpI μ v0 6 ((zI μ v0 6) &&& ((31 : Int32) - ((1 : Int32) <<< ((zI μ r48 (0 : Int32).toNatClampNeg) &&& 31))))) (fun μ51 => (fX7_item_b307 n  μ51)))))))))) else (if v2 ≤ 0 then (fX7_item_b104 (fX7_item_b40 n k) n v0 v1 v2 μ) else (if (zI μ v0 27) ≤ (zI μ v0 26) then (fX7_item_b85 n v0 μ) else bd1 (zRc n 101 μ v0 19) (fun r55 => chk (inb ((zI μ v0 25) + (zI μ v0 26)) r55) ((if ((zL μ r55 ((zI μ v0 25) + (zI μ v0 26)).toNatClampNeg).toInt32) = (32 : Int32) then lt (zpI μ v0 26 ((zI μ v0 26) + (1 : Int32))) (fun μ59 => (fX7_item_b104 (fX7_item_b40 n k) n v0 v1 v2 μ59)) else (fX7_item_b85 n v0 μ)))))))))
theorem tX7_item_b40 {l : Launch} {fr : Bool} {n : Nat} {z : ZMem × Int32} : ∀ (k : Nat) (v0 : Nat) (v1 : Int32) (v2 : Int32) (μ : ZMem) (c_v0 : isC n 7 v0 = true), fX7_item_b40 n k v0 v1 v2 μ = some z → V (zkI l mX7_item (rmd 3) fr n z) fr 40 [(0, .ref v0), (1, .int v1), (2, .int v2)] [] n μ := by
  intro k
  induction k with
  | zero =>
    intro v0 v1 v2 μ c_v0 h
    unfold fX7_item_b40 at h
    cases h
  | succ k ih =>
    intro v0 v1 v2 μ c_v0 h
    unfold fX7_item_b40 at h
    refine V_iload_n 2 (zdk tbX7_item_0_ok 23 rfl) rfl ?_
    refine V_aload_n 0 (zdk tbX7_item_0_ok 24 rfl) rfl ?_
    obtain ⟨r1, q2, h⟩ := bd1_some h
    obtain ⟨q2, c_r1⟩ := zRc_some q2
    refine V_getR (zdk tbX7_item_0_ok 25 rfl) c_v0 fF7_69 rfl q2 ?_
    refine V_iload_n 1 (zdk tbX7_item_0_ok 26 rfl) rfl ?_
    obtain ⟨b3, h⟩ := chk_some h
    refine V_iald (zdk tbX7_item_0_ok 27 rfl) c_r1 b3 ?_
    refine V_icmp_ge (tgt := 149) (zdk tbX7_item_0_ok 28 rfl) (by decide) (fun c4 => ?_) (fun c4 => ?_)
    · replace h := ite_t h c4
      refine V_iload_n 1 (zdk tbX7_item_1_ok 33 rfl) rfl ?_
      by_cases c5 : v1 = (0 : Int32)
      · replace h := ite_t h c5
        refine V_tsw (off := 38) (tgt := 188) 0 c5 (zdk tbX7_item_1_ok 34 rfl) (by decide) rfl (by decide) ?_
        refine V_aload_n 0 (zdk tbX7_item_1_ok 35 rfl) rfl ?_
        refine V_aload_n 0 (zdk tbX7_item_1_ok 36 rfl) rfl ?_
        obtain ⟨r6, q7, h⟩ := bd1_some h
        obtain ⟨q7, c_r6⟩ := zRc_some q7
        refine V_getR (zdk tbX7_item_1_ok 37 rfl) c_v0 fF7_75 rfl q7 ?_
        refine V_iconst (v := 0) (zdk tbX7_item_1_ok 38 rfl) rfl ?_
        obtain ⟨b8, h⟩ := chk_some h
        refine V_iald (zdk tbX7_item_1_ok 39 rfl) c_r6 b8 ?_
        refine V_aload_n 0 (zdk tbX7_item_1_ok 40 rfl) rfl ?_
        obtain ⟨r9, q10, h⟩ := bd1_some h
        obtain ⟨q10, c_r9⟩ := zRc_some q10
        refine V_getR (zdk tbX7_item_1_ok 41 rfl) c_v0 fF7_75 rfl q10 ?_
        refine V_iconst (v := 1) (zdk tbX7_item_1_ok 42 rfl) rfl ?_
        obtain ⟨b11, h⟩ := chk_some h
        refine V_iald (zdk tbX7_item_1_ok 43 rfl) c_r9 b11 ?_
        refine V_aload_n 0 (zdk tbX7_item_1_ok 44 rfl) rfl ?_
        obtain ⟨r12, q13, h⟩ := bd1_some h
        obtain ⟨q13, c_r12⟩ := zRc_some q13
        refine V_getR (zdk tbX7_item_1_ok 45 rfl) c_v0 fF7_75 rfl q13 ?_
        refine V_iconst (v := 2) (zdk tbX7_item_1_ok 46 rfl) rfl ?_
        obtain ⟨b14, h⟩ := chk_some h
        refine V_iald (zdk tbX7_item_1_ok 47 rfl) c_r12 b14 ?_
        refine V_aload_n 0 (zdk tbX7_item_1_ok 48 rfl) rfl ?_
        obtain ⟨r15, q16, h⟩ := bd1_some h
        obtain ⟨q16, c_r15⟩ := zRc_some q16
        refine V_getR (zdk tbX7_item_1_ok 49 rfl) c_v0 fF7_75 rfl q16 ?_
        refine V_iconst (v := 3) (zdk tbX7_item_2_ok 0 rfl) rfl ?_
        obtain ⟨b17, h⟩ := chk_some h
        refine V_iald (zdk tbX7_item_2_ok 1 rfl) c_r15 b17 ?_
        obtain ⟨μ19, r20, q18, h⟩ := bd2_some h
        refine V_callV (R1 := (rmd 1)) (As := [.int (zI μ r6 (0 : Int32).toNatClampNeg), .int (zI μ r9 (1 : Int32).toNatClampNeg), .int (zI μ r12 (2 : Int32).toNatClampNeg), .int (zI μ r15 (3 : Int32).toNatClampNeg)]) (r := (some (.int r20))) (zdk tbX7_item_2_ok 2 rfl) sC7_126 (tX7_adds q18) (c_v0) rfl rfl rfl ⟨Nat.le_of_ble_eq_true rfl, Nat.le_of_ble_eq_true rfl⟩ (Nat.le_of_ble_eq_true rfl) ⟨rfl, rfl⟩ id ?_
        refine V_pop (zdk tbX7_item_2_ok 3 rfl) ?_
        refine V_goto (tgt := 307) (zdk tbX7_item_2_ok 4 rfl) (by decide) ?_
        refine V_sub (ls' := []) [] rfl ?_
        exact tX7_item_b307  μ19  h
      · replace h := ite_f h c5
        by_cases c21 : v1 = (1 : Int32)
        · replace h := ite_t h c21
          refine V_tsw (off := 70) (tgt := 220) 1 c21 (zdk tbX7_item_1_ok 34 rfl) (by decide) rfl (by decide) ?_
          refine V_aload_n 0 (zdk tbX7_item_2_ok 5 rfl) rfl ?_
          refine V_aload_n 0 (zdk tbX7_item_2_ok 6 rfl) rfl ?_
          obtain ⟨r22, q23, h⟩ := bd1_some h
          obtain ⟨q23, c_r22⟩ := zRc_some q23
          refine V_getR (zdk tbX7_item_2_ok 7 rfl) c_v0 fF7_75 rfl q23 ?_
          refine V_iconst (v := 0) (zdk tbX7_item_2_ok 8 rfl) rfl ?_
          obtain ⟨b24, h⟩ := chk_some h
          refine V_iald (zdk tbX7_item_2_ok 9 rfl) c_r22 b24 ?_
          obtain ⟨μ25, e26, h⟩ := lt_some h
          refine V_putI (zdk tbX7_item_2_ok 10 rfl) c_v0 fF7_7 rfl rfl rfl e26 ?_
          refine V_goto (tgt := 307) (zdk tbX7_item_2_ok 11 rfl) (by decide) ?_
          refine V_sub (ls' := []) [] rfl ?_
          exact tX7_item_b307  μ25  h
        · replace h := ite_f h c21
          by_cases c27 : v1 = (2 : Int32)
          · replace h := ite_t h c27
            refine V_tsw (off := 83) (tgt := 233) 2 c27 (zdk tbX7_item_1_ok 34 rfl) (by decide) rfl (by decide) ?_
            refine V_aload_n 0 (zdk tbX7_item_2_ok 12 rfl) rfl ?_
            refine V_aload_n 0 (zdk tbX7_item_2_ok 13 rfl) rfl ?_
            obtain ⟨r28, q29, h⟩ := bd1_some h
            obtain ⟨q29, c_r28⟩ := zRc_some q29
            refine V_getR (zdk tbX7_item_2_ok 14 rfl) c_v0 fF7_75 rfl q29 ?_
            refine V_iconst (v := 0) (zdk tbX7_item_2_ok 15 rfl) rfl ?_
            obtain ⟨b30, h⟩ := chk_some h
            refine V_iald (zdk tbX7_item_2_ok 16 rfl) c_r28 b30 ?_
            obtain ⟨μ31, e32, h⟩ := lt_some h
            refine V_putI (zdk tbX7_item_2_ok 17 rfl) c_v0 fF7_13 rfl rfl rfl e32 ?_
            refine V_goto (tgt := 307) (zdk tbX7_item_2_ok 18 rfl) (by decide) ?_
            refine V_sub (ls' := []) [] rfl ?_
            exact tX7_item_b307  μ31  h
          · replace h := ite_f h c27
            by_cases c33 : v1 = (3 : Int32)
            · replace h := ite_t h c33
              refine V_tsw (off := 96) (tgt := 246) 3 c33 (zdk tbX7_item_1_ok 34 rfl) (by decide) rfl (by decide) ?_
              refine V_aload_n 0 (zdk tbX7_item_2_ok 19 rfl) rfl ?_
              refine V_aload_n 0 (zdk tbX7_item_2_ok 20 rfl) rfl ?_
              obtain ⟨r34, q35, h⟩ := bd1_some h
              obtain ⟨q35, c_r34⟩ := zRc_some q35
              refine V_getR (zdk tbX7_item_2_ok 21 rfl) c_v0 fF7_75 rfl q35 ?_
              refine V_iconst (v := 0) (zdk tbX7_item_2_ok 22 rfl) rfl ?_
              obtain ⟨b36, h⟩ := chk_some h
              refine V_iald (zdk tbX7_item_2_ok 23 rfl) c_r34 b36 ?_
              obtain ⟨μ37, e38, h⟩ := lt_some h
              refine V_putI (zdk tbX7_item_2_ok 24 rfl) c_v0 fF7_16 rfl rfl rfl e38 ?_
              refine V_goto (tgt := 307) (zdk tbX7_item_2_ok 25 rfl) (by decide) ?_
              refine V_sub (ls' := []) [] rfl ?_
              exact tX7_item_b307  μ37  h
            · replace h := ite_f h c33
              by_cases c39 : v1 = (4 : Int32)
              · replace h := ite_t h c39
                refine V_tsw (off := 109) (tgt := 259) 4 c39 (zdk tbX7_item_1_ok 34 rfl) (by decide) rfl (by decide) ?_
                refine V_aload_n 0 (zdk tbX7_item_2_ok 26 rfl) rfl ?_
                refine V_iconst (v := (-1)) (zdk tbX7_item_2_ok 27 rfl) rfl ?_
                obtain ⟨μ40, e41, h⟩ := lt_some h
                refine V_putI (zdk tbX7_item_2_ok 28 rfl) c_v0 fF7_16 rfl rfl rfl e41 ?_
                refine V_goto (tgt := 307) (zdk tbX7_item_2_ok 29 rfl) (by decide) ?_
                refine V_sub (ls' := []) [] rfl ?_
                exact tX7_item_b307  μ40  h
              · replace h := ite_f h c39
                by_cases c42 : v1 = (5 : Int32)
                · replace h := ite_t h c42
                  refine V_tsw (off := 117) (tgt := 267) 5 c42 (zdk tbX7_item_1_ok 34 rfl) (by decide) rfl (by decide) ?_
                  refine V_aload_n 0 (zdk tbX7_item_2_ok 30 rfl) rfl ?_
                  refine V_dup_r (zdk tbX7_item_2_ok 31 rfl) ?_
                  refine V_getI (zdk tbX7_item_2_ok 32 rfl) c_v0 fF7_19 rfl ?_
                  refine V_iconst (v := 1) (zdk tbX7_item_2_ok 33 rfl) rfl ?_
                  refine V_aload_n 0 (zdk tbX7_item_2_ok 34 rfl) rfl ?_
                  obtain ⟨r43, q44, h⟩ := bd1_some h
                  obtain ⟨q44, c_r43⟩ := zRc_some q44
                  refine V_getR (zdk tbX7_item_2_ok 35 rfl) c_v0 fF7_75 rfl q44 ?_
                  refine V_iconst (v := 0) (zdk tbX7_item_2_ok 36 rfl) rfl ?_
                  obtain ⟨b45, h⟩ := chk_some h
                  refine V_iald (zdk tbX7_item_2_ok 37 rfl) c_r43 b45 ?_
                  refine V_ishl (zdk tbX7_item_2_ok 38 rfl) ?_
                  refine V_ior (zdk tbX7_item_2_ok 39 rfl) ?_
                  obtain ⟨μ46, e47, h⟩ := lt_some h
                  refine V_putI (zdk tbX7_item_2_ok 40 rfl) c_v0 fF7_19 rfl rfl rfl e47 ?_
                  refine V_goto (tgt := 307) (zdk tbX7_item_2_ok 41 rfl) (by decide) ?_
                  refine V_sub (ls' := []) [] rfl ?_
                  exact tX7_item_b307  μ46  h
                · replace h := ite_f h c42
                  refine V_tsw0 (tgt := 287) [0, 1, 2, 3, 4, 5] (List.forall_mem_cons.mpr ⟨c5, List.forall_mem_cons.mpr ⟨c21, List.forall_mem_cons.mpr ⟨c27, List.forall_mem_cons.mpr ⟨c33, List.forall_mem_cons.mpr ⟨c39, List.forall_mem_cons.mpr ⟨c42, fun _ h => absurd h List.not_mem_nil⟩⟩⟩⟩⟩⟩) (zdk tbX7_item_1_ok 34 rfl) (by decide) (by decide) (by decide) ?_
                  refine V_aload_n 0 (zdk tbX7_item_2_ok 42 rfl) rfl ?_
                  refine V_dup_r (zdk tbX7_item_2_ok 43 rfl) ?_
                  refine V_getI (zdk tbX7_item_2_ok 44 rfl) c_v0 fF7_19 rfl ?_
                  refine V_bipush (v := 31) (zdk tbX7_item_2_ok 45 rfl) rfl ?_
                  refine V_iconst (v := 1) (zdk tbX7_item_2_ok 46 rfl) rfl ?_
                  refine V_aload_n 0 (zdk tbX7_item_2_ok 47 rfl) rfl ?_
                  obtain ⟨r48, q49, h⟩ := bd1_some h
                  obtain ⟨q49, c_r48⟩ := zRc_some q49
                  refine V_getR (zdk tbX7_item_2_ok 48 rfl) c_v0 fF7_75 rfl q49 ?_
                  refine V_iconst (v := 0) (zdk tbX7_item_2_ok 49 rfl) rfl ?_
                  obtain ⟨b50, h⟩ := chk_some h
                  refine V_iald (zdk tbX7_item_3_ok 0 rfl) c_r48 b50 ?_
                  refine V_ishl (zdk tbX7_item_3_ok 1 rfl) ?_
                  refine V_isub (zdk tbX7_item_3_ok 2 rfl) ?_
                  refine V_iand (zdk tbX7_item_3_ok 3 rfl) ?_
                  obtain ⟨μ51, e52, h⟩ := lt_some h
                  refine V_putI (zdk tbX7_item_3_ok 4 rfl) c_v0 fF7_19 rfl rfl rfl e52 ?_
                  refine V_sub (ls' := []) [] rfl ?_
                  exact tX7_item_b307  μ51  h
    · replace h := ite_f h c4
      refine V_iload_n 2 (zdk tbX7_item_0_ok 29 rfl) rfl ?_
      refine V_if_le (tgt := 104) (zdk tbX7_item_0_ok 30 rfl) (by decide) (fun c53 => ?_) (fun c53 => ?_)
      · replace h := ite_t h c53
        exact tX7_item_b104 (fun v0 v1 v2 μ y0 h => ih v0 v1 v2 μ y0 h) v0 v1 v2 μ c_v0 h
      · replace h := ite_f h c53
        refine V_aload_n 0 (zdk tbX7_item_0_ok 31 rfl) rfl ?_
        refine V_getI (zdk tbX7_item_0_ok 32 rfl) c_v0 fF7_139 rfl ?_
        refine V_aload_n 0 (zdk tbX7_item_0_ok 33 rfl) rfl ?_
        refine V_getI (zdk tbX7_item_0_ok 34 rfl) c_v0 fF7_142 rfl ?_
        refine V_icmp_ge (tgt := 85) (zdk tbX7_item_0_ok 35 rfl) (by decide) (fun c54 => ?_) (fun c54 => ?_)
        · replace h := ite_t h c54
          refine V_sub (ls' := [(0, .ref v0)]) [0] rfl ?_
          exact tX7_item_b85 v0 μ c_v0 h
        · replace h := ite_f h c54
          refine V_aload_n 0 (zdk tbX7_item_0_ok 36 rfl) rfl ?_
          obtain ⟨r55, q56, h⟩ := bd1_some h
          obtain ⟨q56, c_r55⟩ := zRc_some q56
          refine V_getR (zdk tbX7_item_0_ok 37 rfl) c_v0 fF7_59 rfl q56 ?_
          refine V_aload_n 0 (zdk tbX7_item_0_ok 38 rfl) rfl ?_
          refine V_getI (zdk tbX7_item_0_ok 39 rfl) c_v0 fF7_145 rfl ?_
          refine V_aload_n 0 (zdk tbX7_item_0_ok 40 rfl) rfl ?_
          refine V_getI (zdk tbX7_item_0_ok 41 rfl) c_v0 fF7_139 rfl ?_
          refine V_iadd (zdk tbX7_item_0_ok 42 rfl) ?_
          obtain ⟨b57, h⟩ := chk_some h
          refine V_lald (zdk tbX7_item_0_ok 43 rfl) c_r55 b57 ?_
          refine V_l2i (zdk tbX7_item_0_ok 44 rfl) rfl ?_
          refine V_bipush (v := 32) (zdk tbX7_item_0_ok 45 rfl) rfl ?_
          refine V_icmp_eq (tgt := 94) (zdk tbX7_item_0_ok 46 rfl) (by decide) (fun c58 => ?_) (fun c58 => ?_)
          · replace h := ite_t h c58
            refine V_aload_n 0 (zdk tbX7_item_1_ok 2 rfl) rfl ?_
            refine V_dup_r (zdk tbX7_item_1_ok 3 rfl) ?_
            refine V_getI (zdk tbX7_item_1_ok 4 rfl) c_v0 fF7_139 rfl ?_
            refine V_iconst (v := 1) (zdk tbX7_item_1_ok 5 rfl) rfl ?_
            refine V_iadd (zdk tbX7_item_1_ok 6 rfl) ?_
            obtain ⟨μ59, e60, h⟩ := lt_some h
            refine V_putI (zdk tbX7_item_1_ok 7 rfl) c_v0 fF7_139 rfl rfl rfl e60 ?_
            exact tX7_item_b104 (fun v0 v1 v2 μ y0 h => ih v0 v1 v2 μ y0 h) v0 v1 v2 μ59 c_v0 h
          · replace h := ite_f h c58
            refine V_sub (ls' := [(0, .ref v0)]) [0] rfl ?_
            exact tX7_item_b85 v0 μ c_v0 h
def fX7_item_b26 (n : Nat) (v0 : Nat) (μ : ZMem) : Option (ZMem × Int32) := bd2 (fX7_word n v0 μ) (fun μ2 r3 => (if r3 = (-1 : Int32) then some (μ2, (0 : Int32)) else (fX7_item_b40 n FU v0 r3 (0 : Int32) μ2)))
theorem tX7_item_b26 {l : Launch} {fr : Bool} {n : Nat} {z : ZMem × Int32} (v0 : Nat) (μ : ZMem) (c_v0 : isC n 7 v0 = true) (h : fX7_item_b26 n v0 μ = some z) : V (zkI l mX7_item (rmd 3) fr n z) fr 26 [(0, .ref v0)] [] n μ := by
  unfold fX7_item_b26 at h
  refine V_aload_n 0 (zdk tbX7_item_0_ok 13 rfl) rfl ?_
  obtain ⟨μ2, r3, q1, h⟩ := bd2_some h
  refine V_callV (R1 := (rmd 1)) (As := []) (r := (some (.int r3))) (zdk tbX7_item_0_ok 14 rfl) sC7_161 (tX7_word q1) (c_v0) rfl rfl rfl ⟨Nat.le_of_ble_eq_true rfl, Nat.le_of_ble_eq_true rfl⟩ (Nat.le_of_ble_eq_true rfl) ⟨rfl, rfl⟩ id ?_
  refine V_istore_n (ls' := [(0, .ref v0), (1, .int r3)]) [1, 0] (zdk tbX7_item_0_ok 15 rfl) (Nat.le_of_ble_eq_true rfl) rfl ?_
  refine V_iload_n 1 (zdk tbX7_item_0_ok 16 rfl) rfl ?_
  refine V_iconst (v := (-1)) (zdk tbX7_item_0_ok 17 rfl) rfl ?_
  refine V_icmp_ne (tgt := 38) (zdk tbX7_item_0_ok 18 rfl) (by decide) (fun c4 => ?_) (fun c4 => ?_)
  · replace h := ite_f h c4
    refine V_iconst (v := 0) (zdk tbX7_item_0_ok 21 rfl) rfl ?_
    refine V_istore_n (ls' := [(0, .ref v0), (1, .int r3), (2, .int (0 : Int32))]) [1, 2, 0] (zdk tbX7_item_0_ok 22 rfl) (Nat.le_of_ble_eq_true rfl) rfl ?_
    exact tX7_item_b40 FU v0 r3 (0 : Int32) μ2 c_v0 h
  · replace h := ite_t h c4
    refine V_iconst (v := 0) (zdk tbX7_item_0_ok 19 rfl) rfl ?_
    cases h
    exact V_zret (zdk tbX7_item_0_ok 20 rfl) rfl (by decide) rfl
def fX7_item (n : Nat) (v0 : Nat) (μ : ZMem) : Option (ZMem × Int32) := chk (isC n 7 v0) (bd2 (fX7_stands n v0 (0 : Int32) μ) (fun μ2 r3 => (if r3 = 0 then (fX7_item_b26 n v0 μ2) else (if (zI μ2 v0 0) = (7 : Int32) then bd2 (fX7_wrong n v0 (zI μ2 v0 26) μ2) (fun μ7 r8 => chk (b01 r8) (some (μ7, r8))) else (fX7_item_b26 n v0 μ2)))))
theorem tX7_item {l : Launch} {fr : Bool} {n : Nat} {v0 : Nat} {μ : ZMem} {z : ZMem × Int32} (h : fX7_item n v0 μ = some z) : ZFn l mX7_item (rmd 3) [.ref v0] fr n μ (fr, n, z.1, some (.int z.2)) := by
  unfold fX7_item at h
  obtain ⟨c_v0, h⟩ := chk_some h
  refine ZFn.of (ls := [(0, .ref v0)]) (by decide) (fun ξ => Nat.le_of_ble_eq_true rfl) (fun ξ => rfl) ?_
  refine V_aload_n 0 (zdk tbX7_item_0_ok 0 rfl) rfl ?_
  refine V_iconst (v := 0) (zdk tbX7_item_0_ok 1 rfl) rfl ?_
  obtain ⟨μ2, r3, q1, h⟩ := bd2_some h
  refine V_callV (R1 := (rmd 1)) (As := [.int (0 : Int32)]) (r := (some (.int r3))) (zdk tbX7_item_0_ok 2 rfl) sC7_158 (tX7_stands q1) (c_v0) rfl rfl rfl ⟨Nat.le_of_ble_eq_true rfl, Nat.le_of_ble_eq_true rfl⟩ (Nat.le_of_ble_eq_true rfl) ⟨rfl, rfl⟩ id ?_
  refine V_if_eq (tgt := 26) (zdk tbX7_item_0_ok 3 rfl) (by decide) (fun c4 => ?_) (fun c4 => ?_)
  · replace h := ite_t h c4
    exact tX7_item_b26 v0 μ2 c_v0 h
  · replace h := ite_f h c4
    refine V_aload_n 0 (zdk tbX7_item_0_ok 4 rfl) rfl ?_
    refine V_getI (zdk tbX7_item_0_ok 5 rfl) c_v0 fF7_99 rfl ?_
    refine V_bipush (v := 7) (zdk tbX7_item_0_ok 6 rfl) rfl ?_
    refine V_icmp_ne (tgt := 26) (zdk tbX7_item_0_ok 7 rfl) (by decide) (fun c5 => ?_) (fun c5 => ?_)
    · replace h := ite_f h c5
      exact tX7_item_b26 v0 μ2 c_v0 h
    · replace h := ite_t h c5
      refine V_aload_n 0 (zdk tbX7_item_0_ok 8 rfl) rfl ?_
      refine V_aload_n 0 (zdk tbX7_item_0_ok 9 rfl) rfl ?_
      refine V_getI (zdk tbX7_item_0_ok 10 rfl) c_v0 fF7_139 rfl ?_
      obtain ⟨μ7, r8, q6, h⟩ := bd2_some h
      refine V_callV (R1 := (rmd 1)) (As := [.int (zI μ2 v0 26)]) (r := (some (.int r8))) (zdk tbX7_item_0_ok 11 rfl) sC7_155 (tX7_wrong q6) (c_v0) rfl rfl rfl ⟨Nat.le_of_ble_eq_true rfl, Nat.le_of_ble_eq_true rfl⟩ (Nat.le_of_ble_eq_true rfl) ⟨rfl, rfl⟩ id ?_
      obtain ⟨b9, h⟩ := chk_some h
      cases h
      exact V_zret (zdk tbX7_item_0_ok 12 rfl) rfl (b01_n b9) rfl

-- WhoComplainsCarriesModel.carries
def tbX7_carries_0 : List (Nat × Instr × Nat) := [(0, .iconst 0, 1), (1, .istore 5, 2), (3, .iload 5, 2), (5, .bipush 7, 2), (7, .if_icmp .ge 37, 3), (10, .iload 4, 2), (12, .ifCond .eq 16, 3), (15, .aload_n 1, 1), (16, .iload 5, 2), (18, .aload_n 2, 1), (19, .iload_n 3, 1), (20, .iload 5, 2), (22, .iadd, 1), (23, .iaload, 1), (24, .iastore, 1), (25, .goto 13, 3), (28, .aload_n 2, 1), (29, .iload_n 3, 1), (30, .iload 5, 2), (32, .iadd, 1), (33, .aload_n 1, 1), (34, .iload 5, 2), (36, .iaload, 1), (37, .iastore, 1), (38, .iinc 5 1, 3), (41, .goto (-38), 3), (44, .iload_n 3, 1), (45, .bipush 7, 2), (47, .iadd, 1), (48, .ireturn, 1)]
theorem tbX7_carries_0_ok : ∀ q ∈ tbX7_carries_0, decode cX7_carries q.1 = .ok (q.2.1, q.2.2) := by decide +kernel
def fX7_carries_b38 (g3 : Nat → Nat → Int32 → Int32 → Int32 → ZMem → Option (ZMem × Int32)) (n : Nat) (v1 : Nat) (v2 : Nat) (v3 : Int32) (v4 : Int32) (v5 : Int32) (μ : ZMem) : Option (ZMem × Int32) := (g3 v1 v2 v3 v4 (v5 + (1 : Int32)) μ)
theorem tX7_carries_b38 {l : Launch} {fr : Bool} {n : Nat} {z : ZMem × Int32} {g3 : Nat → Nat → Int32 → Int32 → Int32 → ZMem → Option (ZMem × Int32)} (hg3 : ∀ (v1 : Nat) (v2 : Nat) (v3 : Int32) (v4 : Int32) (v5 : Int32) (μ : ZMem), isC n 100 v1 = true → isC n 100 v2 = true → g3 v1 v2 v3 v4 v5 μ = some z → V (zkI l mX7_carries (rmd 1) fr n z) fr 3 [(1, .ref v1), (2, .ref v2), (3, .int v3), (4, .int v4), (5, .int v5)] [] n μ) (v1 : Nat) (v2 : Nat) (v3 : Int32) (v4 : Int32) (v5 : Int32) (μ : ZMem) (c_v1 : isC n 100 v1 = true) (c_v2 : isC n 100 v2 = true) (h : fX7_carries_b38 g3 n v1 v2 v3 v4 v5 μ = some z) : V (zkI l mX7_carries (rmd 1) fr n z) fr 38 [(1, .ref v1), (2, .ref v2), (3, .int v3), (4, .int v4), (5, .int v5)] [] n μ := by
  unfold fX7_carries_b38 at h
  refine V_inc (dx := 1) (ls' := [(1, .ref v1), (2, .ref v2), (3, .int v3), (4, .int v4), (5, .int (v5 + (1 : Int32)))]) 4 [1, 2, 3, 4, 0] (zdk tbX7_carries_0_ok 24 rfl) rfl (Nat.le_of_ble_eq_true rfl) rfl rfl ?_
  refine V_goto (tgt := 3) (zdk tbX7_carries_0_ok 25 rfl) (by decide) ?_
  exact hg3 v1 v2 v3 v4 (v5 + (1 : Int32)) μ c_v1 c_v2 h
def fX7_carries_b3 (n : Nat) : Nat → Nat → Nat → Int32 → Int32 → Int32 → ZMem → Option (ZMem × Int32)
  | 0, _, _, _, _, _, _ => none
  | k + 1, v1, v2, v3, v4, v5, μ => (if (7 : Int32) ≤ v5 then some (μ, (v3 + (7 : Int32))) else (if v4 = 0 then chk (inb v5 v1) (chk (inb (v3 + v5) v2) (lt (zpI μ v2 (v3 + v5).toNatClampNeg (zI μ v1 v5.toNatClampNeg)) (fun μ5 => (fX7_carries_b38 (fX7_carries_b3 n k) n v1 v2 v3 v4 v5 μ5)))) else chk (inb (v3 + v5) v2) (chk (inb v5 v1) (lt (zpI μ v1 v5.toNatClampNeg (zI μ v2 (v3 + v5).toNatClampNeg)) (fun μ9 => (fX7_carries_b38 (fX7_carries_b3 n k) n v1 v2 v3 v4 v5 μ9))))))
theorem tX7_carries_b3 {l : Launch} {fr : Bool} {n : Nat} {z : ZMem × Int32} : ∀ (k : Nat) (v1 : Nat) (v2 : Nat) (v3 : Int32) (v4 : Int32) (v5 : Int32) (μ : ZMem) (c_v1 : isC n 100 v1 = true) (c_v2 : isC n 100 v2 = true), fX7_carries_b3 n k v1 v2 v3 v4 v5 μ = some z → V (zkI l mX7_carries (rmd 1) fr n z) fr 3 [(1, .ref v1), (2, .ref v2), (3, .int v3), (4, .int v4), (5, .int v5)] [] n μ := by
  intro k
  induction k with
  | zero =>
    intro v1 v2 v3 v4 v5 μ c_v1 c_v2 h
    unfold fX7_carries_b3 at h
    cases h
  | succ k ih =>
    intro v1 v2 v3 v4 v5 μ c_v1 c_v2 h
    unfold fX7_carries_b3 at h
    refine V_iload 4 (zdk tbX7_carries_0_ok 2 rfl) rfl ?_
    refine V_bipush (v := 7) (zdk tbX7_carries_0_ok 3 rfl) rfl ?_
    refine V_icmp_ge (tgt := 44) (zdk tbX7_carries_0_ok 4 rfl) (by decide) (fun c1 => ?_) (fun c1 => ?_)
    · replace h := ite_t h c1
      refine V_iload_n 2 (zdk tbX7_carries_0_ok 26 rfl) rfl ?_
      refine V_bipush (v := 7) (zdk tbX7_carries_0_ok 27 rfl) rfl ?_
      refine V_iadd (zdk tbX7_carries_0_ok 28 rfl) ?_
      cases h
      exact V_iret (zdk tbX7_carries_0_ok 29 rfl) rfl rfl
    · replace h := ite_f h c1
      refine V_iload 3 (zdk tbX7_carries_0_ok 5 rfl) rfl ?_
      refine V_if_eq (tgt := 28) (zdk tbX7_carries_0_ok 6 rfl) (by decide) (fun c2 => ?_) (fun c2 => ?_)
      · replace h := ite_t h c2
        refine V_aload_n 1 (zdk tbX7_carries_0_ok 16 rfl) rfl ?_
        refine V_iload_n 2 (zdk tbX7_carries_0_ok 17 rfl) rfl ?_
        refine V_iload 4 (zdk tbX7_carries_0_ok 18 rfl) rfl ?_
        refine V_iadd (zdk tbX7_carries_0_ok 19 rfl) ?_
        refine V_aload_n 0 (zdk tbX7_carries_0_ok 20 rfl) rfl ?_
        refine V_iload 4 (zdk tbX7_carries_0_ok 21 rfl) rfl ?_
        obtain ⟨b3, h⟩ := chk_some h
        refine V_iald (zdk tbX7_carries_0_ok 22 rfl) c_v1 b3 ?_
        obtain ⟨b4, h⟩ := chk_some h
        obtain ⟨μ5, e6, h⟩ := lt_some h
        refine V_iast (zdk tbX7_carries_0_ok 23 rfl) c_v2 b4 e6 ?_
        exact tX7_carries_b38 (fun v1 v2 v3 v4 v5 μ y0 y1 h => ih v1 v2 v3 v4 v5 μ y0 y1 h) v1 v2 v3 v4 v5 μ5 c_v1 c_v2 h
      · replace h := ite_f h c2
        refine V_aload_n 0 (zdk tbX7_carries_0_ok 7 rfl) rfl ?_
        refine V_iload 4 (zdk tbX7_carries_0_ok 8 rfl) rfl ?_
        refine V_aload_n 1 (zdk tbX7_carries_0_ok 9 rfl) rfl ?_
        refine V_iload_n 2 (zdk tbX7_carries_0_ok 10 rfl) rfl ?_
        refine V_iload 4 (zdk tbX7_carries_0_ok 11 rfl) rfl ?_
        refine V_iadd (zdk tbX7_carries_0_ok 12 rfl) ?_
        obtain ⟨b7, h⟩ := chk_some h
        refine V_iald (zdk tbX7_carries_0_ok 13 rfl) c_v2 b7 ?_
        obtain ⟨b8, h⟩ := chk_some h
        obtain ⟨μ9, e10, h⟩ := lt_some h
        refine V_iast (zdk tbX7_carries_0_ok 14 rfl) c_v1 b8 e10 ?_
        refine V_goto (tgt := 38) (zdk tbX7_carries_0_ok 15 rfl) (by decide) ?_
        exact tX7_carries_b38 (fun v1 v2 v3 v4 v5 μ y0 y1 h => ih v1 v2 v3 v4 v5 μ y0 y1 h) v1 v2 v3 v4 v5 μ9 c_v1 c_v2 h
def fX7_carries (n : Nat) (v0 : Nat) (v1 : Nat) (v2 : Nat) (v3 : Int32) (v4 : Int32) (μ : ZMem) : Option (ZMem × Int32) := chk (isC n 7 v0) (chk (isC n 100 v1) (chk (isC n 100 v2) ((fX7_carries_b3 n FU v1 v2 v3 v4 (0 : Int32) μ))))
theorem tX7_carries {l : Launch} {fr : Bool} {n : Nat} {v0 : Nat} {v1 : Nat} {v2 : Nat} {v3 : Int32} {v4 : Int32} {μ : ZMem} {z : ZMem × Int32} (h : fX7_carries n v0 v1 v2 v3 v4 μ = some z) : ZFn l mX7_carries (rmd 1) [.ref v0, .ref v1, .ref v2, .int v3, .int v4] fr n μ (fr, n, z.1, some (.int z.2)) := by
  unfold fX7_carries at h
  obtain ⟨c_v0, h⟩ := chk_some h
  obtain ⟨c_v1, h⟩ := chk_some h
  obtain ⟨c_v2, h⟩ := chk_some h
  refine ZFn.of (ls := [(0, .ref v0), (1, .ref v1), (2, .ref v2), (3, .int v3), (4, .int v4)]) (by decide) (fun ξ => Nat.le_of_ble_eq_true rfl) (fun ξ => rfl) ?_
  refine V_iconst (v := 0) (zdk tbX7_carries_0_ok 0 rfl) rfl ?_
  refine V_istore (ls' := [(1, .ref v1), (2, .ref v2), (3, .int v3), (4, .int v4), (5, .int (0 : Int32))]) [2, 3, 4, 5, 0] (zdk tbX7_carries_0_ok 1 rfl) (Nat.le_of_ble_eq_true rfl) rfl ?_
  exact tX7_carries_b3 FU v1 v2 v3 v4 (0 : Int32) μ c_v1 c_v2 h

-- WhoComplainsCarriesModel.all
def tbX7_all_0 : List (Nat × Instr × Nat) := [(0, .aload_n 0, 1), (1, .aload_n 0, 1), (2, .getfield 32, 3), (5, .aload_n 1, 1), (6, .iconst 0, 1), (7, .iload_n 2, 1), (8, .invokevirtual 172, 3), (11, .istore_n 3, 1), (12, .aload_n 0, 1), (13, .aload_n 0, 1), (14, .getfield 35, 3), (17, .aload_n 1, 1), (18, .iload_n 3, 1), (19, .iload_n 2, 1), (20, .invokevirtual 172, 3), (23, .istore_n 3, 1), (24, .aload_n 0, 1), (25, .aload_n 0, 1), (26, .getfield 38, 3), (29, .aload_n 1, 1), (30, .iload_n 3, 1), (31, .iload_n 2, 1), (32, .invokevirtual 172, 3), (35, .istore_n 3, 1), (36, .aload_n 0, 1), (37, .aload_n 0, 1), (38, .getfield 41, 3), (41, .aload_n 1, 1), (42, .iload_n 3, 1), (43, .iload_n 2, 1), (44, .invokevirtual 172, 3), (47, .istore_n 3, 1), (48, .aload_n 0, 1), (49, .aload_n 0, 1), (50, .getfield 44, 3), (53, .aload_n 1, 1), (54, .iload_n 3, 1), (55, .iload_n 2, 1), (56, .invokevirtual 172, 3), (59, .istore_n 3, 1), (60, .iload_n 2, 1), (61, .ifCond .eq 78, 3), (64, .aload_n 0, 1), (65, .aload_n 1, 1), (66, .iload_n 3, 1), (67, .iaload, 1), (68, .putfield 99, 3), (71, .aload_n 0, 1), (72, .aload_n 1, 1), (73, .iload_n 3, 1)]
theorem tbX7_all_0_ok : ∀ q ∈ tbX7_all_0, decode cX7_all q.1 = .ok (q.2.1, q.2.2) := by decide +kernel
def tbX7_all_1 : List (Nat × Instr × Nat) := [(74, .iconst 1, 1), (75, .iadd, 1), (76, .iaload, 1), (77, .putfield 7, 3), (80, .aload_n 0, 1), (81, .aload_n 1, 1), (82, .iload_n 3, 1), (83, .iconst 2, 1), (84, .iadd, 1), (85, .iaload, 1), (86, .putfield 13, 3), (89, .aload_n 0, 1), (90, .aload_n 1, 1), (91, .iload_n 3, 1), (92, .iconst 3, 1), (93, .iadd, 1), (94, .iaload, 1), (95, .putfield 130, 3), (98, .aload_n 0, 1), (99, .aload_n 1, 1), (100, .iload_n 3, 1), (101, .iconst 4, 1), (102, .iadd, 1), (103, .iaload, 1), (104, .putfield 16, 3), (107, .aload_n 0, 1), (108, .aload_n 1, 1), (109, .iload_n 3, 1), (110, .iconst 5, 1), (111, .iadd, 1), (112, .iaload, 1), (113, .putfield 176, 3), (116, .aload_n 0, 1), (117, .aload_n 1, 1), (118, .iload_n 3, 1), (119, .bipush 6, 2), (121, .iadd, 1), (122, .iaload, 1), (123, .putfield 19, 3), (126, .aload_n 0, 1), (127, .aload_n 1, 1), (128, .iload_n 3, 1), (129, .bipush 7, 2), (131, .iadd, 1), (132, .iaload, 1), (133, .putfield 22, 3), (136, .goto 75, 3), (139, .aload_n 1, 1), (140, .iload_n 3, 1), (141, .aload_n 0, 1)]
theorem tbX7_all_1_ok : ∀ q ∈ tbX7_all_1, decode cX7_all q.1 = .ok (q.2.1, q.2.2) := by decide +kernel
def tbX7_all_2 : List (Nat × Instr × Nat) := [(142, .getfield 99, 3), (145, .iastore, 1), (146, .aload_n 1, 1), (147, .iload_n 3, 1), (148, .iconst 1, 1), (149, .iadd, 1), (150, .aload_n 0, 1), (151, .getfield 7, 3), (154, .iastore, 1), (155, .aload_n 1, 1), (156, .iload_n 3, 1), (157, .iconst 2, 1), (158, .iadd, 1), (159, .aload_n 0, 1), (160, .getfield 13, 3), (163, .iastore, 1), (164, .aload_n 1, 1), (165, .iload_n 3, 1), (166, .iconst 3, 1), (167, .iadd, 1), (168, .aload_n 0, 1), (169, .getfield 130, 3), (172, .iastore, 1), (173, .aload_n 1, 1), (174, .iload_n 3, 1), (175, .iconst 4, 1), (176, .iadd, 1), (177, .aload_n 0, 1), (178, .getfield 16, 3), (181, .iastore, 1), (182, .aload_n 1, 1), (183, .iload_n 3, 1), (184, .iconst 5, 1), (185, .iadd, 1), (186, .aload_n 0, 1), (187, .getfield 176, 3), (190, .iastore, 1), (191, .aload_n 1, 1), (192, .iload_n 3, 1), (193, .bipush 6, 2), (195, .iadd, 1), (196, .aload_n 0, 1), (197, .getfield 19, 3), (200, .iastore, 1), (201, .aload_n 1, 1), (202, .iload_n 3, 1), (203, .bipush 7, 2), (205, .iadd, 1), (206, .aload_n 0, 1), (207, .getfield 22, 3)]
theorem tbX7_all_2_ok : ∀ q ∈ tbX7_all_2, decode cX7_all q.1 = .ok (q.2.1, q.2.2) := by decide +kernel
def tbX7_all_3 : List (Nat × Instr × Nat) := [(210, .iastore, 1), (211, .return_, 1)]
theorem tbX7_all_3_ok : ∀ q ∈ tbX7_all_3, decode cX7_all q.1 = .ok (q.2.1, q.2.2) := by decide +kernel
theorem wCX7_carries : zCW mX7_carries 4 := ⟨zin (i := 8) (by decide +kernel) rfl, zin (i := 1043) (by decide +kernel) rfl, by decide +kernel, by decide +kernel, by decide +kernel⟩
theorem sC7_172 : zCV RX7 172 mX7_carries 4 := ⟨zin (i := 1040) (by decide +kernel) rfl, zin (i := 1042) (by decide +kernel) rfl, zinP (i := 40) (q := (yX7_carries, 42)) (by decide +kernel) rfl, wCX7_carries⟩
theorem fF7_176 : zF RX7 176 7 5 := ⟨_, rfl, by decide, zin (i := 822) (by decide +kernel) rfl⟩
def fX7_all_b211 (n : Nat) (μ : ZMem) : Option (ZMem) := some μ
theorem tX7_all_b211 {l : Launch} {fr : Bool} {n : Nat} {z : ZMem} (μ : ZMem) (h : fX7_all_b211 n μ = some z) : V (zkV l mX7_all (rmd 2) fr n z) fr 211 [] [] n μ := by
  unfold fX7_all_b211 at h
  cases h
  exact V_vret (zdk tbX7_all_3_ok 1 rfl) rfl rfl
def fX7_all (n : Nat) (v0 : Nat) (v1 : Nat) (v2 : Int32) (μ : ZMem) : Option (ZMem) := chk (isC n 7 v0) (chk (isC n 100 v1) (bd1 (zRc n 100 μ v0 10) (fun r1 => bd2 (fX7_carries n v0 r1 v1 (0 : Int32) v2 μ) (fun μ4 r5 => bd1 (zRc n 100 μ4 v0 11) (fun r6 => bd2 (fX7_carries n v0 r6 v1 r5 v2 μ4) (fun μ9 r10 => bd1 (zRc n 100 μ9 v0 12) (fun r11 => bd2 (fX7_carries n v0 r11 v1 r10 v2 μ9) (fun μ14 r15 => bd1 (zRc n 100 μ14 v0 13) (fun r16 => bd2 (fX7_carries n v0 r16 v1 r15 v2 μ14) (fun μ19 r20 => bd1 (zRc n 100 μ19 v0 14) (fun r21 => bd2 (fX7_carries n v0 r21 v1 r20 v2 μ19) (fun μ24 r25 => (if v2 = 0 then chk (inb r25 v1) (lt (zpI μ24 v1 r25.toNatClampNeg (zI μ24 v0 0)) (fun μ28 => chk (inb (r25 + (1 : Int32)) v1) (lt (zpI μ28 v1 (r25 + (1 : Int32)).toNatClampNeg (zI μ28 v0 1)) (fun μ31 => chk (inb (r25 + (2 : Int32)) v1) (lt (zpI μ31 v1 (r25 + (2 : Int32)).toNatClampNeg (zI μ31 v0 2)) (fun μ34 => chk (inb (r25 + (3 : Int32)) v1) (lt (zpI μ34 v1 (r25 + (3 : Int32)).toNatClampNeg (zI μ34 v0 3)) (fun μ37 => chk (inb (r25 + (4 : Int32)) v1) (lt (zpI μ37 v1 (r25 + (4 : Int32)).toNatClampNeg (zI μ37 v0 4)) (fun μ40 => chk (inb (r25 + (5 : Int32)) v1) (lt (zpI μ40 v1 (r25 + (5 : Int32)).toNatClampNeg (zI μ40 v0 5)) (fun μ43 => chk (inb (r25 + (6 : Int32)) v1) (lt (zpI μ43 v1 (r25 + (6 : Int32)).toNatClampNeg (zI μ43 v0 6)) (fun μ46 => chk (inb (r25 + (7 : Int32)) v1) (lt (zpI μ46 v1 (r25 + (7 : Int32)).toNatClampNeg (zI μ46 v0 7)) (fun μ49 => (fX7_all_b211 n  μ49))))))))))))))))) else chk (inb r25 v1) (lt (zpI μ24 v0 0 (zI μ24 v1 r25.toNatClampNeg)) (fun μ52 => chk (inb (r25 + (1 : Int32)) v1) (lt (zpI μ52 v0 1 (zI μ52 v1 (r25 + (1 : Int32)).toNatClampNeg)) (fun μ55 => chk (inb (r25 + (2 : Int32)) v1) (lt (zpI μ55 v0 2 (zI μ55 v1 (r25 + (2 : Int32)).toNatClampNeg)) (fun μ58 => chk (inb (r25 + (3 : Int32)) v1) (lt (zpI μ58 v0 3 (zI μ58 v1 (r25 + (3 : Int32)).toNatClampNeg)) (fun μ61 => chk (inb (r25 + (4 : Int32)) v1) (lt (zpI μ61 v0 4 (zI μ61 v1 (r25 + (4 : Int32)).toNatClampNeg)) (fun μ64 => chk (inb (r25 + (5 : Int32)) v1) (lt (zpI μ64 v0 5 (zI μ64 v1 (r25 + (5 : Int32)).toNatClampNeg)) (fun μ67 => chk (inb (r25 + (6 : Int32)) v1) (lt (zpI μ67 v0 6 (zI μ67 v1 (r25 + (6 : Int32)).toNatClampNeg)) (fun μ70 => chk (inb (r25 + (7 : Int32)) v1) (lt (zpI μ70 v0 7 (zI μ70 v1 (r25 + (7 : Int32)).toNatClampNeg)) (fun μ73 => (fX7_all_b211 n  μ73))))))))))))))))))))))))))))))
theorem tX7_all {l : Launch} {fr : Bool} {n : Nat} {v0 : Nat} {v1 : Nat} {v2 : Int32} {μ : ZMem} {z : ZMem} (h : fX7_all n v0 v1 v2 μ = some z) : ZFn l mX7_all (rmd 2) [.ref v0, .ref v1, .int v2] fr n μ (fr, n, z, none) := by
  unfold fX7_all at h
  obtain ⟨c_v0, h⟩ := chk_some h
  obtain ⟨c_v1, h⟩ := chk_some h
  refine ZFn.of (ls := [(0, .ref v0), (1, .ref v1), (2, .int v2)]) (by decide) (fun ξ => Nat.le_of_ble_eq_true rfl) (fun ξ => rfl) ?_
  refine V_aload_n 0 (zdk tbX7_all_0_ok 0 rfl) rfl ?_
  refine V_aload_n 0 (zdk tbX7_all_0_ok 1 rfl) rfl ?_
  obtain ⟨r1, q2, h⟩ := bd1_some h
  obtain ⟨q2, c_r1⟩ := zRc_some q2
  refine V_getR (zdk tbX7_all_0_ok 2 rfl) c_v0 fF7_32 rfl q2 ?_
  refine V_aload_n 1 (zdk tbX7_all_0_ok 3 rfl) rfl ?_
  refine V_iconst (v := 0) (zdk tbX7_all_0_ok 4 rfl) rfl ?_
  refine V_iload_n 2 (zdk tbX7_all_0_ok 5 rfl) rfl ?_
  obtain ⟨μ4, r5, q3, h⟩ := bd2_some h
  refine V_callV (R1 := (rmd 1)) (As := [.ref r1, .ref v1, .int (0 : Int32), .int v2]) (r := (some (.int r5))) (zdk tbX7_all_0_ok 6 rfl) sC7_172 (tX7_carries q3) (c_v0) rfl rfl rfl ⟨Nat.le_of_ble_eq_true rfl, Nat.le_of_ble_eq_true rfl⟩ (Nat.le_of_ble_eq_true rfl) ⟨rfl, rfl⟩ id ?_
  refine V_istore_n (ls' := [(0, .ref v0), (1, .ref v1), (2, .int v2), (3, .int r5)]) [1, 2, 3, 0] (zdk tbX7_all_0_ok 7 rfl) (Nat.le_of_ble_eq_true rfl) rfl ?_
  refine V_aload_n 0 (zdk tbX7_all_0_ok 8 rfl) rfl ?_
  refine V_aload_n 0 (zdk tbX7_all_0_ok 9 rfl) rfl ?_
  obtain ⟨r6, q7, h⟩ := bd1_some h
  obtain ⟨q7, c_r6⟩ := zRc_some q7
  refine V_getR (zdk tbX7_all_0_ok 10 rfl) c_v0 fF7_35 rfl q7 ?_
  refine V_aload_n 1 (zdk tbX7_all_0_ok 11 rfl) rfl ?_
  refine V_iload_n 3 (zdk tbX7_all_0_ok 12 rfl) rfl ?_
  refine V_iload_n 2 (zdk tbX7_all_0_ok 13 rfl) rfl ?_
  obtain ⟨μ9, r10, q8, h⟩ := bd2_some h
  refine V_callV (R1 := (rmd 1)) (As := [.ref r6, .ref v1, .int r5, .int v2]) (r := (some (.int r10))) (zdk tbX7_all_0_ok 14 rfl) sC7_172 (tX7_carries q8) (c_v0) rfl rfl rfl ⟨Nat.le_of_ble_eq_true rfl, Nat.le_of_ble_eq_true rfl⟩ (Nat.le_of_ble_eq_true rfl) ⟨rfl, rfl⟩ id ?_
  refine V_istore_n (ls' := [(0, .ref v0), (1, .ref v1), (2, .int v2), (3, .int r10)]) [1, 2, 3, 0] (zdk tbX7_all_0_ok 15 rfl) (Nat.le_of_ble_eq_true rfl) rfl ?_
  refine V_aload_n 0 (zdk tbX7_all_0_ok 16 rfl) rfl ?_
  refine V_aload_n 0 (zdk tbX7_all_0_ok 17 rfl) rfl ?_
  obtain ⟨r11, q12, h⟩ := bd1_some h
  obtain ⟨q12, c_r11⟩ := zRc_some q12
  refine V_getR (zdk tbX7_all_0_ok 18 rfl) c_v0 fF7_38 rfl q12 ?_
  refine V_aload_n 1 (zdk tbX7_all_0_ok 19 rfl) rfl ?_
  refine V_iload_n 3 (zdk tbX7_all_0_ok 20 rfl) rfl ?_
  refine V_iload_n 2 (zdk tbX7_all_0_ok 21 rfl) rfl ?_
  obtain ⟨μ14, r15, q13, h⟩ := bd2_some h
  refine V_callV (R1 := (rmd 1)) (As := [.ref r11, .ref v1, .int r10, .int v2]) (r := (some (.int r15))) (zdk tbX7_all_0_ok 22 rfl) sC7_172 (tX7_carries q13) (c_v0) rfl rfl rfl ⟨Nat.le_of_ble_eq_true rfl, Nat.le_of_ble_eq_true rfl⟩ (Nat.le_of_ble_eq_true rfl) ⟨rfl, rfl⟩ id ?_
  refine V_istore_n (ls' := [(0, .ref v0), (1, .ref v1), (2, .int v2), (3, .int r15)]) [1, 2, 3, 0] (zdk tbX7_all_0_ok 23 rfl) (Nat.le_of_ble_eq_true rfl) rfl ?_
  refine V_aload_n 0 (zdk tbX7_all_0_ok 24 rfl) rfl ?_
  refine V_aload_n 0 (zdk tbX7_all_0_ok 25 rfl) rfl ?_
  obtain ⟨r16, q17, h⟩ := bd1_some h
  obtain ⟨q17, c_r16⟩ := zRc_some q17
  refine V_getR (zdk tbX7_all_0_ok 26 rfl) c_v0 fF7_41 rfl q17 ?_
  refine V_aload_n 1 (zdk tbX7_all_0_ok 27 rfl) rfl ?_
  refine V_iload_n 3 (zdk tbX7_all_0_ok 28 rfl) rfl ?_
  refine V_iload_n 2 (zdk tbX7_all_0_ok 29 rfl) rfl ?_
  obtain ⟨μ19, r20, q18, h⟩ := bd2_some h
  refine V_callV (R1 := (rmd 1)) (As := [.ref r16, .ref v1, .int r15, .int v2]) (r := (some (.int r20))) (zdk tbX7_all_0_ok 30 rfl) sC7_172 (tX7_carries q18) (c_v0) rfl rfl rfl ⟨Nat.le_of_ble_eq_true rfl, Nat.le_of_ble_eq_true rfl⟩ (Nat.le_of_ble_eq_true rfl) ⟨rfl, rfl⟩ id ?_
  refine V_istore_n (ls' := [(0, .ref v0), (1, .ref v1), (2, .int v2), (3, .int r20)]) [1, 2, 3, 0] (zdk tbX7_all_0_ok 31 rfl) (Nat.le_of_ble_eq_true rfl) rfl ?_
  refine V_aload_n 0 (zdk tbX7_all_0_ok 32 rfl) rfl ?_
  refine V_aload_n 0 (zdk tbX7_all_0_ok 33 rfl) rfl ?_
  obtain ⟨r21, q22, h⟩ := bd1_some h
  obtain ⟨q22, c_r21⟩ := zRc_some q22
  refine V_getR (zdk tbX7_all_0_ok 34 rfl) c_v0 fF7_44 rfl q22 ?_
  refine V_aload_n 1 (zdk tbX7_all_0_ok 35 rfl) rfl ?_
  refine V_iload_n 3 (zdk tbX7_all_0_ok 36 rfl) rfl ?_
  refine V_iload_n 2 (zdk tbX7_all_0_ok 37 rfl) rfl ?_
  obtain ⟨μ24, r25, q23, h⟩ := bd2_some h
  refine V_callV (R1 := (rmd 1)) (As := [.ref r21, .ref v1, .int r20, .int v2]) (r := (some (.int r25))) (zdk tbX7_all_0_ok 38 rfl) sC7_172 (tX7_carries q23) (c_v0) rfl rfl rfl ⟨Nat.le_of_ble_eq_true rfl, Nat.le_of_ble_eq_true rfl⟩ (Nat.le_of_ble_eq_true rfl) ⟨rfl, rfl⟩ id ?_
  refine V_istore_n (ls' := [(0, .ref v0), (1, .ref v1), (2, .int v2), (3, .int r25)]) [1, 2, 3, 0] (zdk tbX7_all_0_ok 39 rfl) (Nat.le_of_ble_eq_true rfl) rfl ?_
  refine V_iload_n 2 (zdk tbX7_all_0_ok 40 rfl) rfl ?_
  refine V_if_eq (tgt := 139) (zdk tbX7_all_0_ok 41 rfl) (by decide) (fun c26 => ?_) (fun c26 => ?_)
  · replace h := ite_t h c26
    refine V_aload_n 1 (zdk tbX7_all_1_ok 47 rfl) rfl ?_
    refine V_iload_n 3 (zdk tbX7_all_1_ok 48 rfl) rfl ?_
    refine V_aload_n 0 (zdk tbX7_all_1_ok 49 rfl) rfl ?_
    refine V_getI (zdk tbX7_all_2_ok 0 rfl) c_v0 fF7_99 rfl ?_
    obtain ⟨b27, h⟩ := chk_some h
    obtain ⟨μ28, e29, h⟩ := lt_some h
    refine V_iast (zdk tbX7_all_2_ok 1 rfl) c_v1 b27 e29 ?_
    refine V_aload_n 1 (zdk tbX7_all_2_ok 2 rfl) rfl ?_
    refine V_iload_n 3 (zdk tbX7_all_2_ok 3 rfl) rfl ?_
    refine V_iconst (v := 1) (zdk tbX7_all_2_ok 4 rfl) rfl ?_
    refine V_iadd (zdk tbX7_all_2_ok 5 rfl) ?_
    refine V_aload_n 0 (zdk tbX7_all_2_ok 6 rfl) rfl ?_
    refine V_getI (zdk tbX7_all_2_ok 7 rfl) c_v0 fF7_7 rfl ?_
    obtain ⟨b30, h⟩ := chk_some h
    obtain ⟨μ31, e32, h⟩ := lt_some h
    refine V_iast (zdk tbX7_all_2_ok 8 rfl) c_v1 b30 e32 ?_
    refine V_aload_n 1 (zdk tbX7_all_2_ok 9 rfl) rfl ?_
    refine V_iload_n 3 (zdk tbX7_all_2_ok 10 rfl) rfl ?_
    refine V_iconst (v := 2) (zdk tbX7_all_2_ok 11 rfl) rfl ?_
    refine V_iadd (zdk tbX7_all_2_ok 12 rfl) ?_
    refine V_aload_n 0 (zdk tbX7_all_2_ok 13 rfl) rfl ?_
    refine V_getI (zdk tbX7_all_2_ok 14 rfl) c_v0 fF7_13 rfl ?_
    obtain ⟨b33, h⟩ := chk_some h
    obtain ⟨μ34, e35, h⟩ := lt_some h
    refine V_iast (zdk tbX7_all_2_ok 15 rfl) c_v1 b33 e35 ?_
    refine V_aload_n 1 (zdk tbX7_all_2_ok 16 rfl) rfl ?_
    refine V_iload_n 3 (zdk tbX7_all_2_ok 17 rfl) rfl ?_
    refine V_iconst (v := 3) (zdk tbX7_all_2_ok 18 rfl) rfl ?_
    refine V_iadd (zdk tbX7_all_2_ok 19 rfl) ?_
    refine V_aload_n 0 (zdk tbX7_all_2_ok 20 rfl) rfl ?_
    refine V_getI (zdk tbX7_all_2_ok 21 rfl) c_v0 fF7_130 rfl ?_
    obtain ⟨b36, h⟩ := chk_some h
    obtain ⟨μ37, e38, h⟩ := lt_some h
    refine V_iast (zdk tbX7_all_2_ok 22 rfl) c_v1 b36 e38 ?_
    refine V_aload_n 1 (zdk tbX7_all_2_ok 23 rfl) rfl ?_
    refine V_iload_n 3 (zdk tbX7_all_2_ok 24 rfl) rfl ?_
    refine V_iconst (v := 4) (zdk tbX7_all_2_ok 25 rfl) rfl ?_
    refine V_iadd (zdk tbX7_all_2_ok 26 rfl) ?_
    refine V_aload_n 0 (zdk tbX7_all_2_ok 27 rfl) rfl ?_
    refine V_getI (zdk tbX7_all_2_ok 28 rfl) c_v0 fF7_16 rfl ?_
    obtain ⟨b39, h⟩ := chk_some h
    obtain ⟨μ40, e41, h⟩ := lt_some h
    refine V_iast (zdk tbX7_all_2_ok 29 rfl) c_v1 b39 e41 ?_
    refine V_aload_n 1 (zdk tbX7_all_2_ok 30 rfl) rfl ?_
    refine V_iload_n 3 (zdk tbX7_all_2_ok 31 rfl) rfl ?_
    refine V_iconst (v := 5) (zdk tbX7_all_2_ok 32 rfl) rfl ?_
    refine V_iadd (zdk tbX7_all_2_ok 33 rfl) ?_
    refine V_aload_n 0 (zdk tbX7_all_2_ok 34 rfl) rfl ?_
    refine V_getI (zdk tbX7_all_2_ok 35 rfl) c_v0 fF7_176 rfl ?_
    obtain ⟨b42, h⟩ := chk_some h
    obtain ⟨μ43, e44, h⟩ := lt_some h
    refine V_iast (zdk tbX7_all_2_ok 36 rfl) c_v1 b42 e44 ?_
    refine V_aload_n 1 (zdk tbX7_all_2_ok 37 rfl) rfl ?_
    refine V_iload_n 3 (zdk tbX7_all_2_ok 38 rfl) rfl ?_
    refine V_bipush (v := 6) (zdk tbX7_all_2_ok 39 rfl) rfl ?_
    refine V_iadd (zdk tbX7_all_2_ok 40 rfl) ?_
    refine V_aload_n 0 (zdk tbX7_all_2_ok 41 rfl) rfl ?_
    refine V_getI (zdk tbX7_all_2_ok 42 rfl) c_v0 fF7_19 rfl ?_
    obtain ⟨b45, h⟩ := chk_some h
    obtain ⟨μ46, e47, h⟩ := lt_some h
    refine V_iast (zdk tbX7_all_2_ok 43 rfl) c_v1 b45 e47 ?_
    refine V_aload_n 1 (zdk tbX7_all_2_ok 44 rfl) rfl ?_
    refine V_iload_n 3 (zdk tbX7_all_2_ok 45 rfl) rfl ?_
    refine V_bipush (v := 7) (zdk tbX7_all_2_ok 46 rfl) rfl ?_
    refine V_iadd (zdk tbX7_all_2_ok 47 rfl) ?_
    refine V_aload_n 0 (zdk tbX7_all_2_ok 48 rfl) rfl ?_
    refine V_getI (zdk tbX7_all_2_ok 49 rfl) c_v0 fF7_22 rfl ?_
    obtain ⟨b48, h⟩ := chk_some h
    obtain ⟨μ49, e50, h⟩ := lt_some h
    refine V_iast (zdk tbX7_all_3_ok 0 rfl) c_v1 b48 e50 ?_
    refine V_sub (ls' := []) [] rfl ?_
    exact tX7_all_b211  μ49  h
  · replace h := ite_f h c26
    refine V_aload_n 0 (zdk tbX7_all_0_ok 42 rfl) rfl ?_
    refine V_aload_n 1 (zdk tbX7_all_0_ok 43 rfl) rfl ?_
    refine V_iload_n 3 (zdk tbX7_all_0_ok 44 rfl) rfl ?_
    obtain ⟨b51, h⟩ := chk_some h
    refine V_iald (zdk tbX7_all_0_ok 45 rfl) c_v1 b51 ?_
    obtain ⟨μ52, e53, h⟩ := lt_some h
    refine V_putI (zdk tbX7_all_0_ok 46 rfl) c_v0 fF7_99 rfl rfl rfl e53 ?_
    refine V_aload_n 0 (zdk tbX7_all_0_ok 47 rfl) rfl ?_
    refine V_aload_n 1 (zdk tbX7_all_0_ok 48 rfl) rfl ?_
    refine V_iload_n 3 (zdk tbX7_all_0_ok 49 rfl) rfl ?_
    refine V_iconst (v := 1) (zdk tbX7_all_1_ok 0 rfl) rfl ?_
    refine V_iadd (zdk tbX7_all_1_ok 1 rfl) ?_
    obtain ⟨b54, h⟩ := chk_some h
    refine V_iald (zdk tbX7_all_1_ok 2 rfl) c_v1 b54 ?_
    obtain ⟨μ55, e56, h⟩ := lt_some h
    refine V_putI (zdk tbX7_all_1_ok 3 rfl) c_v0 fF7_7 rfl rfl rfl e56 ?_
    refine V_aload_n 0 (zdk tbX7_all_1_ok 4 rfl) rfl ?_
    refine V_aload_n 1 (zdk tbX7_all_1_ok 5 rfl) rfl ?_
    refine V_iload_n 3 (zdk tbX7_all_1_ok 6 rfl) rfl ?_
    refine V_iconst (v := 2) (zdk tbX7_all_1_ok 7 rfl) rfl ?_
    refine V_iadd (zdk tbX7_all_1_ok 8 rfl) ?_
    obtain ⟨b57, h⟩ := chk_some h
    refine V_iald (zdk tbX7_all_1_ok 9 rfl) c_v1 b57 ?_
    obtain ⟨μ58, e59, h⟩ := lt_some h
    refine V_putI (zdk tbX7_all_1_ok 10 rfl) c_v0 fF7_13 rfl rfl rfl e59 ?_
    refine V_aload_n 0 (zdk tbX7_all_1_ok 11 rfl) rfl ?_
    refine V_aload_n 1 (zdk tbX7_all_1_ok 12 rfl) rfl ?_
    refine V_iload_n 3 (zdk tbX7_all_1_ok 13 rfl) rfl ?_
    refine V_iconst (v := 3) (zdk tbX7_all_1_ok 14 rfl) rfl ?_
    refine V_iadd (zdk tbX7_all_1_ok 15 rfl) ?_
    obtain ⟨b60, h⟩ := chk_some h
    refine V_iald (zdk tbX7_all_1_ok 16 rfl) c_v1 b60 ?_
    obtain ⟨μ61, e62, h⟩ := lt_some h
    refine V_putI (zdk tbX7_all_1_ok 17 rfl) c_v0 fF7_130 rfl rfl rfl e62 ?_
    refine V_aload_n 0 (zdk tbX7_all_1_ok 18 rfl) rfl ?_
    refine V_aload_n 1 (zdk tbX7_all_1_ok 19 rfl) rfl ?_
    refine V_iload_n 3 (zdk tbX7_all_1_ok 20 rfl) rfl ?_
    refine V_iconst (v := 4) (zdk tbX7_all_1_ok 21 rfl) rfl ?_
    refine V_iadd (zdk tbX7_all_1_ok 22 rfl) ?_
    obtain ⟨b63, h⟩ := chk_some h
    refine V_iald (zdk tbX7_all_1_ok 23 rfl) c_v1 b63 ?_
    obtain ⟨μ64, e65, h⟩ := lt_some h
    refine V_putI (zdk tbX7_all_1_ok 24 rfl) c_v0 fF7_16 rfl rfl rfl e65 ?_
    refine V_aload_n 0 (zdk tbX7_all_1_ok 25 rfl) rfl ?_
    refine V_aload_n 1 (zdk tbX7_all_1_ok 26 rfl) rfl ?_
    refine V_iload_n 3 (zdk tbX7_all_1_ok 27 rfl) rfl ?_
    refine V_iconst (v := 5) (zdk tbX7_all_1_ok 28 rfl) rfl ?_
    refine V_iadd (zdk tbX7_all_1_ok 29 rfl) ?_
    obtain ⟨b66, h⟩ := chk_some h
    refine V_iald (zdk tbX7_all_1_ok 30 rfl) c_v1 b66 ?_
    obtain ⟨μ67, e68, h⟩ := lt_some h
    refine V_putI (zdk tbX7_all_1_ok 31 rfl) c_v0 fF7_176 rfl rfl rfl e68 ?_
    refine V_aload_n 0 (zdk tbX7_all_1_ok 32 rfl) rfl ?_
    refine V_aload_n 1 (zdk tbX7_all_1_ok 33 rfl) rfl ?_
    refine V_iload_n 3 (zdk tbX7_all_1_ok 34 rfl) rfl ?_
    refine V_bipush (v := 6) (zdk tbX7_all_1_ok 35 rfl) rfl ?_
    refine V_iadd (zdk tbX7_all_1_ok 36 rfl) ?_
    obtain ⟨b69, h⟩ := chk_some h
    refine V_iald (zdk tbX7_all_1_ok 37 rfl) c_v1 b69 ?_
    obtain ⟨μ70, e71, h⟩ := lt_some h
    refine V_putI (zdk tbX7_all_1_ok 38 rfl) c_v0 fF7_19 rfl rfl rfl e71 ?_
    refine V_aload_n 0 (zdk tbX7_all_1_ok 39 rfl) rfl ?_
    refine V_aload_n 1 (zdk tbX7_all_1_ok 40 rfl) rfl ?_
    refine V_iload_n 3 (zdk tbX7_all_1_ok 41 rfl) rfl ?_
    refine V_bipush (v := 7) (zdk tbX7_all_1_ok 42 rfl) rfl ?_
    refine V_iadd (zdk tbX7_all_1_ok 43 rfl) ?_
    obtain ⟨b72, h⟩ := chk_some h
    refine V_iald (zdk tbX7_all_1_ok 44 rfl) c_v1 b72 ?_
    obtain ⟨μ73, e74, h⟩ := lt_some h
    refine V_putI (zdk tbX7_all_1_ok 45 rfl) c_v0 fF7_22 rfl rfl rfl e74 ?_
    refine V_goto (tgt := 211) (zdk tbX7_all_1_ok 46 rfl) (by decide) ?_
    refine V_sub (ls' := []) [] rfl ?_
    exact tX7_all_b211  μ73  h

-- WhoComplainsCarriesModel.vow
def tbX7_vow_0 : List (Nat × Instr × Nat) := [(0, .aload_n 0, 1), (1, .iload_n 1, 1), (2, .invokevirtual 179, 3), (5, .istore_n 2, 1), (6, .iload_n 2, 1), (7, .ifCond .eq 9, 3), (10, .aload_n 0, 1), (11, .iload_n 2, 1), (12, .invokevirtual 106, 3), (15, .ireturn, 1), (16, .aload_n 0, 1), (17, .aload_n 0, 1), (18, .getfield 78, 3), (21, .iconst 0, 1), (22, .invokevirtual 182, 3), (25, .aload_n 0, 1), (26, .sipush 160, 3), (29, .iload_n 1, 1), (30, .imul, 1), (31, .putfield 145, 3), (34, .aload_n 0, 1), (35, .iconst 0, 1), (36, .putfield 139, 3), (39, .aload_n 0, 1), (40, .aload_n 0, 1), (41, .getfield 53, 3), (44, .iload_n 1, 1), (45, .iaload, 1), (46, .putfield 142, 3), (49, .aload_n 0, 1), (50, .iconst (-1), 1), (51, .putfield 25, 3), (54, .iconst 1, 1), (55, .istore_n 3, 1), (56, .aload_n 0, 1), (57, .invokevirtual 186, 3), (60, .istore 4, 2), (62, .iload 4, 2), (64, .ifCond .eq 69, 3), (67, .aload_n 0, 1), (68, .getfield 139, 3), (71, .aload_n 0, 1), (72, .getfield 142, 3), (75, .if_icmp .ge 58, 3), (78, .aload_n 0, 1), (79, .getfield 59, 3), (82, .aload_n 0, 1), (83, .getfield 145, 3), (86, .aload_n 0, 1), (87, .getfield 139, 3)]
theorem tbX7_vow_0_ok : ∀ q ∈ tbX7_vow_0, decode cX7_vow q.1 = .ok (q.2.1, q.2.2) := by decide +kernel
def tbX7_vow_1 : List (Nat × Instr × Nat) := [(90, .iadd, 1), (91, .laload, 1), (92, .l2i, 1), (93, .bipush 59, 2), (95, .if_icmp .eq 16, 3), (98, .aload_n 0, 1), (99, .aload_n 0, 1), (100, .getfield 139, 3), (103, .invokevirtual 155, 3), (106, .istore 4, 2), (108, .goto (-46), 3), (111, .aload_n 0, 1), (112, .dup, 1), (113, .getfield 139, 3), (116, .iconst 1, 1), (117, .iadd, 1), (118, .putfield 139, 3), (121, .iinc 3 1, 3), (124, .aload_n 0, 1), (125, .invokevirtual 186, 3), (128, .istore 4, 2), (130, .goto (-68), 3), (133, .iload 4, 2), (135, .ifCond .eq 5, 3), (138, .iload_n 3, 1), (139, .ireturn, 1), (140, .aload_n 0, 1), (141, .aload_n 0, 1), (142, .getfield 78, 3), (145, .iconst 1, 1), (146, .invokevirtual 182, 3), (149, .aload_n 0, 1), (150, .aload_n 0, 1), (151, .getfield 136, 3), (154, .putfield 25, 3), (157, .aload_n 0, 1), (158, .bipush (-6), 2), (160, .invokevirtual 106, 3), (163, .ireturn, 1)]
theorem tbX7_vow_1_ok : ∀ q ∈ tbX7_vow_1, decode cX7_vow q.1 = .ok (q.2.1, q.2.2) := by decide +kernel
theorem wCX7_all : zCW mX7_all 2 := ⟨zin (i := 8) (by decide +kernel) rfl, zin (i := 1039) (by decide +kernel) rfl, by decide +kernel, by decide +kernel, by decide +kernel⟩
theorem sC7_182 : zCV RX7 182 mX7_all 2 := ⟨zin (i := 1036) (by decide +kernel) rfl, zin (i := 1038) (by decide +kernel) rfl, zinP (i := 39) (q := (yX7_all, 42)) (by decide +kernel) rfl, wCX7_all⟩
theorem wCX7_item : zCW mX7_item 0 := ⟨zin (i := 8) (by decide +kernel) rfl, zin (i := 1047) (by decide +kernel) rfl, by decide +kernel, by decide +kernel, by decide +kernel⟩
theorem sC7_186 : zCV RX7 186 mX7_item 0 := ⟨zin (i := 1044) (by decide +kernel) rfl, zin (i := 1046) (by decide +kernel) rfl, zinP (i := 41) (q := (yX7_item, 42)) (by decide +kernel) rfl, wCX7_item⟩
theorem wCX7_wanted : zCW mX7_wanted 1 := ⟨zin (i := 8) (by decide +kernel) rfl, zin (i := 1035) (by decide +kernel) rfl, by decide +kernel, by decide +kernel, by decide +kernel⟩
theorem sC7_179 : zCV RX7 179 mX7_wanted 1 := ⟨zin (i := 1032) (by decide +kernel) rfl, zin (i := 1034) (by decide +kernel) rfl, zinP (i := 38) (q := (yX7_wanted, 42)) (by decide +kernel) rfl, wCX7_wanted⟩
def fX7_vow_b133 (n : Nat) (v0 : Nat) (v3 : Int32) (v4 : Int32) (μ : ZMem) : Option (ZMem × Int32) := (if v4 = 0 then bd1 (zRc n 100 μ v0 30) (fun r2 => bd1 (fX7_all n v0 r2 (1 : Int32) μ) (fun μ5 => lt (zpI μ5 v0 8 (zI μ5 v0 29)) (fun μ6 => bd2 (fX7_no n v0 (-6 : Int32) μ6) (fun μ9 r10 => some (μ9, r10))))) else some (μ, v3))
theorem tX7_vow_b133 {l : Launch} {fr : Bool} {n : Nat} {z : ZMem × Int32} (v0 : Nat) (v3 : Int32) (v4 : Int32) (μ : ZMem) (c_v0 : isC n 7 v0 = true) (h : fX7_vow_b133 n v0 v3 v4 μ = some z) : V (zkI l mX7_vow (rmd 4) fr n z) fr 133 [(0, .ref v0), (3, .int v3), (4, .int v4)] [] n μ := by
  unfold fX7_vow_b133 at h
  refine V_iload 2 (zdk tbX7_vow_1_ok 22 rfl) rfl ?_
  refine V_if_eq (tgt := 140) (zdk tbX7_vow_1_ok 23 rfl) (by decide) (fun c1 => ?_) (fun c1 => ?_)
  · replace h := ite_t h c1
    refine V_aload_n 0 (zdk tbX7_vow_1_ok 26 rfl) rfl ?_
    refine V_aload_n 0 (zdk tbX7_vow_1_ok 27 rfl) rfl ?_
    obtain ⟨r2, q3, h⟩ := bd1_some h
    obtain ⟨q3, c_r2⟩ := zRc_some q3
    refine V_getR (zdk tbX7_vow_1_ok 28 rfl) c_v0 fF7_78 rfl q3 ?_
    refine V_iconst (v := 1) (zdk tbX7_vow_1_ok 29 rfl) rfl ?_
    obtain ⟨μ5, q4, h⟩ := bd1_some h
    refine V_callV (R1 := (rmd 2)) (As := [.ref r2, .int (1 : Int32)]) (r := none) (zdk tbX7_vow_1_ok 30 rfl) sC7_182 (tX7_all q4) (c_v0) rfl rfl rfl ⟨Nat.le_of_ble_eq_true rfl, Nat.le_of_ble_eq_true rfl⟩ (Nat.le_of_ble_eq_true rfl) ⟨rfl, rfl⟩ id ?_
    refine V_aload_n 0 (zdk tbX7_vow_1_ok 31 rfl) rfl ?_
    refine V_aload_n 0 (zdk tbX7_vow_1_ok 32 rfl) rfl ?_
    refine V_getI (zdk tbX7_vow_1_ok 33 rfl) c_v0 fF7_136 rfl ?_
    obtain ⟨μ6, e7, h⟩ := lt_some h
    refine V_putI (zdk tbX7_vow_1_ok 34 rfl) c_v0 fF7_25 rfl rfl rfl e7 ?_
    refine V_aload_n 0 (zdk tbX7_vow_1_ok 35 rfl) rfl ?_
    refine V_bipush (v := (-6)) (zdk tbX7_vow_1_ok 36 rfl) rfl ?_
    obtain ⟨μ9, r10, q8, h⟩ := bd2_some h
    refine V_callV (R1 := (rmd 1)) (As := [.int (-6 : Int32)]) (r := (some (.int r10))) (zdk tbX7_vow_1_ok 37 rfl) sC7_106 (tX7_no q8) (c_v0) rfl rfl rfl ⟨Nat.le_of_ble_eq_true rfl, Nat.le_of_ble_eq_true rfl⟩ (Nat.le_of_ble_eq_true rfl) ⟨rfl, rfl⟩ id ?_
    cases h
    exact V_iret (zdk tbX7_vow_1_ok 38 rfl) rfl rfl
  · replace h := ite_f h c1
    refine V_iload_n 1 (zdk tbX7_vow_1_ok 24 rfl) rfl ?_
    cases h
    exact V_iret (zdk tbX7_vow_1_ok 25 rfl) rfl rfl
def fX7_vow_b62 (n : Nat) : Nat → Nat → Int32 → Int32 → ZMem → Option (ZMem × Int32)
  | 0, _, _, _, _ => none
  | k + 1, v0, v3, v4, μ => (if v4 = 0 then (fX7_vow_b133 n v0 v3 v4 μ) else (if (zI μ v0 27) ≤ (zI μ v0 26) then (fX7_vow_b133 n v0 v3 v4 μ) else bd1 (zRc n 101 μ v0 19) (fun r3 => chk (inb ((zI μ v0 25) + (zI μ v0 26)) r3) ((if ((zL μ r3 ((zI μ v0 25) + (zI μ v0 26)).toNatClampNeg).toInt32) = (59 : Int32) then lt (zpI μ v0 26 ((zI μ v0 26) + (1 : Int32))) (fun μ7 => bd2 (fX7_item n v0 μ7) (fun μ10 r11 => (fX7_vow_b62 n k v0 (v3 + (1 : Int32)) r11 μ10))) else bd2 (fX7_wrong n v0 (zI μ v0 26) μ) (fun μ13 r14 => (fX7_vow_b62 n k v0 v3 r14 μ13)))))))
theorem tX7_vow_b62 {l : Launch} {fr : Bool} {n : Nat} {z : ZMem × Int32} : ∀ (k : Nat) (v0 : Nat) (v3 : Int32) (v4 : Int32) (μ : ZMem) (c_v0 : isC n 7 v0 = true), fX7_vow_b62 n k v0 v3 v4 μ = some z → V (zkI l mX7_vow (rmd 4) fr n z) fr 62 [(0, .ref v0), (3, .int v3), (4, .int v4)] [] n μ := by
  intro k
  induction k with
  | zero =>
    intro v0 v3 v4 μ c_v0 h
    unfold fX7_vow_b62 at h
    cases h
  | succ k ih =>
    intro v0 v3 v4 μ c_v0 h
    unfold fX7_vow_b62 at h
    refine V_iload 2 (zdk tbX7_vow_0_ok 37 rfl) rfl ?_
    refine V_if_eq (tgt := 133) (zdk tbX7_vow_0_ok 38 rfl) (by decide) (fun c1 => ?_) (fun c1 => ?_)
    · replace h := ite_t h c1
      exact tX7_vow_b133 v0 v3 v4 μ c_v0 h
    · replace h := ite_f h c1
      refine V_aload_n 0 (zdk tbX7_vow_0_ok 39 rfl) rfl ?_
      refine V_getI (zdk tbX7_vow_0_ok 40 rfl) c_v0 fF7_139 rfl ?_
      refine V_aload_n 0 (zdk tbX7_vow_0_ok 41 rfl) rfl ?_
      refine V_getI (zdk tbX7_vow_0_ok 42 rfl) c_v0 fF7_142 rfl ?_
      refine V_icmp_ge (tgt := 133) (zdk tbX7_vow_0_ok 43 rfl) (by decide) (fun c2 => ?_) (fun c2 => ?_)
      · replace h := ite_t h c2
        exact tX7_vow_b133 v0 v3 v4 μ c_v0 h
      · replace h := ite_f h c2
        refine V_aload_n 0 (zdk tbX7_vow_0_ok 44 rfl) rfl ?_
        obtain ⟨r3, q4, h⟩ := bd1_some h
        obtain ⟨q4, c_r3⟩ := zRc_some q4
        refine V_getR (zdk tbX7_vow_0_ok 45 rfl) c_v0 fF7_59 rfl q4 ?_
        refine V_aload_n 0 (zdk tbX7_vow_0_ok 46 rfl) rfl ?_
        refine V_getI (zdk tbX7_vow_0_ok 47 rfl) c_v0 fF7_145 rfl ?_
        refine V_aload_n 0 (zdk tbX7_vow_0_ok 48 rfl) rfl ?_
        refine V_getI (zdk tbX7_vow_0_ok 49 rfl) c_v0 fF7_139 rfl ?_
        refine V_iadd (zdk tbX7_vow_1_ok 0 rfl) ?_
        obtain ⟨b5, h⟩ := chk_some h
        refine V_lald (zdk tbX7_vow_1_ok 1 rfl) c_r3 b5 ?_
        refine V_l2i (zdk tbX7_vow_1_ok 2 rfl) rfl ?_
        refine V_bipush (v := 59) (zdk tbX7_vow_1_ok 3 rfl) rfl ?_
        refine V_icmp_eq (tgt := 111) (zdk tbX7_vow_1_ok 4 rfl) (by decide) (fun c6 => ?_) (fun c6 => ?_)
        · replace h := ite_t h c6
          refine V_aload_n 0 (zdk tbX7_vow_1_ok 11 rfl) rfl ?_
          refine V_dup_r (zdk tbX7_vow_1_ok 12 rfl) ?_
          refine V_getI (zdk tbX7_vow_1_ok 13 rfl) c_v0 fF7_139 rfl ?_
          refine V_iconst (v := 1) (zdk tbX7_vow_1_ok 14 rfl) rfl ?_
          refine V_iadd (zdk tbX7_vow_1_ok 15 rfl) ?_
          obtain ⟨μ7, e8, h⟩ := lt_some h
          refine V_putI (zdk tbX7_vow_1_ok 16 rfl) c_v0 fF7_139 rfl rfl rfl e8 ?_
          refine V_inc (dx := 1) (ls' := [(0, .ref v0), (3, .int (v3 + (1 : Int32)))]) 1 [1, 0] (zdk tbX7_vow_1_ok 17 rfl) rfl (Nat.le_of_ble_eq_true rfl) rfl rfl ?_
          refine V_aload_n 0 (zdk tbX7_vow_1_ok 18 rfl) rfl ?_
          obtain ⟨μ10, r11, q9, h⟩ := bd2_some h
          refine V_callV (R1 := (rmd 3)) (As := []) (r := (some (.int r11))) (zdk tbX7_vow_1_ok 19 rfl) sC7_186 (tX7_item q9) (c_v0) rfl rfl rfl ⟨Nat.le_of_ble_eq_true rfl, Nat.le_of_ble_eq_true rfl⟩ (Nat.le_of_ble_eq_true rfl) ⟨rfl, rfl⟩ id ?_
          refine V_istore (ls' := [(0, .ref v0), (3, .int (v3 + (1 : Int32))), (4, .int r11)]) [1, 2, 0] (zdk tbX7_vow_1_ok 20 rfl) (Nat.le_of_ble_eq_true rfl) rfl ?_
          refine V_goto (tgt := 62) (zdk tbX7_vow_1_ok 21 rfl) (by decide) ?_
          exact ih v0 (v3 + (1 : Int32)) r11 μ10 c_v0 h
        · replace h := ite_f h c6
          refine V_aload_n 0 (zdk tbX7_vow_1_ok 5 rfl) rfl ?_
          refine V_aload_n 0 (zdk tbX7_vow_1_ok 6 rfl) rfl ?_
          refine V_getI (zdk tbX7_vow_1_ok 7 rfl) c_v0 fF7_139 rfl ?_
          obtain ⟨μ13, r14, q12, h⟩ := bd2_some h
          refine V_callV (R1 := (rmd 1)) (As := [.int (zI μ v0 26)]) (r := (some (.int r14))) (zdk tbX7_vow_1_ok 8 rfl) sC7_155 (tX7_wrong q12) (c_v0) rfl rfl rfl ⟨Nat.le_of_ble_eq_true rfl, Nat.le_of_ble_eq_true rfl⟩ (Nat.le_of_ble_eq_true rfl) ⟨rfl, rfl⟩ id ?_
          refine V_istore (ls' := [(0, .ref v0), (3, .int v3), (4, .int r14)]) [1, 2, 0] (zdk tbX7_vow_1_ok 9 rfl) (Nat.le_of_ble_eq_true rfl) rfl ?_
          refine V_goto (tgt := 62) (zdk tbX7_vow_1_ok 10 rfl) (by decide) ?_
          exact ih v0 v3 r14 μ13 c_v0 h
def fX7_vow (n : Nat) (v0 : Nat) (v1 : Int32) (μ : ZMem) : Option (ZMem × Int32) := chk (isC n 7 v0) (bd2 (fX7_wanted n v0 v1 μ) (fun μ2 r3 => (if r3 = 0 then bd1 (zRc n 100 μ2 v0 30) (fun r5 => bd1 (fX7_all n v0 r5 (0 : Int32) μ2) (fun μ8 => lt (zpI μ8 v0 25 ((160 : Int32) * v1)) (fun μ9 => lt (zpI μ9 v0 26 (0 : Int32)) (fun μ11 => bd1 (zRc n 100 μ11 v0 17) (fun r13 => chk (inb v1 r13) (lt (zpI μ11 v0 27 (zI μ11 r13 v1.toNatClampNeg)) (fun μ16 => lt (zpI μ16 v0 8 (-1 : Int32)) (fun μ18 => bd2 (fX7_item n v0 μ18) (fun μ21 r22 => (fX7_vow_b62 n FU v0 (1 : Int32) r22 μ21)))))))))) else bd2 (fX7_no n v0 r3 μ2) (fun μ24 r25 => some (μ24, r25)))))
theorem tX7_vow {l : Launch} {fr : Bool} {n : Nat} {v0 : Nat} {v1 : Int32} {μ : ZMem} {z : ZMem × Int32} (h : fX7_vow n v0 v1 μ = some z) : ZFn l mX7_vow (rmd 4) [.ref v0, .int v1] fr n μ (fr, n, z.1, some (.int z.2)) := by
  unfold fX7_vow at h
  obtain ⟨c_v0, h⟩ := chk_some h
  refine ZFn.of (ls := [(0, .ref v0), (1, .int v1)]) (by decide) (fun ξ => Nat.le_of_ble_eq_true rfl) (fun ξ => rfl) ?_
  refine V_aload_n 0 (zdk tbX7_vow_0_ok 0 rfl) rfl ?_
  refine V_iload_n 1 (zdk tbX7_vow_0_ok 1 rfl) rfl ?_
  obtain ⟨μ2, r3, q1, h⟩ := bd2_some h
  refine V_callV (R1 := (rmd 2)) (As := [.int v1]) (r := (some (.int r3))) (zdk tbX7_vow_0_ok 2 rfl) sC7_179 (tX7_wanted q1) (c_v0) rfl rfl rfl ⟨Nat.le_of_ble_eq_true rfl, Nat.le_of_ble_eq_true rfl⟩ (Nat.le_of_ble_eq_true rfl) ⟨rfl, rfl⟩ id ?_
  refine V_istore_n (ls' := [(0, .ref v0), (1, .int v1), (2, .int r3)]) [1, 2, 0] (zdk tbX7_vow_0_ok 3 rfl) (Nat.le_of_ble_eq_true rfl) rfl ?_
  refine V_iload_n 2 (zdk tbX7_vow_0_ok 4 rfl) rfl ?_
  refine V_if_eq (tgt := 16) (zdk tbX7_vow_0_ok 5 rfl) (by decide) (fun c4 => ?_) (fun c4 => ?_)
  · replace h := ite_t h c4
    refine V_aload_n 0 (zdk tbX7_vow_0_ok 10 rfl) rfl ?_
    refine V_aload_n 0 (zdk tbX7_vow_0_ok 11 rfl) rfl ?_
    obtain ⟨r5, q6, h⟩ := bd1_some h
    obtain ⟨q6, c_r5⟩ := zRc_some q6
    refine V_getR (zdk tbX7_vow_0_ok 12 rfl) c_v0 fF7_78 rfl q6 ?_
    refine V_iconst (v := 0) (zdk tbX7_vow_0_ok 13 rfl) rfl ?_
    obtain ⟨μ8, q7, h⟩ := bd1_some h
    refine V_callV (R1 := (rmd 2)) (As := [.ref r5, .int (0 : Int32)]) (r := none) (zdk tbX7_vow_0_ok 14 rfl) sC7_182 (tX7_all q7) (c_v0) rfl rfl rfl ⟨Nat.le_of_ble_eq_true rfl, Nat.le_of_ble_eq_true rfl⟩ (Nat.le_of_ble_eq_true rfl) ⟨rfl, rfl⟩ id ?_
    refine V_aload_n 0 (zdk tbX7_vow_0_ok 15 rfl) rfl ?_
    refine V_sipush (v := 160) (zdk tbX7_vow_0_ok 16 rfl) rfl ?_
    refine V_iload_n 1 (zdk tbX7_vow_0_ok 17 rfl) rfl ?_
    refine V_imul (zdk tbX7_vow_0_ok 18 rfl) ?_
    obtain ⟨μ9, e10, h⟩ := lt_some h
    refine V_putI (zdk tbX7_vow_0_ok 19 rfl) c_v0 fF7_145 rfl rfl rfl e10 ?_
    refine V_aload_n 0 (zdk tbX7_vow_0_ok 20 rfl) rfl ?_
    refine V_iconst (v := 0) (zdk tbX7_vow_0_ok 21 rfl) rfl ?_
    obtain ⟨μ11, e12, h⟩ := lt_some h
    refine V_putI (zdk tbX7_vow_0_ok 22 rfl) c_v0 fF7_139 rfl rfl rfl e12 ?_
    refine V_aload_n 0 (zdk tbX7_vow_0_ok 23 rfl) rfl ?_
    refine V_aload_n 0 (zdk tbX7_vow_0_ok 24 rfl) rfl ?_
    obtain ⟨r13, q14, h⟩ := bd1_some h
    obtain ⟨q14, c_r13⟩ := zRc_some q14
    refine V_getR (zdk tbX7_vow_0_ok 25 rfl) c_v0 fF7_53 rfl q14 ?_
    refine V_iload_n 1 (zdk tbX7_vow_0_ok 26 rfl) rfl ?_
    obtain ⟨b15, h⟩ := chk_some h
    refine V_iald (zdk tbX7_vow_0_ok 27 rfl) c_r13 b15 ?_
    obtain ⟨μ16, e17, h⟩ := lt_some h
    refine V_putI (zdk tbX7_vow_0_ok 28 rfl) c_v0 fF7_142 rfl rfl rfl e17 ?_
    refine V_aload_n 0 (zdk tbX7_vow_0_ok 29 rfl) rfl ?_
    refine V_iconst (v := (-1)) (zdk tbX7_vow_0_ok 30 rfl) rfl ?_
    obtain ⟨μ18, e19, h⟩ := lt_some h
    refine V_putI (zdk tbX7_vow_0_ok 31 rfl) c_v0 fF7_25 rfl rfl rfl e19 ?_
    refine V_iconst (v := 1) (zdk tbX7_vow_0_ok 32 rfl) rfl ?_
    refine V_istore_n (ls' := [(0, .ref v0), (3, .int (1 : Int32))]) [1, 0] (zdk tbX7_vow_0_ok 33 rfl) (Nat.le_of_ble_eq_true rfl) rfl ?_
    refine V_aload_n 0 (zdk tbX7_vow_0_ok 34 rfl) rfl ?_
    obtain ⟨μ21, r22, q20, h⟩ := bd2_some h
    refine V_callV (R1 := (rmd 3)) (As := []) (r := (some (.int r22))) (zdk tbX7_vow_0_ok 35 rfl) sC7_186 (tX7_item q20) (c_v0) rfl rfl rfl ⟨Nat.le_of_ble_eq_true rfl, Nat.le_of_ble_eq_true rfl⟩ (Nat.le_of_ble_eq_true rfl) ⟨rfl, rfl⟩ id ?_
    refine V_istore (ls' := [(0, .ref v0), (3, .int (1 : Int32)), (4, .int r22)]) [1, 2, 0] (zdk tbX7_vow_0_ok 36 rfl) (Nat.le_of_ble_eq_true rfl) rfl ?_
    exact tX7_vow_b62 FU v0 (1 : Int32) r22 μ21 c_v0 h
  · replace h := ite_f h c4
    refine V_aload_n 0 (zdk tbX7_vow_0_ok 6 rfl) rfl ?_
    refine V_iload_n 2 (zdk tbX7_vow_0_ok 7 rfl) rfl ?_
    obtain ⟨μ24, r25, q23, h⟩ := bd2_some h
    refine V_callV (R1 := (rmd 1)) (As := [.int r3]) (r := (some (.int r25))) (zdk tbX7_vow_0_ok 8 rfl) sC7_106 (tX7_no q23) (c_v0) rfl rfl rfl ⟨Nat.le_of_ble_eq_true rfl, Nat.le_of_ble_eq_true rfl⟩ (Nat.le_of_ble_eq_true rfl) ⟨rfl, rfl⟩ id ?_
    cases h
    exact V_iret (zdk tbX7_vow_0_ok 9 rfl) rfl rfl

-- WhoComplainsCarriesModel.fault
def tbX7_fault_0 : List (Nat × Instr × Nat) := [(0, .aload_n 0, 1), (1, .getfield 25, 3), (4, .ireturn, 1)]
theorem tbX7_fault_0_ok : ∀ q ∈ tbX7_fault_0, decode cX7_fault q.1 = .ok (q.2.1, q.2.2) := by decide +kernel
def fX7_fault (n : Nat) (v0 : Nat) (μ : ZMem) : Option (ZMem × Int32) := chk (isC n 7 v0) (some (μ, (zI μ v0 8)))
theorem tX7_fault {l : Launch} {fr : Bool} {n : Nat} {v0 : Nat} {μ : ZMem} {z : ZMem × Int32} (h : fX7_fault n v0 μ = some z) : ZFn l mX7_fault (rmd 1) [.ref v0] fr n μ (fr, n, z.1, some (.int z.2)) := by
  unfold fX7_fault at h
  obtain ⟨c_v0, h⟩ := chk_some h
  refine ZFn.of (ls := [(0, .ref v0)]) (by decide) (fun ξ => Nat.le_of_ble_eq_true rfl) (fun ξ => rfl) ?_
  refine V_aload_n 0 (zdk tbX7_fault_0_ok 0 rfl) rfl ?_
  refine V_getI (zdk tbX7_fault_0_ok 1 rfl) c_v0 fF7_25 rfl ?_
  cases h
  exact V_iret (zdk tbX7_fault_0_ok 2 rfl) rfl rfl

-- WhoComplainsCarriesModel.wouldSigh
def tbX7_wouldSigh_0 : List (Nat × Instr × Nat) := [(0, .aload_n 0, 1), (1, .getfield 32, 3), (4, .iload_n 1, 1), (5, .iaload, 1), (6, .iconst 5, 1), (7, .if_icmp .eq 23, 3), (10, .aload_n 0, 1), (11, .getfield 44, 3), (14, .iload_n 1, 1), (15, .iaload, 1), (16, .iload_n 2, 1), (17, .iadd, 1), (18, .aload_n 0, 1), (19, .iload_n 1, 1), (20, .invokevirtual 113, 3), (23, .if_icmp .le 7, 3), (26, .iconst 1, 1), (27, .goto 4, 3), (30, .iconst 0, 1), (31, .ireturn, 1)]
theorem tbX7_wouldSigh_0_ok : ∀ q ∈ tbX7_wouldSigh_0, decode cX7_wouldSigh q.1 = .ok (q.2.1, q.2.2) := by decide +kernel
def fX7_wouldSigh_b31 (n : Nat) (s0 : Int32) (μ : ZMem) : Option (ZMem × Int32) := chk (b01 s0) (some (μ, s0))
theorem tX7_wouldSigh_b31 {l : Launch} {fr : Bool} {n : Nat} {z : ZMem × Int32} (s0 : Int32) (μ : ZMem) (h : fX7_wouldSigh_b31 n s0 μ = some z) : V (zkI l mX7_wouldSigh (rmd 2) fr n z) fr 31 [] [.int s0] n μ := by
  unfold fX7_wouldSigh_b31 at h
  obtain ⟨b1, h⟩ := chk_some h
  cases h
  exact V_zret (zdk tbX7_wouldSigh_0_ok 19 rfl) rfl (b01_n b1) rfl
def fX7_wouldSigh_b30 (n : Nat) (μ : ZMem) : Option (ZMem × Int32) := (fX7_wouldSigh_b31 n (0 : Int32) μ)
theorem tX7_wouldSigh_b30 {l : Launch} {fr : Bool} {n : Nat} {z : ZMem × Int32} (μ : ZMem) (h : fX7_wouldSigh_b30 n μ = some z) : V (zkI l mX7_wouldSigh (rmd 2) fr n z) fr 30 [] [] n μ := by
  unfold fX7_wouldSigh_b30 at h
  refine V_iconst (v := 0) (zdk tbX7_wouldSigh_0_ok 18 rfl) rfl ?_
  exact tX7_wouldSigh_b31 (0 : Int32) μ  h
def fX7_wouldSigh (n : Nat) (v0 : Nat) (v1 : Int32) (v2 : Int32) (μ : ZMem) : Option (ZMem × Int32) := chk (isC n 7 v0) (bd1 (zRc n 100 μ v0 10) (fun r1 => chk (inb v1 r1) ((if (zI μ r1 v1.toNatClampNeg) = (5 : Int32) then (fX7_wouldSigh_b30 n  μ) else bd1 (zRc n 100 μ v0 14) (fun r5 => chk (inb v1 r5) (bd2 (fX7_limit n v0 v1 μ) (fun μ9 r10 => (if ((zI μ r5 v1.toNatClampNeg) + v2) ≤ r10 then (fX7_wouldSigh_b30 n  μ9) else (fX7_wouldSigh_b31 n (1 : Int32) μ9)))))))))
theorem tX7_wouldSigh {l : Launch} {fr : Bool} {n : Nat} {v0 : Nat} {v1 : Int32} {v2 : Int32} {μ : ZMem} {z : ZMem × Int32} (h : fX7_wouldSigh n v0 v1 v2 μ = some z) : ZFn l mX7_wouldSigh (rmd 2) [.ref v0, .int v1, .int v2] fr n μ (fr, n, z.1, some (.int z.2)) := by
  unfold fX7_wouldSigh at h
  obtain ⟨c_v0, h⟩ := chk_some h
  refine ZFn.of (ls := [(0, .ref v0), (1, .int v1), (2, .int v2)]) (by decide) (fun ξ => Nat.le_of_ble_eq_true rfl) (fun ξ => rfl) ?_
  refine V_aload_n 0 (zdk tbX7_wouldSigh_0_ok 0 rfl) rfl ?_
  obtain ⟨r1, q2, h⟩ := bd1_some h
  obtain ⟨q2, c_r1⟩ := zRc_some q2
  refine V_getR (zdk tbX7_wouldSigh_0_ok 1 rfl) c_v0 fF7_32 rfl q2 ?_
  refine V_iload_n 1 (zdk tbX7_wouldSigh_0_ok 2 rfl) rfl ?_
  obtain ⟨b3, h⟩ := chk_some h
  refine V_iald (zdk tbX7_wouldSigh_0_ok 3 rfl) c_r1 b3 ?_
  refine V_iconst (v := 5) (zdk tbX7_wouldSigh_0_ok 4 rfl) rfl ?_
  refine V_icmp_eq (tgt := 30) (zdk tbX7_wouldSigh_0_ok 5 rfl) (by decide) (fun c4 => ?_) (fun c4 => ?_)
  · replace h := ite_t h c4
    refine V_sub (ls' := []) [] rfl ?_
    exact tX7_wouldSigh_b30  μ  h
  · replace h := ite_f h c4
    refine V_aload_n 0 (zdk tbX7_wouldSigh_0_ok 6 rfl) rfl ?_
    obtain ⟨r5, q6, h⟩ := bd1_some h
    obtain ⟨q6, c_r5⟩ := zRc_some q6
    refine V_getR (zdk tbX7_wouldSigh_0_ok 7 rfl) c_v0 fF7_44 rfl q6 ?_
    refine V_iload_n 1 (zdk tbX7_wouldSigh_0_ok 8 rfl) rfl ?_
    obtain ⟨b7, h⟩ := chk_some h
    refine V_iald (zdk tbX7_wouldSigh_0_ok 9 rfl) c_r5 b7 ?_
    refine V_iload_n 2 (zdk tbX7_wouldSigh_0_ok 10 rfl) rfl ?_
    refine V_iadd (zdk tbX7_wouldSigh_0_ok 11 rfl) ?_
    refine V_aload_n 0 (zdk tbX7_wouldSigh_0_ok 12 rfl) rfl ?_
    refine V_iload_n 1 (zdk tbX7_wouldSigh_0_ok 13 rfl) rfl ?_
    obtain ⟨μ9, r10, q8, h⟩ := bd2_some h
    refine V_callV (R1 := (rmd 1)) (As := [.int v1]) (r := (some (.int r10))) (zdk tbX7_wouldSigh_0_ok 14 rfl) sC7_113 (tX7_limit q8) (c_v0) rfl rfl rfl ⟨Nat.le_of_ble_eq_true rfl, Nat.le_of_ble_eq_true rfl⟩ (Nat.le_of_ble_eq_true rfl) ⟨rfl, rfl⟩ id ?_
    refine V_icmp_le (tgt := 30) (zdk tbX7_wouldSigh_0_ok 15 rfl) (by decide) (fun c11 => ?_) (fun c11 => ?_)
    · replace h := ite_t h c11
      refine V_sub (ls' := []) [] rfl ?_
      exact tX7_wouldSigh_b30  μ9  h
    · replace h := ite_f h c11
      refine V_iconst (v := 1) (zdk tbX7_wouldSigh_0_ok 16 rfl) rfl ?_
      refine V_goto (tgt := 31) (zdk tbX7_wouldSigh_0_ok 17 rfl) (by decide) ?_
      refine V_sub (ls' := []) [] rfl ?_
      exact tX7_wouldSigh_b31 (1 : Int32) μ9  h

-- WhoComplainsCarriesModel.tires
def tbX7_tires_0 : List (Nat × Instr × Nat) := [(0, .aload_n 0, 1), (1, .getfield 44, 3), (4, .iload_n 1, 1), (5, .iaload, 1), (6, .iload_n 2, 1), (7, .iadd, 1), (8, .istore_n 3, 1), (9, .aload_n 0, 1), (10, .getfield 44, 3), (13, .iload_n 1, 1), (14, .iload_n 3, 1), (15, .ifCond .ge 7, 3), (18, .iconst 0, 1), (19, .goto 15, 3), (22, .iload_n 3, 1), (23, .bipush 99, 2), (25, .if_icmp .le 8, 3), (28, .bipush 99, 2), (30, .goto 4, 3), (33, .iload_n 3, 1), (34, .iastore, 1), (35, .return_, 1)]
theorem tbX7_tires_0_ok : ∀ q ∈ tbX7_tires_0, decode cX7_tires q.1 = .ok (q.2.1, q.2.2) := by decide +kernel
def fX7_tires_b34 (n : Nat) (s0 : Nat) (s1 : Int32) (s2 : Int32) (μ : ZMem) : Option (ZMem) := chk (inb s1 s0) (lt (zpI μ s0 s1.toNatClampNeg s2) (fun μ2 => some μ2))
theorem tX7_tires_b34 {l : Launch} {fr : Bool} {n : Nat} {z : ZMem} (s0 : Nat) (s1 : Int32) (s2 : Int32) (μ : ZMem) (c_s0 : isC n 100 s0 = true) (h : fX7_tires_b34 n s0 s1 s2 μ = some z) : V (zkV l mX7_tires (rmd 1) fr n z) fr 34 [] [.int s2, .int s1, .ref s0] n μ := by
  unfold fX7_tires_b34 at h
  obtain ⟨b1, h⟩ := chk_some h
  obtain ⟨μ2, e3, h⟩ := lt_some h
  refine V_iast (zdk tbX7_tires_0_ok 20 rfl) c_s0 b1 e3 ?_
  cases h
  exact V_vret (zdk tbX7_tires_0_ok 21 rfl) rfl rfl
def fX7_tires (n : Nat) (v0 : Nat) (v1 : Int32) (v2 : Int32) (μ : ZMem) : Option (ZMem) := chk (isC n 7 v0) (bd1 (zRc n 100 μ v0 14) (fun r1 => chk (inb v1 r1) (bd1 (zRc n 100 μ v0 14) (fun r4 => (if 0 ≤ ((zI μ r1 v1.toNatClampNeg) + v2) then (if ((zI μ r1 v1.toNatClampNeg) + v2) ≤ (99 : Int32) then (fX7_tires_b34 n r4 v1 ((zI μ r1 v1.toNatClampNeg) + v2) μ) else (fX7_tires_b34 n r4 v1 (99 : Int32) μ)) else (fX7_tires_b34 n r4 v1 (0 : Int32) μ))))))
theorem tX7_tires {l : Launch} {fr : Bool} {n : Nat} {v0 : Nat} {v1 : Int32} {v2 : Int32} {μ : ZMem} {z : ZMem} (h : fX7_tires n v0 v1 v2 μ = some z) : ZFn l mX7_tires (rmd 1) [.ref v0, .int v1, .int v2] fr n μ (fr, n, z, none) := by
  unfold fX7_tires at h
  obtain ⟨c_v0, h⟩ := chk_some h
  refine ZFn.of (ls := [(0, .ref v0), (1, .int v1), (2, .int v2)]) (by decide) (fun ξ => Nat.le_of_ble_eq_true rfl) (fun ξ => rfl) ?_
  refine V_aload_n 0 (zdk tbX7_tires_0_ok 0 rfl) rfl ?_
  obtain ⟨r1, q2, h⟩ := bd1_some h
  obtain ⟨q2, c_r1⟩ := zRc_some q2
  refine V_getR (zdk tbX7_tires_0_ok 1 rfl) c_v0 fF7_44 rfl q2 ?_
  refine V_iload_n 1 (zdk tbX7_tires_0_ok 2 rfl) rfl ?_
  obtain ⟨b3, h⟩ := chk_some h
  refine V_iald (zdk tbX7_tires_0_ok 3 rfl) c_r1 b3 ?_
  refine V_iload_n 2 (zdk tbX7_tires_0_ok 4 rfl) rfl ?_
  refine V_iadd (zdk tbX7_tires_0_ok 5 rfl) ?_
  refine V_istore_n (ls' := [(0, .ref v0), (1, .int v1), (3, .int ((zI μ r1 v1.toNatClampNeg) + v2))]) [1, 2, 0] (zdk tbX7_tires_0_ok 6 rfl) (Nat.le_of_ble_eq_true rfl) rfl ?_
  refine V_aload_n 0 (zdk tbX7_tires_0_ok 7 rfl) rfl ?_
  obtain ⟨r4, q5, h⟩ := bd1_some h
  obtain ⟨q5, c_r4⟩ := zRc_some q5
  refine V_getR (zdk tbX7_tires_0_ok 8 rfl) c_v0 fF7_44 rfl q5 ?_
  refine V_iload_n 1 (zdk tbX7_tires_0_ok 9 rfl) rfl ?_
  refine V_iload_n 2 (zdk tbX7_tires_0_ok 10 rfl) rfl ?_
  refine V_if_ge (tgt := 22) (zdk tbX7_tires_0_ok 11 rfl) (by decide) (fun c6 => ?_) (fun c6 => ?_)
  · replace h := ite_t h c6
    refine V_iload_n 2 (zdk tbX7_tires_0_ok 14 rfl) rfl ?_
    refine V_bipush (v := 99) (zdk tbX7_tires_0_ok 15 rfl) rfl ?_
    refine V_icmp_le (tgt := 33) (zdk tbX7_tires_0_ok 16 rfl) (by decide) (fun c7 => ?_) (fun c7 => ?_)
    · replace h := ite_t h c7
      refine V_iload_n 2 (zdk tbX7_tires_0_ok 19 rfl) rfl ?_
      refine V_sub (ls' := []) [] rfl ?_
      exact tX7_tires_b34 r4 v1 ((zI μ r1 v1.toNatClampNeg) + v2) μ c_r4 h
    · replace h := ite_f h c7
      refine V_bipush (v := 99) (zdk tbX7_tires_0_ok 17 rfl) rfl ?_
      refine V_goto (tgt := 34) (zdk tbX7_tires_0_ok 18 rfl) (by decide) ?_
      refine V_sub (ls' := []) [] rfl ?_
      exact tX7_tires_b34 r4 v1 (99 : Int32) μ c_r4 h
  · replace h := ite_f h c6
    refine V_iconst (v := 0) (zdk tbX7_tires_0_ok 12 rfl) rfl ?_
    refine V_goto (tgt := 34) (zdk tbX7_tires_0_ok 13 rfl) (by decide) ?_
    refine V_sub (ls' := []) [] rfl ?_
    exact tX7_tires_b34 r4 v1 (0 : Int32) μ c_r4 h

-- WhoComplainsCarriesModel.step
def tbX7_step_0 : List (Nat × Instr × Nat) := [(0, .aload_n 0, 1), (1, .getfield 16, 3), (4, .iconst (-1), 1), (5, .if_icmp .ne 29, 3), (8, .iconst 0, 1), (9, .istore_n 2, 1), (10, .iload_n 2, 1), (11, .aload_n 0, 1), (12, .getfield 99, 3), (15, .if_icmp .ge 16, 3), (18, .aload_n 0, 1), (19, .iload_n 2, 1), (20, .bipush (-2), 2), (22, .invokevirtual 189, 3), (25, .iinc 2 1, 3), (28, .goto (-18), 3), (31, .goto 96, 3), (34, .aload_n 0, 1), (35, .getfield 130, 3), (38, .aload_n 0, 1), (39, .getfield 13, 3), (42, .if_icmp .ge 85, 3), (45, .aload_n 0, 1), (46, .aload_n 0, 1), (47, .getfield 130, 3), (50, .aload_n 0, 1), (51, .aload_n 0, 1), (52, .getfield 16, 3), (55, .invokevirtual 119, 3), (58, .iadd, 1), (59, .aload_n 0, 1), (60, .getfield 13, 3), (63, .if_icmp .le 10, 3), (66, .aload_n 0, 1), (67, .getfield 13, 3), (70, .goto 16, 3), (73, .aload_n 0, 1), (74, .getfield 130, 3), (77, .aload_n 0, 1), (78, .aload_n 0, 1), (79, .getfield 16, 3), (82, .invokevirtual 119, 3), (85, .iadd, 1), (86, .putfield 130, 3), (89, .iconst 0, 1), (90, .istore_n 2, 1), (91, .iload_n 2, 1), (92, .aload_n 0, 1), (93, .getfield 99, 3), (96, .if_icmp .ge 31, 3)]
theorem tbX7_step_0_ok : ∀ q ∈ tbX7_step_0, decode cX7_step q.1 = .ok (q.2.1, q.2.2) := by decide +kernel
def tbX7_step_1 : List (Nat × Instr × Nat) := [(99, .aload_n 0, 1), (100, .iload_n 2, 1), (101, .iload_n 2, 1), (102, .aload_n 0, 1), (103, .getfield 16, 3), (106, .if_icmp .ne 11, 3), (109, .aload_n 0, 1), (110, .iload_n 2, 1), (111, .invokevirtual 116, 3), (114, .goto 4, 3), (117, .iconst (-1), 1), (118, .invokevirtual 189, 3), (121, .iinc 2 1, 3), (124, .goto (-33), 3), (127, .iconst (-1), 1), (128, .istore_n 2, 1), (129, .iconst 0, 1), (130, .istore_n 3, 1), (131, .iload_n 3, 1), (132, .aload_n 0, 1), (133, .getfield 99, 3), (136, .if_icmp .ge 40, 3), (139, .iload_n 1, 1), (140, .ifCond .ne 30, 3), (143, .iload_n 3, 1), (144, .aload_n 0, 1), (145, .getfield 16, 3), (148, .if_icmp .eq 22, 3), (151, .iload_n 3, 1), (152, .aload_n 0, 1), (153, .getfield 87, 3), (156, .if_icmp .eq 14, 3), (159, .aload_n 0, 1), (160, .iload_n 3, 1), (161, .iconst 0, 1), (162, .invokevirtual 193, 3), (165, .ifCond .eq 5, 3), (168, .iload_n 3, 1), (169, .istore_n 2, 1), (170, .iinc 3 1, 3), (173, .goto (-42), 3), (176, .iload_n 2, 1), (177, .iconst (-1), 1), (178, .if_icmp .eq 25, 3), (181, .aload_n 0, 1), (182, .getfield 19, 3), (185, .iconst 1, 1), (186, .iand, 1), (187, .iconst 1, 1), (188, .if_icmp .ne 15, 3)]
theorem tbX7_step_1_ok : ∀ q ∈ tbX7_step_1, decode cX7_step q.1 = .ok (q.2.1, q.2.2) := by decide +kernel
def tbX7_step_2 : List (Nat × Instr × Nat) := [(191, .aload_n 0, 1), (192, .iload_n 2, 1), (193, .putfield 16, 3), (196, .aload_n 0, 1), (197, .iload_n 2, 1), (198, .bipush (-5), 2), (200, .invokevirtual 189, 3), (203, .aload_n 0, 1), (204, .dup, 1), (205, .getfield 176, 3), (208, .iconst 1, 1), (209, .iadd, 1), (210, .putfield 176, 3), (213, .return_, 1)]
theorem tbX7_step_2_ok : ∀ q ∈ tbX7_step_2, decode cX7_step q.1 = .ok (q.2.1, q.2.2) := by decide +kernel
theorem wCX7_tires : zCW mX7_tires 2 := ⟨zin (i := 8) (by decide +kernel) rfl, zin (i := 1099) (by decide +kernel) rfl, by decide +kernel, by decide +kernel, by decide +kernel⟩
theorem sC7_189 : zCV RX7 189 mX7_tires 2 := ⟨zin (i := 1096) (by decide +kernel) rfl, zin (i := 1098) (by decide +kernel) rfl, zinP (i := 50) (q := (yX7_tires, 42)) (by decide +kernel) rfl, wCX7_tires⟩
theorem wCX7_wouldSigh : zCW mX7_wouldSigh 2 := ⟨zin (i := 8) (by decide +kernel) rfl, zin (i := 1083) (by decide +kernel) rfl, by decide +kernel, by decide +kernel, by decide +kernel⟩
theorem sC7_193 : zCV RX7 193 mX7_wouldSigh 2 := ⟨zin (i := 1080) (by decide +kernel) rfl, zin (i := 1082) (by decide +kernel) rfl, zinP (i := 48) (q := (yX7_wouldSigh, 42)) (by decide +kernel) rfl, wCX7_wouldSigh⟩
def fX7_step_b170 (g131 : Nat → Int32 → Int32 → Int32 → ZMem → Option (ZMem)) (n : Nat) (v0 : Nat) (v1 : Int32) (v2 : Int32) (v3 : Int32) (μ : ZMem) : Option (ZMem) := (g131 v0 v1 v2 (v3 + (1 : Int32)) μ)
theorem tX7_step_b170 {l : Launch} {fr : Bool} {n : Nat} {z : ZMem} {g131 : Nat → Int32 → Int32 → Int32 → ZMem → Option (ZMem)} (hg131 : ∀ (v0 : Nat) (v1 : Int32) (v2 : Int32) (v3 : Int32) (μ : ZMem), isC n 7 v0 = true → g131 v0 v1 v2 v3 μ = some z → V (zkV l mX7_step (rmd 3) fr n z) fr 131 [(0, .ref v0), (1, .int v1), (2, .int v2), (3, .int v3)] [] n μ) (v0 : Nat) (v1 : Int32) (v2 : Int32) (v3 : Int32) (μ : ZMem) (c_v0 : isC n 7 v0 = true) (h : fX7_step_b170 g131 n v0 v1 v2 v3 μ = some z) : V (zkV l mX7_step (rmd 3) fr n z) fr 170 [(0, .ref v0), (1, .int v1), (2, .int v2), (3, .int v3)] [] n μ := by
  unfold fX7_step_b170 at h
  refine V_inc (dx := 1) (ls' := [(0, .ref v0), (1, .int v1), (2, .int v2), (3, .int (v3 + (1 : Int32)))]) 3 [1, 2, 3, 0] (zdk tbX7_step_1_ok 39 rfl) rfl (Nat.le_of_ble_eq_true rfl) rfl rfl ?_
  refine V_goto (tgt := 131) (zdk tbX7_step_1_ok 40 rfl) (by decide) ?_
  exact hg131 v0 v1 v2 (v3 + (1 : Int32)) μ c_v0 h
def fX7_step_b203 (n : Nat) (v0 : Nat) (μ : ZMem) : Option (ZMem) := lt (zpI μ v0 5 ((zI μ v0 5) + (1 : Int32))) (fun μ1 => some μ1)
theorem tX7_step_b203 {l : Launch} {fr : Bool} {n : Nat} {z : ZMem} (v0 : Nat) (μ : ZMem) (c_v0 : isC n 7 v0 = true) (h : fX7_step_b203 n v0 μ = some z) : V (zkV l mX7_step (rmd 3) fr n z) fr 203 [(0, .ref v0)] [] n μ := by
  unfold fX7_step_b203 at h
  refine V_aload_n 0 (zdk tbX7_step_2_ok 7 rfl) rfl ?_
  refine V_dup_r (zdk tbX7_step_2_ok 8 rfl) ?_
  refine V_getI (zdk tbX7_step_2_ok 9 rfl) c_v0 fF7_176 rfl ?_
  refine V_iconst (v := 1) (zdk tbX7_step_2_ok 10 rfl) rfl ?_
  refine V_iadd (zdk tbX7_step_2_ok 11 rfl) ?_
  obtain ⟨μ1, e2, h⟩ := lt_some h
  refine V_putI (zdk tbX7_step_2_ok 12 rfl) c_v0 fF7_176 rfl rfl rfl e2 ?_
  cases h
  exact V_vret (zdk tbX7_step_2_ok 13 rfl) rfl rfl
def fX7_step_b131 (n : Nat) : Nat → Nat → Int32 → Int32 → Int32 → ZMem → Option (ZMem)
  | 0, _, _, _, _, _ => none
  | k + 1, v0, v1, v2, v3, μ => (if (zI μ v0 0) ≤ v3 then (if v2 = (-1 : Int32) then (fX7_step_b203 n v0 μ) else (if ((zI μ v0 6) &&& (1 : Int32)) = (1 : Int32) then lt (zpI μ v0 4 v2) (fun μ4 => bd1 (fX7_tires n v0 v2 (-5 : Int32) μ4) (fun μ7 => (fX7_step_b203 n v0 μ7))) else (fX7_step_b203 n v0 μ))) else (if v1 = 0 then (if v3 = (zI μ v0 4) then (fX7_step_b170 (fX7_step_b131 n k) n v0 v1 v2 v3 μ) else (if v3 = (zI μ v0 33) then (fX7_step_b170 (fX7_step_b131 n k) n v0 v1 v2 v3 μ) else bd2 (fX7_wouldSigh n v0 v3 (0 : Int32) μ) (fun μ12 r13 => (if r13 = 0 then (fX7_step_b170 (fX7_step_b131 n k) n v0 v1 v2 v3 μ12) else (fX7_step_b170 (fX7_step_b131 n k) n v0 v1 v3 v3 μ12))))) else (fX7_step_b170 (fX7_step_b131 n k) n v0 v1 v2 v3 μ)))
theorem tX7_step_b131 {l : Launch} {fr : Bool} {n : Nat} {z : ZMem} : ∀ (k : Nat) (v0 : Nat) (v1 : Int32) (v2 : Int32) (v3 : Int32) (μ : ZMem) (c_v0 : isC n 7 v0 = true), fX7_step_b131 n k v0 v1 v2 v3 μ = some z → V (zkV l mX7_step (rmd 3) fr n z) fr 131 [(0, .ref v0), (1, .int v1), (2, .int v2), (3, .int v3)] [] n μ := by
  intro k
  induction k with
  | zero =>
    intro v0 v1 v2 v3 μ c_v0 h
    unfold fX7_step_b131 at h
    cases h
  | succ k ih =>
    intro v0 v1 v2 v3 μ c_v0 h
    unfold fX7_step_b131 at h
    refine V_iload_n 3 (zdk tbX7_step_1_ok 18 rfl) rfl ?_
    refine V_aload_n 0 (zdk tbX7_step_1_ok 19 rfl) rfl ?_
    refine V_getI (zdk tbX7_step_1_ok 20 rfl) c_v0 fF7_99 rfl ?_
    refine V_icmp_ge (tgt := 176) (zdk tbX7_step_1_ok 21 rfl) (by decide) (fun c1 => ?_) (fun c1 => ?_)
    · replace h := ite_t h c1
      refine V_iload_n 2 (zdk tbX7_step_1_ok 41 rfl) rfl ?_
      refine V_iconst (v := (-1)) (zdk tbX7_step_1_ok 42 rfl) rfl ?_
      refine V_icmp_eq (tgt := 203) (zdk tbX7_step_1_ok 43 rfl) (by decide) (fun c2 => ?_) (fun c2 => ?_)
      · replace h := ite_t h c2
        refine V_sub (ls' := [(0, .ref v0)]) [0] rfl ?_
        exact tX7_step_b203 v0 μ c_v0 h
      · replace h := ite_f h c2
        refine V_aload_n 0 (zdk tbX7_step_1_ok 44 rfl) rfl ?_
        refine V_getI (zdk tbX7_step_1_ok 45 rfl) c_v0 fF7_19 rfl ?_
        refine V_iconst (v := 1) (zdk tbX7_step_1_ok 46 rfl) rfl ?_
        refine V_iand (zdk tbX7_step_1_ok 47 rfl) ?_
        refine V_iconst (v := 1) (zdk tbX7_step_1_ok 48 rfl) rfl ?_
        refine V_icmp_ne (tgt := 203) (zdk tbX7_step_1_ok 49 rfl) (by decide) (fun c3 => ?_) (fun c3 => ?_)
        · replace h := ite_f h c3
          refine V_sub (ls' := [(0, .ref v0)]) [0] rfl ?_
          exact tX7_step_b203 v0 μ c_v0 h
        · replace h := ite_t h c3
          refine V_aload_n 0 (zdk tbX7_step_2_ok 0 rfl) rfl ?_
          refine V_iload_n 2 (zdk tbX7_step_2_ok 1 rfl) rfl ?_
          obtain ⟨μ4, e5, h⟩ := lt_some h
          refine V_putI (zdk tbX7_step_2_ok 2 rfl) c_v0 fF7_16 rfl rfl rfl e5 ?_
          refine V_aload_n 0 (zdk tbX7_step_2_ok 3 rfl) rfl ?_
          refine V_iload_n 2 (zdk tbX7_step_2_ok 4 rfl) rfl ?_
          refine V_bipush (v := (-5)) (zdk tbX7_step_2_ok 5 rfl) rfl ?_
          obtain ⟨μ7, q6, h⟩ := bd1_some h
          refine V_callV (R1 := (rmd 1)) (As := [.int v2, .int (-5 : Int32)]) (r := none) (zdk tbX7_step_2_ok 6 rfl) sC7_189 (tX7_tires q6) (c_v0) rfl rfl rfl ⟨Nat.le_of_ble_eq_true rfl, Nat.le_of_ble_eq_true rfl⟩ (Nat.le_of_ble_eq_true rfl) ⟨rfl, rfl⟩ id ?_
          refine V_sub (ls' := [(0, .ref v0)]) [0] rfl ?_
          exact tX7_step_b203 v0 μ7 c_v0 h
    · replace h := ite_f h c1
      refine V_iload_n 1 (zdk tbX7_step_1_ok 22 rfl) rfl ?_
      refine V_if_ne (tgt := 170) (zdk tbX7_step_1_ok 23 rfl) (by decide) (fun c8 => ?_) (fun c8 => ?_)
      · replace h := ite_f h c8
        exact tX7_step_b170 (fun v0 v1 v2 v3 μ y0 h => ih v0 v1 v2 v3 μ y0 h) v0 v1 v2 v3 μ c_v0 h
      · replace h := ite_t h c8
        refine V_iload_n 3 (zdk tbX7_step_1_ok 24 rfl) rfl ?_
        refine V_aload_n 0 (zdk tbX7_step_1_ok 25 rfl) rfl ?_
        refine V_getI (zdk tbX7_step_1_ok 26 rfl) c_v0 fF7_16 rfl ?_
        refine V_icmp_eq (tgt := 170) (zdk tbX7_step_1_ok 27 rfl) (by decide) (fun c9 => ?_) (fun c9 => ?_)
        · replace h := ite_t h c9
          exact tX7_step_b170 (fun v0 v1 v2 v3 μ y0 h => ih v0 v1 v2 v3 μ y0 h) v0 v1 v2 v3 μ c_v0 h
        · replace h := ite_f h c9
          refine V_iload_n 3 (zdk tbX7_step_1_ok 28 rfl) rfl ?_
          refine V_aload_n 0 (zdk tbX7_step_1_ok 29 rfl) rfl ?_
          refine V_getI (zdk tbX7_step_1_ok 30 rfl) c_v0 fF7_87 rfl ?_
          refine V_icmp_eq (tgt := 170) (zdk tbX7_step_1_ok 31 rfl) (by decide) (fun c10 => ?_) (fun c10 => ?_)
          · replace h := ite_t h c10
            exact tX7_step_b170 (fun v0 v1 v2 v3 μ y0 h => ih v0 v1 v2 v3 μ y0 h) v0 v1 v2 v3 μ c_v0 h
          · replace h := ite_f h c10
            refine V_aload_n 0 (zdk tbX7_step_1_ok 32 rfl) rfl ?_
            refine V_iload_n 3 (zdk tbX7_step_1_ok 33 rfl) rfl ?_
            refine V_iconst (v := 0) (zdk tbX7_step_1_ok 34 rfl) rfl ?_
            obtain ⟨μ12, r13, q11, h⟩ := bd2_some h
            refine V_callV (R1 := (rmd 2)) (As := [.int v3, .int (0 : Int32)]) (r := (some (.int r13))) (zdk tbX7_step_1_ok 35 rfl) sC7_193 (tX7_wouldSigh q11) (c_v0) rfl rfl rfl ⟨Nat.le_of_ble_eq_true rfl, Nat.le_of_ble_eq_true rfl⟩ (Nat.le_of_ble_eq_true rfl) ⟨rfl, rfl⟩ id ?_
            refine V_if_eq (tgt := 170) (zdk tbX7_step_1_ok 36 rfl) (by decide) (fun c14 => ?_) (fun c14 => ?_)
            · replace h := ite_t h c14
              exact tX7_step_b170 (fun v0 v1 v2 v3 μ y0 h => ih v0 v1 v2 v3 μ y0 h) v0 v1 v2 v3 μ12 c_v0 h
            · replace h := ite_f h c14
              refine V_iload_n 3 (zdk tbX7_step_1_ok 37 rfl) rfl ?_
              refine V_istore_n (ls' := [(0, .ref v0), (1, .int v1), (2, .int v3), (3, .int v3)]) [1, 2, 0, 3] (zdk tbX7_step_1_ok 38 rfl) (Nat.le_of_ble_eq_true rfl) rfl ?_
              exact tX7_step_b170 (fun v0 v1 v2 v3 μ y0 h => ih v0 v1 v2 v3 μ y0 h) v0 v1 v3 v3 μ12 c_v0 h
def fX7_step_b127 (n : Nat) (v0 : Nat) (v1 : Int32) (μ : ZMem) : Option (ZMem) := (fX7_step_b131 n FU v0 v1 (-1 : Int32) (0 : Int32) μ)
theorem tX7_step_b127 {l : Launch} {fr : Bool} {n : Nat} {z : ZMem} (v0 : Nat) (v1 : Int32) (μ : ZMem) (c_v0 : isC n 7 v0 = true) (h : fX7_step_b127 n v0 v1 μ = some z) : V (zkV l mX7_step (rmd 3) fr n z) fr 127 [(0, .ref v0), (1, .int v1)] [] n μ := by
  unfold fX7_step_b127 at h
  refine V_iconst (v := (-1)) (zdk tbX7_step_1_ok 14 rfl) rfl ?_
  refine V_istore_n (ls' := [(0, .ref v0), (1, .int v1), (2, .int (-1 : Int32))]) [1, 2, 0] (zdk tbX7_step_1_ok 15 rfl) (Nat.le_of_ble_eq_true rfl) rfl ?_
  refine V_iconst (v := 0) (zdk tbX7_step_1_ok 16 rfl) rfl ?_
  refine V_istore_n (ls' := [(0, .ref v0), (1, .int v1), (2, .int (-1 : Int32)), (3, .int (0 : Int32))]) [1, 2, 3, 0] (zdk tbX7_step_1_ok 17 rfl) (Nat.le_of_ble_eq_true rfl) rfl ?_
  exact tX7_step_b131 FU v0 v1 (-1 : Int32) (0 : Int32) μ c_v0 h
def fX7_step_b10 (n : Nat) : Nat → Nat → Int32 → Int32 → ZMem → Option (ZMem)
  | 0, _, _, _, _ => none
  | k + 1, v0, v1, v2, μ => (if (zI μ v0 0) ≤ v2 then (fX7_step_b127 n v0 v1 μ) else bd1 (fX7_tires n v0 v2 (-2 : Int32) μ) (fun μ3 => (fX7_step_b10 n k v0 v1 (v2 + (1 : Int32)) μ3)))
theorem tX7_step_b10 {l : Launch} {fr : Bool} {n : Nat} {z : ZMem} : ∀ (k : Nat) (v0 : Nat) (v1 : Int32) (v2 : Int32) (μ : ZMem) (c_v0 : isC n 7 v0 = true), fX7_step_b10 n k v0 v1 v2 μ = some z → V (zkV l mX7_step (rmd 3) fr n z) fr 10 [(0, .ref v0), (1, .int v1), (2, .int v2)] [] n μ := by
  intro k
  induction k with
  | zero =>
    intro v0 v1 v2 μ c_v0 h
    unfold fX7_step_b10 at h
    cases h
  | succ k ih =>
    intro v0 v1 v2 μ c_v0 h
    unfold fX7_step_b10 at h
    refine V_iload_n 2 (zdk tbX7_step_0_ok 6 rfl) rfl ?_
    refine V_aload_n 0 (zdk tbX7_step_0_ok 7 rfl) rfl ?_
    refine V_getI (zdk tbX7_step_0_ok 8 rfl) c_v0 fF7_99 rfl ?_
    refine V_icmp_ge (tgt := 31) (zdk tbX7_step_0_ok 9 rfl) (by decide) (fun c1 => ?_) (fun c1 => ?_)
    · replace h := ite_t h c1
      refine V_goto (tgt := 127) (zdk tbX7_step_0_ok 16 rfl) (by decide) ?_
      refine V_sub (ls' := [(0, .ref v0), (1, .int v1)]) [0, 1] rfl ?_
      exact tX7_step_b127 v0 v1 μ c_v0 h
    · replace h := ite_f h c1
      refine V_aload_n 0 (zdk tbX7_step_0_ok 10 rfl) rfl ?_
      refine V_iload_n 2 (zdk tbX7_step_0_ok 11 rfl) rfl ?_
      refine V_bipush (v := (-2)) (zdk tbX7_step_0_ok 12 rfl) rfl ?_
      obtain ⟨μ3, q2, h⟩ := bd1_some h
      refine V_callV (R1 := (rmd 1)) (As := [.int v2, .int (-2 : Int32)]) (r := none) (zdk tbX7_step_0_ok 13 rfl) sC7_189 (tX7_tires q2) (c_v0) rfl rfl rfl ⟨Nat.le_of_ble_eq_true rfl, Nat.le_of_ble_eq_true rfl⟩ (Nat.le_of_ble_eq_true rfl) ⟨rfl, rfl⟩ id ?_
      refine V_inc (dx := 1) (ls' := [(0, .ref v0), (1, .int v1), (2, .int (v2 + (1 : Int32)))]) 2 [1, 2, 0] (zdk tbX7_step_0_ok 14 rfl) rfl (Nat.le_of_ble_eq_true rfl) rfl rfl ?_
      refine V_goto (tgt := 10) (zdk tbX7_step_0_ok 15 rfl) (by decide) ?_
      exact ih v0 v1 (v2 + (1 : Int32)) μ3 c_v0 h
def fX7_step_b118 (g91 : Nat → Int32 → Int32 → ZMem → Option (ZMem)) (n : Nat) (v0 : Nat) (v1 : Int32) (v2 : Int32) (s0 : Nat) (s1 : Int32) (s2 : Int32) (μ : ZMem) : Option (ZMem) := bd1 (fX7_tires n s0 s1 s2 μ) (fun μ2 => (g91 v0 v1 (v2 + (1 : Int32)) μ2))
theorem tX7_step_b118 {l : Launch} {fr : Bool} {n : Nat} {z : ZMem} {g91 : Nat → Int32 → Int32 → ZMem → Option (ZMem)} (hg91 : ∀ (v0 : Nat) (v1 : Int32) (v2 : Int32) (μ : ZMem), isC n 7 v0 = true → g91 v0 v1 v2 μ = some z → V (zkV l mX7_step (rmd 3) fr n z) fr 91 [(0, .ref v0), (1, .int v1), (2, .int v2)] [] n μ) (v0 : Nat) (v1 : Int32) (v2 : Int32) (s0 : Nat) (s1 : Int32) (s2 : Int32) (μ : ZMem) (c_v0 : isC n 7 v0 = true) (c_s0 : isC n 7 s0 = true) (h : fX7_step_b118 g91 n v0 v1 v2 s0 s1 s2 μ = some z) : V (zkV l mX7_step (rmd 3) fr n z) fr 118 [(0, .ref v0), (1, .int v1), (2, .int v2)] [.int s2, .int s1, .ref s0] n μ := by
  unfold fX7_step_b118 at h
  obtain ⟨μ2, q1, h⟩ := bd1_some h
  refine V_callV (R1 := (rmd 1)) (As := [.int s1, .int s2]) (r := none) (zdk tbX7_step_1_ok 11 rfl) sC7_189 (tX7_tires q1) (c_s0) rfl rfl rfl ⟨Nat.le_of_ble_eq_true rfl, Nat.le_of_ble_eq_true rfl⟩ (Nat.le_of_ble_eq_true rfl) ⟨rfl, rfl⟩ id ?_
  refine V_inc (dx := 1) (ls' := [(0, .ref v0), (1, .int v1), (2, .int (v2 + (1 : Int32)))]) 2 [1, 2, 0] (zdk tbX7_step_1_ok 12 rfl) rfl (Nat.le_of_ble_eq_true rfl) rfl rfl ?_
  refine V_goto (tgt := 91) (zdk tbX7_step_1_ok 13 rfl) (by decide) ?_
  exact hg91 v0 v1 (v2 + (1 : Int32)) μ2 c_v0 h
def fX7_step_b91 (n : Nat) : Nat → Nat → Int32 → Int32 → ZMem → Option (ZMem)
  | 0, _, _, _, _ => none
  | k + 1, v0, v1, v2, μ => (if (zI μ v0 0) ≤ v2 then (fX7_step_b127 n v0 v1 μ) else (if v2 = (zI μ v0 4) then bd2 (fX7_toil n v0 v2 μ) (fun μ4 r5 => (fX7_step_b118 (fX7_step_b91 n k) n v0 v1 v2 v0 v2 r5 μ4)) else (fX7_step_b118 (fX7_step_b91 n k) n v0 v1 v2 v0 v2 (-1 : Int32) μ)))
theorem tX7_step_b91 {l : Launch} {fr : Bool} {n : Nat} {z : ZMem} : ∀ (k : Nat) (v0 : Nat) (v1 : Int32) (v2 : Int32) (μ : ZMem) (c_v0 : isC n 7 v0 = true), fX7_step_b91 n k v0 v1 v2 μ = some z → V (zkV l mX7_step (rmd 3) fr n z) fr 91 [(0, .ref v0), (1, .int v1), (2, .int v2)] [] n μ := by
  intro k
  induction k with
  | zero =>
    intro v0 v1 v2 μ c_v0 h
    unfold fX7_step_b91 at h
    cases h
  | succ k ih =>
    intro v0 v1 v2 μ c_v0 h
    unfold fX7_step_b91 at h
    refine V_iload_n 2 (zdk tbX7_step_0_ok 46 rfl) rfl ?_
    refine V_aload_n 0 (zdk tbX7_step_0_ok 47 rfl) rfl ?_
    refine V_getI (zdk tbX7_step_0_ok 48 rfl) c_v0 fF7_99 rfl ?_
    refine V_icmp_ge (tgt := 127) (zdk tbX7_step_0_ok 49 rfl) (by decide) (fun c1 => ?_) (fun c1 => ?_)
    · replace h := ite_t h c1
      refine V_sub (ls' := [(0, .ref v0), (1, .int v1)]) [0, 1] rfl ?_
      exact tX7_step_b127 v0 v1 μ c_v0 h
    · replace h := ite_f h c1
      refine V_aload_n 0 (zdk tbX7_step_1_ok 0 rfl) rfl ?_
      refine V_iload_n 2 (zdk tbX7_step_1_ok 1 rfl) rfl ?_
      refine V_iload_n 2 (zdk tbX7_step_1_ok 2 rfl) rfl ?_
      refine V_aload_n 0 (zdk tbX7_step_1_ok 3 rfl) rfl ?_
      refine V_getI (zdk tbX7_step_1_ok 4 rfl) c_v0 fF7_16 rfl ?_
      refine V_icmp_ne (tgt := 117) (zdk tbX7_step_1_ok 5 rfl) (by decide) (fun c2 => ?_) (fun c2 => ?_)
      · replace h := ite_f h c2
        refine V_iconst (v := (-1)) (zdk tbX7_step_1_ok 10 rfl) rfl ?_
        exact tX7_step_b118 (fun v0 v1 v2 μ y0 h => ih v0 v1 v2 μ y0 h) v0 v1 v2 v0 v2 (-1 : Int32) μ c_v0 c_v0 h
      · replace h := ite_t h c2
        refine V_aload_n 0 (zdk tbX7_step_1_ok 6 rfl) rfl ?_
        refine V_iload_n 2 (zdk tbX7_step_1_ok 7 rfl) rfl ?_
        obtain ⟨μ4, r5, q3, h⟩ := bd2_some h
        refine V_callV (R1 := (rmd 1)) (As := [.int v2]) (r := (some (.int r5))) (zdk tbX7_step_1_ok 8 rfl) sC7_116 (tX7_toil q3) (c_v0) rfl rfl rfl ⟨Nat.le_of_ble_eq_true rfl, Nat.le_of_ble_eq_true rfl⟩ (Nat.le_of_ble_eq_true rfl) ⟨rfl, rfl⟩ id ?_
        refine V_goto (tgt := 118) (zdk tbX7_step_1_ok 9 rfl) (by decide) ?_
        exact tX7_step_b118 (fun v0 v1 v2 μ y0 h => ih v0 v1 v2 μ y0 h) v0 v1 v2 v0 v2 r5 μ4 c_v0 c_v0 h
def fX7_step_b86 (n : Nat) (v0 : Nat) (v1 : Int32) (s0 : Nat) (s1 : Int32) (μ : ZMem) : Option (ZMem) := lt (zpI μ s0 3 s1) (fun μ1 => (fX7_step_b91 n FU v0 v1 (0 : Int32) μ1))
theorem tX7_step_b86 {l : Launch} {fr : Bool} {n : Nat} {z : ZMem} (v0 : Nat) (v1 : Int32) (s0 : Nat) (s1 : Int32) (μ : ZMem) (c_v0 : isC n 7 v0 = true) (c_s0 : isC n 7 s0 = true) (h : fX7_step_b86 n v0 v1 s0 s1 μ = some z) : V (zkV l mX7_step (rmd 3) fr n z) fr 86 [(0, .ref v0), (1, .int v1)] [.int s1, .ref s0] n μ := by
  unfold fX7_step_b86 at h
  obtain ⟨μ1, e2, h⟩ := lt_some h
  refine V_putI (zdk tbX7_step_0_ok 43 rfl) c_s0 fF7_130 rfl rfl rfl e2 ?_
  refine V_iconst (v := 0) (zdk tbX7_step_0_ok 44 rfl) rfl ?_
  refine V_istore_n (ls' := [(0, .ref v0), (1, .int v1), (2, .int (0 : Int32))]) [1, 2, 0] (zdk tbX7_step_0_ok 45 rfl) (Nat.le_of_ble_eq_true rfl) rfl ?_
  exact tX7_step_b91 FU v0 v1 (0 : Int32) μ1 c_v0 h
def fX7_step (n : Nat) (v0 : Nat) (v1 : Int32) (μ : ZMem) : Option (ZMem) := chk (isC n 7 v0) ((if (zI μ v0 4) = (-1 : Int32) then (fX7_step_b10 n FU v0 v1 (0 : Int32) μ) else (if (zI μ v0 2) ≤ (zI μ v0 3) then (fX7_step_b127 n v0 v1 μ) else bd2 (fX7_pace n v0 (zI μ v0 4) μ) (fun μ4 r5 => (if ((zI μ v0 3) + r5) ≤ (zI μ4 v0 2) then bd2 (fX7_pace n v0 (zI μ4 v0 4) μ4) (fun μ8 r9 => (fX7_step_b86 n v0 v1 v0 ((zI μ4 v0 3) + r9) μ8)) else (fX7_step_b86 n v0 v1 v0 (zI μ4 v0 2) μ4))))))
theorem tX7_step {l : Launch} {fr : Bool} {n : Nat} {v0 : Nat} {v1 : Int32} {μ : ZMem} {z : ZMem} (h : fX7_step n v0 v1 μ = some z) : ZFn l mX7_step (rmd 3) [.ref v0, .int v1] fr n μ (fr, n, z, none) := by
  unfold fX7_step at h
  obtain ⟨c_v0, h⟩ := chk_some h
  refine ZFn.of (ls := [(0, .ref v0), (1, .int v1)]) (by decide) (fun ξ => Nat.le_of_ble_eq_true rfl) (fun ξ => rfl) ?_
  refine V_aload_n 0 (zdk tbX7_step_0_ok 0 rfl) rfl ?_
  refine V_getI (zdk tbX7_step_0_ok 1 rfl) c_v0 fF7_16 rfl ?_
  refine V_iconst (v := (-1)) (zdk tbX7_step_0_ok 2 rfl) rfl ?_
  refine V_icmp_ne (tgt := 34) (zdk tbX7_step_0_ok 3 rfl) (by decide) (fun c1 => ?_) (fun c1 => ?_)
  · replace h := ite_f h c1
    refine V_aload_n 0 (zdk tbX7_step_0_ok 17 rfl) rfl ?_
    refine V_getI (zdk tbX7_step_0_ok 18 rfl) c_v0 fF7_130 rfl ?_
    refine V_aload_n 0 (zdk tbX7_step_0_ok 19 rfl) rfl ?_
    refine V_getI (zdk tbX7_step_0_ok 20 rfl) c_v0 fF7_13 rfl ?_
    refine V_icmp_ge (tgt := 127) (zdk tbX7_step_0_ok 21 rfl) (by decide) (fun c2 => ?_) (fun c2 => ?_)
    · replace h := ite_t h c2
      exact tX7_step_b127 v0 v1 μ c_v0 h
    · replace h := ite_f h c2
      refine V_aload_n 0 (zdk tbX7_step_0_ok 22 rfl) rfl ?_
      refine V_aload_n 0 (zdk tbX7_step_0_ok 23 rfl) rfl ?_
      refine V_getI (zdk tbX7_step_0_ok 24 rfl) c_v0 fF7_130 rfl ?_
      refine V_aload_n 0 (zdk tbX7_step_0_ok 25 rfl) rfl ?_
      refine V_aload_n 0 (zdk tbX7_step_0_ok 26 rfl) rfl ?_
      refine V_getI (zdk tbX7_step_0_ok 27 rfl) c_v0 fF7_16 rfl ?_
      obtain ⟨μ4, r5, q3, h⟩ := bd2_some h
      refine V_callV (R1 := (rmd 1)) (As := [.int (zI μ v0 4)]) (r := (some (.int r5))) (zdk tbX7_step_0_ok 28 rfl) sC7_119 (tX7_pace q3) (c_v0) rfl rfl rfl ⟨Nat.le_of_ble_eq_true rfl, Nat.le_of_ble_eq_true rfl⟩ (Nat.le_of_ble_eq_true rfl) ⟨rfl, rfl⟩ id ?_
      refine V_iadd (zdk tbX7_step_0_ok 29 rfl) ?_
      refine V_aload_n 0 (zdk tbX7_step_0_ok 30 rfl) rfl ?_
      refine V_getI (zdk tbX7_step_0_ok 31 rfl) c_v0 fF7_13 rfl ?_
      refine V_icmp_le (tgt := 73) (zdk tbX7_step_0_ok 32 rfl) (by decide) (fun c6 => ?_) (fun c6 => ?_)
      · replace h := ite_t h c6
        refine V_aload_n 0 (zdk tbX7_step_0_ok 36 rfl) rfl ?_
        refine V_getI (zdk tbX7_step_0_ok 37 rfl) c_v0 fF7_130 rfl ?_
        refine V_aload_n 0 (zdk tbX7_step_0_ok 38 rfl) rfl ?_
        refine V_aload_n 0 (zdk tbX7_step_0_ok 39 rfl) rfl ?_
        refine V_getI (zdk tbX7_step_0_ok 40 rfl) c_v0 fF7_16 rfl ?_
        obtain ⟨μ8, r9, q7, h⟩ := bd2_some h
        refine V_callV (R1 := (rmd 1)) (As := [.int (zI μ4 v0 4)]) (r := (some (.int r9))) (zdk tbX7_step_0_ok 41 rfl) sC7_119 (tX7_pace q7) (c_v0) rfl rfl rfl ⟨Nat.le_of_ble_eq_true rfl, Nat.le_of_ble_eq_true rfl⟩ (Nat.le_of_ble_eq_true rfl) ⟨rfl, rfl⟩ id ?_
        refine V_iadd (zdk tbX7_step_0_ok 42 rfl) ?_
        exact tX7_step_b86 v0 v1 v0 ((zI μ4 v0 3) + r9) μ8 c_v0 c_v0 h
      · replace h := ite_f h c6
        refine V_aload_n 0 (zdk tbX7_step_0_ok 33 rfl) rfl ?_
        refine V_getI (zdk tbX7_step_0_ok 34 rfl) c_v0 fF7_13 rfl ?_
        refine V_goto (tgt := 86) (zdk tbX7_step_0_ok 35 rfl) (by decide) ?_
        exact tX7_step_b86 v0 v1 v0 (zI μ4 v0 2) μ4 c_v0 c_v0 h
  · replace h := ite_t h c1
    refine V_iconst (v := 0) (zdk tbX7_step_0_ok 4 rfl) rfl ?_
    refine V_istore_n (ls' := [(0, .ref v0), (1, .int v1), (2, .int (0 : Int32))]) [1, 2, 0] (zdk tbX7_step_0_ok 5 rfl) (Nat.le_of_ble_eq_true rfl) rfl ?_
    exact tX7_step_b10 FU v0 v1 (0 : Int32) μ c_v0 h

-- WhoComplainsCarriesModel.sighs
def tbX7_sighs_0 : List (Nat × Instr × Nat) := [(0, .iload_n 1, 1), (1, .ifCond .lt 8, 3), (4, .iload_n 1, 1), (5, .iconst 1, 1), (6, .if_icmp .le 10, 3), (9, .aload_n 0, 1), (10, .bipush (-5), 2), (12, .invokevirtual 106, 3), (15, .ireturn, 1), (16, .iconst 0, 1), (17, .istore_n 2, 1), (18, .iconst 0, 1), (19, .istore_n 3, 1), (20, .iload_n 3, 1), (21, .aload_n 0, 1), (22, .getfield 99, 3), (25, .if_icmp .ge 49, 3), (28, .aload_n 0, 1), (29, .iload_n 3, 1), (30, .iconst 0, 1), (31, .invokevirtual 193, 3), (34, .istore 4, 2), (36, .iload_n 1, 1), (37, .ifCond .ne 11, 3), (40, .iload 4, 2), (42, .ifCond .eq 26, 3), (45, .goto 17, 3), (48, .iload 4, 2), (50, .ifCond .ne 18, 3), (53, .aload_n 0, 1), (54, .iload_n 3, 1), (55, .iconst 5, 1), (56, .invokevirtual 193, 3), (59, .ifCond .eq 9, 3), (62, .iload_n 2, 1), (63, .iconst 1, 1), (64, .iload_n 3, 1), (65, .ishl, 1), (66, .iadd, 1), (67, .istore_n 2, 1), (68, .iinc 3 1, 3), (71, .goto (-51), 3), (74, .iload_n 2, 1), (75, .ireturn, 1)]
theorem tbX7_sighs_0_ok : ∀ q ∈ tbX7_sighs_0, decode cX7_sighs q.1 = .ok (q.2.1, q.2.2) := by decide +kernel
def fX7_sighs_b9 (n : Nat) (v0 : Nat) (μ : ZMem) : Option (ZMem × Int32) := bd2 (fX7_no n v0 (-5 : Int32) μ) (fun μ2 r3 => some (μ2, r3))
theorem tX7_sighs_b9 {l : Launch} {fr : Bool} {n : Nat} {z : ZMem × Int32} (v0 : Nat) (μ : ZMem) (c_v0 : isC n 7 v0 = true) (h : fX7_sighs_b9 n v0 μ = some z) : V (zkI l mX7_sighs (rmd 3) fr n z) fr 9 [(0, .ref v0)] [] n μ := by
  unfold fX7_sighs_b9 at h
  refine V_aload_n 0 (zdk tbX7_sighs_0_ok 5 rfl) rfl ?_
  refine V_bipush (v := (-5)) (zdk tbX7_sighs_0_ok 6 rfl) rfl ?_
  obtain ⟨μ2, r3, q1, h⟩ := bd2_some h
  refine V_callV (R1 := (rmd 1)) (As := [.int (-5 : Int32)]) (r := (some (.int r3))) (zdk tbX7_sighs_0_ok 7 rfl) sC7_106 (tX7_no q1) (c_v0) rfl rfl rfl ⟨Nat.le_of_ble_eq_true rfl, Nat.le_of_ble_eq_true rfl⟩ (Nat.le_of_ble_eq_true rfl) ⟨rfl, rfl⟩ id ?_
  cases h
  exact V_iret (zdk tbX7_sighs_0_ok 8 rfl) rfl rfl
def fX7_sighs_b68 (g20 : Nat → Int32 → Int32 → Int32 → ZMem → Option (ZMem × Int32)) (n : Nat) (v0 : Nat) (v1 : Int32) (v2 : Int32) (v3 : Int32) (μ : ZMem) : Option (ZMem × Int32) := (g20 v0 v1 v2 (v3 + (1 : Int32)) μ)
theorem tX7_sighs_b68 {l : Launch} {fr : Bool} {n : Nat} {z : ZMem × Int32} {g20 : Nat → Int32 → Int32 → Int32 → ZMem → Option (ZMem × Int32)} (hg20 : ∀ (v0 : Nat) (v1 : Int32) (v2 : Int32) (v3 : Int32) (μ : ZMem), isC n 7 v0 = true → g20 v0 v1 v2 v3 μ = some z → V (zkI l mX7_sighs (rmd 3) fr n z) fr 20 [(0, .ref v0), (1, .int v1), (2, .int v2), (3, .int v3)] [] n μ) (v0 : Nat) (v1 : Int32) (v2 : Int32) (v3 : Int32) (μ : ZMem) (c_v0 : isC n 7 v0 = true) (h : fX7_sighs_b68 g20 n v0 v1 v2 v3 μ = some z) : V (zkI l mX7_sighs (rmd 3) fr n z) fr 68 [(0, .ref v0), (1, .int v1), (2, .int v2), (3, .int v3)] [] n μ := by
  unfold fX7_sighs_b68 at h
  refine V_inc (dx := 1) (ls' := [(0, .ref v0), (1, .int v1), (2, .int v2), (3, .int (v3 + (1 : Int32)))]) 3 [1, 2, 3, 0] (zdk tbX7_sighs_0_ok 40 rfl) rfl (Nat.le_of_ble_eq_true rfl) rfl rfl ?_
  refine V_goto (tgt := 20) (zdk tbX7_sighs_0_ok 41 rfl) (by decide) ?_
  exact hg20 v0 v1 v2 (v3 + (1 : Int32)) μ c_v0 h
def fX7_sighs_b62 (g20 : Nat → Int32 → Int32 → Int32 → ZMem → Option (ZMem × Int32)) (n : Nat) (v0 : Nat) (v1 : Int32) (v2 : Int32) (v3 : Int32) (μ : ZMem) : Option (ZMem × Int32) := (fX7_sighs_b68 g20 n v0 v1 (v2 + ((1 : Int32) <<< (v3 &&& 31))) v3 μ)
theorem tX7_sighs_b62 {l : Launch} {fr : Bool} {n : Nat} {z : ZMem × Int32} {g20 : Nat → Int32 → Int32 → Int32 → ZMem → Option (ZMem × Int32)} (hg20 : ∀ (v0 : Nat) (v1 : Int32) (v2 : Int32) (v3 : Int32) (μ : ZMem), isC n 7 v0 = true → g20 v0 v1 v2 v3 μ = some z → V (zkI l mX7_sighs (rmd 3) fr n z) fr 20 [(0, .ref v0), (1, .int v1), (2, .int v2), (3, .int v3)] [] n μ) (v0 : Nat) (v1 : Int32) (v2 : Int32) (v3 : Int32) (μ : ZMem) (c_v0 : isC n 7 v0 = true) (h : fX7_sighs_b62 g20 n v0 v1 v2 v3 μ = some z) : V (zkI l mX7_sighs (rmd 3) fr n z) fr 62 [(0, .ref v0), (1, .int v1), (2, .int v2), (3, .int v3)] [] n μ := by
  unfold fX7_sighs_b62 at h
  refine V_iload_n 2 (zdk tbX7_sighs_0_ok 34 rfl) rfl ?_
  refine V_iconst (v := 1) (zdk tbX7_sighs_0_ok 35 rfl) rfl ?_
  refine V_iload_n 3 (zdk tbX7_sighs_0_ok 36 rfl) rfl ?_
  refine V_ishl (zdk tbX7_sighs_0_ok 37 rfl) ?_
  refine V_iadd (zdk tbX7_sighs_0_ok 38 rfl) ?_
  refine V_istore_n (ls' := [(0, .ref v0), (1, .int v1), (2, .int (v2 + ((1 : Int32) <<< (v3 &&& 31)))), (3, .int v3)]) [1, 2, 0, 3] (zdk tbX7_sighs_0_ok 39 rfl) (Nat.le_of_ble_eq_true rfl) rfl ?_
  exact tX7_sighs_b68 hg20 v0 v1 (v2 + ((1 : Int32) <<< (v3 &&& 31))) v3 μ c_v0 h
def fX7_sighs_b20 (n : Nat) : Nat → Nat → Int32 → Int32 → Int32 → ZMem → Option (ZMem × Int32)
  | 0, _, _, _, _, _ => none
  | k + 1, v0, v1, v2, v3, μ => (if (zI μ v0 0) ≤ v3 then some (μ, v2) else bd2 (fX7_wouldSigh n v0 v3 (0 : Int32) μ) (fun μ3 r4 => (if v1 = 0 then (if r4 = 0 then (fX7_sighs_b68 (fX7_sighs_b20 n k) n v0 v1 v2 v3 μ3) else (fX7_sighs_b62 (fX7_sighs_b20 n k) n v0 v1 v2 v3 μ3)) else (if r4 = 0 then bd2 (fX7_wouldSigh n v0 v3 (5 : Int32) μ3) (fun μ8 r9 => (if r9 = 0 then (fX7_sighs_b68 (fX7_sighs_b20 n k) n v0 v1 v2 v3 μ8) else (fX7_sighs_b62 (fX7_sighs_b20 n k) n v0 v1 v2 v3 μ8))) else (fX7_sighs_b68 (fX7_sighs_b20 n k) n v0 v1 v2 v3 μ3)))))
theorem tX7_sighs_b20 {l : Launch} {fr : Bool} {n : Nat} {z : ZMem × Int32} : ∀ (k : Nat) (v0 : Nat) (v1 : Int32) (v2 : Int32) (v3 : Int32) (μ : ZMem) (c_v0 : isC n 7 v0 = true), fX7_sighs_b20 n k v0 v1 v2 v3 μ = some z → V (zkI l mX7_sighs (rmd 3) fr n z) fr 20 [(0, .ref v0), (1, .int v1), (2, .int v2), (3, .int v3)] [] n μ := by
  intro k
  induction k with
  | zero =>
    intro v0 v1 v2 v3 μ c_v0 h
    unfold fX7_sighs_b20 at h
    cases h
  | succ k ih =>
    intro v0 v1 v2 v3 μ c_v0 h
    unfold fX7_sighs_b20 at h
    refine V_iload_n 3 (zdk tbX7_sighs_0_ok 13 rfl) rfl ?_
    refine V_aload_n 0 (zdk tbX7_sighs_0_ok 14 rfl) rfl ?_
    refine V_getI (zdk tbX7_sighs_0_ok 15 rfl) c_v0 fF7_99 rfl ?_
    refine V_icmp_ge (tgt := 74) (zdk tbX7_sighs_0_ok 16 rfl) (by decide) (fun c1 => ?_) (fun c1 => ?_)
    · replace h := ite_t h c1
      refine V_iload_n 2 (zdk tbX7_sighs_0_ok 42 rfl) rfl ?_
      cases h
      exact V_iret (zdk tbX7_sighs_0_ok 43 rfl) rfl rfl
    · replace h := ite_f h c1
      refine V_aload_n 0 (zdk tbX7_sighs_0_ok 17 rfl) rfl ?_
      refine V_iload_n 3 (zdk tbX7_sighs_0_ok 18 rfl) rfl ?_
      refine V_iconst (v := 0) (zdk tbX7_sighs_0_ok 19 rfl) rfl ?_
      obtain ⟨μ3, r4, q2, h⟩ := bd2_some h
      refine V_callV (R1 := (rmd 2)) (As := [.int v3, .int (0 : Int32)]) (r := (some (.int r4))) (zdk tbX7_sighs_0_ok 20 rfl) sC7_193 (tX7_wouldSigh q2) (c_v0) rfl rfl rfl ⟨Nat.le_of_ble_eq_true rfl, Nat.le_of_ble_eq_true rfl⟩ (Nat.le_of_ble_eq_true rfl) ⟨rfl, rfl⟩ id ?_
      refine V_istore (ls' := [(0, .ref v0), (1, .int v1), (2, .int v2), (3, .int v3), (4, .int r4)]) [1, 2, 3, 4, 0] (zdk tbX7_sighs_0_ok 21 rfl) (Nat.le_of_ble_eq_true rfl) rfl ?_
      refine V_iload_n 1 (zdk tbX7_sighs_0_ok 22 rfl) rfl ?_
      refine V_if_ne (tgt := 48) (zdk tbX7_sighs_0_ok 23 rfl) (by decide) (fun c5 => ?_) (fun c5 => ?_)
      · replace h := ite_f h c5
        refine V_iload 4 (zdk tbX7_sighs_0_ok 27 rfl) rfl ?_
        refine V_if_ne (tgt := 68) (zdk tbX7_sighs_0_ok 28 rfl) (by decide) (fun c6 => ?_) (fun c6 => ?_)
        · replace h := ite_f h c6
          refine V_sub (ls' := [(0, .ref v0), (1, .int v1), (2, .int v2), (3, .int v3)]) [0, 1, 2, 3] rfl ?_
          exact tX7_sighs_b68 (fun v0 v1 v2 v3 μ y0 h => ih v0 v1 v2 v3 μ y0 h) v0 v1 v2 v3 μ3 c_v0 h
        · replace h := ite_t h c6
          refine V_aload_n 0 (zdk tbX7_sighs_0_ok 29 rfl) rfl ?_
          refine V_iload_n 3 (zdk tbX7_sighs_0_ok 30 rfl) rfl ?_
          refine V_iconst (v := 5) (zdk tbX7_sighs_0_ok 31 rfl) rfl ?_
          obtain ⟨μ8, r9, q7, h⟩ := bd2_some h
          refine V_callV (R1 := (rmd 2)) (As := [.int v3, .int (5 : Int32)]) (r := (some (.int r9))) (zdk tbX7_sighs_0_ok 32 rfl) sC7_193 (tX7_wouldSigh q7) (c_v0) rfl rfl rfl ⟨Nat.le_of_ble_eq_true rfl, Nat.le_of_ble_eq_true rfl⟩ (Nat.le_of_ble_eq_true rfl) ⟨rfl, rfl⟩ id ?_
          refine V_if_eq (tgt := 68) (zdk tbX7_sighs_0_ok 33 rfl) (by decide) (fun c10 => ?_) (fun c10 => ?_)
          · replace h := ite_t h c10
            refine V_sub (ls' := [(0, .ref v0), (1, .int v1), (2, .int v2), (3, .int v3)]) [0, 1, 2, 3] rfl ?_
            exact tX7_sighs_b68 (fun v0 v1 v2 v3 μ y0 h => ih v0 v1 v2 v3 μ y0 h) v0 v1 v2 v3 μ8 c_v0 h
          · replace h := ite_f h c10
            refine V_sub (ls' := [(0, .ref v0), (1, .int v1), (2, .int v2), (3, .int v3)]) [0, 1, 2, 3] rfl ?_
            exact tX7_sighs_b62 (fun v0 v1 v2 v3 μ y0 h => ih v0 v1 v2 v3 μ y0 h) v0 v1 v2 v3 μ8 c_v0 h
      · replace h := ite_t h c5
        refine V_iload 4 (zdk tbX7_sighs_0_ok 24 rfl) rfl ?_
        refine V_if_eq (tgt := 68) (zdk tbX7_sighs_0_ok 25 rfl) (by decide) (fun c11 => ?_) (fun c11 => ?_)
        · replace h := ite_t h c11
          refine V_sub (ls' := [(0, .ref v0), (1, .int v1), (2, .int v2), (3, .int v3)]) [0, 1, 2, 3] rfl ?_
          exact tX7_sighs_b68 (fun v0 v1 v2 v3 μ y0 h => ih v0 v1 v2 v3 μ y0 h) v0 v1 v2 v3 μ3 c_v0 h
        · replace h := ite_f h c11
          refine V_goto (tgt := 62) (zdk tbX7_sighs_0_ok 26 rfl) (by decide) ?_
          refine V_sub (ls' := [(0, .ref v0), (1, .int v1), (2, .int v2), (3, .int v3)]) [0, 1, 2, 3] rfl ?_
          exact tX7_sighs_b62 (fun v0 v1 v2 v3 μ y0 h => ih v0 v1 v2 v3 μ y0 h) v0 v1 v2 v3 μ3 c_v0 h
def fX7_sighs (n : Nat) (v0 : Nat) (v1 : Int32) (μ : ZMem) : Option (ZMem × Int32) := chk (isC n 7 v0) ((if v1 < 0 then (fX7_sighs_b9 n v0 μ) else (if v1 ≤ (1 : Int32) then (fX7_sighs_b20 n FU v0 v1 (0 : Int32) (0 : Int32) μ) else (fX7_sighs_b9 n v0 μ))))
theorem tX7_sighs {l : Launch} {fr : Bool} {n : Nat} {v0 : Nat} {v1 : Int32} {μ : ZMem} {z : ZMem × Int32} (h : fX7_sighs n v0 v1 μ = some z) : ZFn l mX7_sighs (rmd 3) [.ref v0, .int v1] fr n μ (fr, n, z.1, some (.int z.2)) := by
  unfold fX7_sighs at h
  obtain ⟨c_v0, h⟩ := chk_some h
  refine ZFn.of (ls := [(0, .ref v0), (1, .int v1)]) (by decide) (fun ξ => Nat.le_of_ble_eq_true rfl) (fun ξ => rfl) ?_
  refine V_iload_n 1 (zdk tbX7_sighs_0_ok 0 rfl) rfl ?_
  refine V_if_lt (tgt := 9) (zdk tbX7_sighs_0_ok 1 rfl) (by decide) (fun c1 => ?_) (fun c1 => ?_)
  · replace h := ite_t h c1
    refine V_sub (ls' := [(0, .ref v0)]) [0] rfl ?_
    exact tX7_sighs_b9 v0 μ c_v0 h
  · replace h := ite_f h c1
    refine V_iload_n 1 (zdk tbX7_sighs_0_ok 2 rfl) rfl ?_
    refine V_iconst (v := 1) (zdk tbX7_sighs_0_ok 3 rfl) rfl ?_
    refine V_icmp_le (tgt := 16) (zdk tbX7_sighs_0_ok 4 rfl) (by decide) (fun c2 => ?_) (fun c2 => ?_)
    · replace h := ite_t h c2
      refine V_iconst (v := 0) (zdk tbX7_sighs_0_ok 9 rfl) rfl ?_
      refine V_istore_n (ls' := [(0, .ref v0), (1, .int v1), (2, .int (0 : Int32))]) [1, 2, 0] (zdk tbX7_sighs_0_ok 10 rfl) (Nat.le_of_ble_eq_true rfl) rfl ?_
      refine V_iconst (v := 0) (zdk tbX7_sighs_0_ok 11 rfl) rfl ?_
      refine V_istore_n (ls' := [(0, .ref v0), (1, .int v1), (2, .int (0 : Int32)), (3, .int (0 : Int32))]) [1, 2, 3, 0] (zdk tbX7_sighs_0_ok 12 rfl) (Nat.le_of_ble_eq_true rfl) rfl ?_
      exact tX7_sighs_b20 FU v0 v1 (0 : Int32) (0 : Int32) μ c_v0 h
    · replace h := ite_f h c2
      refine V_sub (ls' := [(0, .ref v0)]) [0] rfl ?_
      exact tX7_sighs_b9 v0 μ c_v0 h

-- WhoComplainsCarriesModel.ready
def tbX7_ready_0 : List (Nat × Instr × Nat) := [(0, .aload_n 0, 1), (1, .iload_n 1, 1), (2, .invokevirtual 110, 3), (5, .ifCond .ne 9, 3), (8, .aload_n 0, 1), (9, .iconst (-1), 1), (10, .invokevirtual 133, 3), (13, .ireturn, 1), (14, .aload_n 0, 1), (15, .getfield 32, 3), (18, .iload_n 1, 1), (19, .iaload, 1), (20, .iconst 5, 1), (21, .if_icmp .ne 5, 3), (24, .iconst (-1), 1), (25, .ireturn, 1), (26, .aload_n 0, 1), (27, .iload_n 1, 1), (28, .iconst 0, 1), (29, .invokevirtual 193, 3), (32, .ifCond .eq 7, 3), (35, .iconst 0, 1), (36, .goto 17, 3), (39, .aload_n 0, 1), (40, .iload_n 1, 1), (41, .invokevirtual 113, 3), (44, .iconst 1, 1), (45, .iadd, 1), (46, .aload_n 0, 1), (47, .getfield 44, 3), (50, .iload_n 1, 1), (51, .iaload, 1), (52, .isub, 1), (53, .ireturn, 1)]
theorem tbX7_ready_0_ok : ∀ q ∈ tbX7_ready_0, decode cX7_ready q.1 = .ok (q.2.1, q.2.2) := by decide +kernel
def fX7_ready_b53 (n : Nat) (s0 : Int32) (μ : ZMem) : Option (ZMem × Int32) := some (μ, s0)
theorem tX7_ready_b53 {l : Launch} {fr : Bool} {n : Nat} {z : ZMem × Int32} (s0 : Int32) (μ : ZMem) (h : fX7_ready_b53 n s0 μ = some z) : V (zkI l mX7_ready (rmd 3) fr n z) fr 53 [] [.int s0] n μ := by
  unfold fX7_ready_b53 at h
  cases h
  exact V_iret (zdk tbX7_ready_0_ok 33 rfl) rfl rfl
def fX7_ready (n : Nat) (v0 : Nat) (v1 : Int32) (μ : ZMem) : Option (ZMem × Int32) := chk (isC n 7 v0) (bd2 (fX7_isOne n v0 v1 μ) (fun μ2 r3 => (if r3 = 0 then bd2 (fX7_noTen n v0 (-1 : Int32) μ2) (fun μ20 r21 => some (μ20, r21)) else bd1 (zRc n 100 μ2 v0 10) (fun r5 => chk (inb v1 r5) ((if (zI μ2 r5 v1.toNatClampNeg) = (5 : Int32) then some (μ2, (-1 : Int32)) else bd2 (fX7_wouldSigh n v0 v1 (0 : Int32) μ2) (fun μ10 r11 => (if r11 = 0 then bd2 (fX7_limit n v0 v1 μ10) (fun μ14 r15 => bd1 (zRc n 100 μ14 v0 14) (fun r16 => chk (inb v1 r16) ((fX7_ready_b53 n ((r15 + (1 : Int32)) - (zI μ14 r16 v1.toNatClampNeg)) μ14)))) else (fX7_ready_b53 n (0 : Int32) μ10)))))))))
theorem tX7_ready {l : Launch} {fr : Bool} {n : Nat} {v0 : Nat} {v1 : Int32} {μ : ZMem} {z : ZMem × Int32} (h : fX7_ready n v0 v1 μ = some z) : ZFn l mX7_ready (rmd 3) [.ref v0, .int v1] fr n μ (fr, n, z.1, some (.int z.2)) := by
  unfold fX7_ready at h
  obtain ⟨c_v0, h⟩ := chk_some h
  refine ZFn.of (ls := [(0, .ref v0), (1, .int v1)]) (by decide) (fun ξ => Nat.le_of_ble_eq_true rfl) (fun ξ => rfl) ?_
  refine V_aload_n 0 (zdk tbX7_ready_0_ok 0 rfl) rfl ?_
  refine V_iload_n 1 (zdk tbX7_ready_0_ok 1 rfl) rfl ?_
  obtain ⟨μ2, r3, q1, h⟩ := bd2_some h
  refine V_callV (R1 := (rmd 1)) (As := [.int v1]) (r := (some (.int r3))) (zdk tbX7_ready_0_ok 2 rfl) sC7_110 (tX7_isOne q1) (c_v0) rfl rfl rfl ⟨Nat.le_of_ble_eq_true rfl, Nat.le_of_ble_eq_true rfl⟩ (Nat.le_of_ble_eq_true rfl) ⟨rfl, rfl⟩ id ?_
  refine V_if_ne (tgt := 14) (zdk tbX7_ready_0_ok 3 rfl) (by decide) (fun c4 => ?_) (fun c4 => ?_)
  · replace h := ite_f h c4
    refine V_aload_n 0 (zdk tbX7_ready_0_ok 8 rfl) rfl ?_
    obtain ⟨r5, q6, h⟩ := bd1_some h
    obtain ⟨q6, c_r5⟩ := zRc_some q6
    refine V_getR (zdk tbX7_ready_0_ok 9 rfl) c_v0 fF7_32 rfl q6 ?_
    refine V_iload_n 1 (zdk tbX7_ready_0_ok 10 rfl) rfl ?_
    obtain ⟨b7, h⟩ := chk_some h
    refine V_iald (zdk tbX7_ready_0_ok 11 rfl) c_r5 b7 ?_
    refine V_iconst (v := 5) (zdk tbX7_ready_0_ok 12 rfl) rfl ?_
    refine V_icmp_ne (tgt := 26) (zdk tbX7_ready_0_ok 13 rfl) (by decide) (fun c8 => ?_) (fun c8 => ?_)
    · replace h := ite_f h c8
      refine V_aload_n 0 (zdk tbX7_ready_0_ok 16 rfl) rfl ?_
      refine V_iload_n 1 (zdk tbX7_ready_0_ok 17 rfl) rfl ?_
      refine V_iconst (v := 0) (zdk tbX7_ready_0_ok 18 rfl) rfl ?_
      obtain ⟨μ10, r11, q9, h⟩ := bd2_some h
      refine V_callV (R1 := (rmd 2)) (As := [.int v1, .int (0 : Int32)]) (r := (some (.int r11))) (zdk tbX7_ready_0_ok 19 rfl) sC7_193 (tX7_wouldSigh q9) (c_v0) rfl rfl rfl ⟨Nat.le_of_ble_eq_true rfl, Nat.le_of_ble_eq_true rfl⟩ (Nat.le_of_ble_eq_true rfl) ⟨rfl, rfl⟩ id ?_
      refine V_if_eq (tgt := 39) (zdk tbX7_ready_0_ok 20 rfl) (by decide) (fun c12 => ?_) (fun c12 => ?_)
      · replace h := ite_t h c12
        refine V_aload_n 0 (zdk tbX7_ready_0_ok 23 rfl) rfl ?_
        refine V_iload_n 1 (zdk tbX7_ready_0_ok 24 rfl) rfl ?_
        obtain ⟨μ14, r15, q13, h⟩ := bd2_some h
        refine V_callV (R1 := (rmd 1)) (As := [.int v1]) (r := (some (.int r15))) (zdk tbX7_ready_0_ok 25 rfl) sC7_113 (tX7_limit q13) (c_v0) rfl rfl rfl ⟨Nat.le_of_ble_eq_true rfl, Nat.le_of_ble_eq_true rfl⟩ (Nat.le_of_ble_eq_true rfl) ⟨rfl, rfl⟩ id ?_
        refine V_iconst (v := 1) (zdk tbX7_ready_0_ok 26 rfl) rfl ?_
        refine V_iadd (zdk tbX7_ready_0_ok 27 rfl) ?_
        refine V_aload_n 0 (zdk tbX7_ready_0_ok 28 rfl) rfl ?_
        obtain ⟨r16, q17, h⟩ := bd1_some h
        obtain ⟨q17, c_r16⟩ := zRc_some q17
        refine V_getR (zdk tbX7_ready_0_ok 29 rfl) c_v0 fF7_44 rfl q17 ?_
        refine V_iload_n 1 (zdk tbX7_ready_0_ok 30 rfl) rfl ?_
        obtain ⟨b18, h⟩ := chk_some h
        refine V_iald (zdk tbX7_ready_0_ok 31 rfl) c_r16 b18 ?_
        refine V_isub (zdk tbX7_ready_0_ok 32 rfl) ?_
        refine V_sub (ls' := []) [] rfl ?_
        exact tX7_ready_b53 ((r15 + (1 : Int32)) - (zI μ14 r16 v1.toNatClampNeg)) μ14  h
      · replace h := ite_f h c12
        refine V_iconst (v := 0) (zdk tbX7_ready_0_ok 21 rfl) rfl ?_
        refine V_goto (tgt := 53) (zdk tbX7_ready_0_ok 22 rfl) (by decide) ?_
        refine V_sub (ls' := []) [] rfl ?_
        exact tX7_ready_b53 (0 : Int32) μ10  h
    · replace h := ite_t h c8
      refine V_iconst (v := (-1)) (zdk tbX7_ready_0_ok 14 rfl) rfl ?_
      cases h
      exact V_iret (zdk tbX7_ready_0_ok 15 rfl) rfl rfl
  · replace h := ite_t h c4
    refine V_aload_n 0 (zdk tbX7_ready_0_ok 4 rfl) rfl ?_
    refine V_iconst (v := (-1)) (zdk tbX7_ready_0_ok 5 rfl) rfl ?_
    obtain ⟨μ20, r21, q19, h⟩ := bd2_some h
    refine V_callV (R1 := (rmd 1)) (As := [.int (-1 : Int32)]) (r := (some (.int r21))) (zdk tbX7_ready_0_ok 6 rfl) sC7_133 (tX7_noTen q19) (c_v0) rfl rfl rfl ⟨Nat.le_of_ble_eq_true rfl, Nat.le_of_ble_eq_true rfl⟩ (Nat.le_of_ble_eq_true rfl) ⟨rfl, rfl⟩ id ?_
    cases h
    exact V_iret (zdk tbX7_ready_0_ok 7 rfl) rfl rfl

-- WhoComplainsCarriesModel.ahead
def tbX7_ahead_0 : List (Nat × Instr × Nat) := [(0, .iload_n 2, 1), (1, .ifCond .lt 8, 3), (4, .iload_n 2, 1), (5, .iconst 1, 1), (6, .if_icmp .le 10, 3), (9, .aload_n 0, 1), (10, .bipush (-5), 2), (12, .invokevirtual 133, 3), (15, .ireturn, 1), (16, .aload_n 0, 1), (17, .iload_n 1, 1), (18, .iconst 0, 1), (19, .bipush 60, 2), (21, .invokevirtual 122, 3), (24, .ifCond .ne 10, 3), (27, .aload_n 0, 1), (28, .bipush (-6), 2), (30, .invokevirtual 133, 3), (33, .ireturn, 1), (34, .aload_n 0, 1), (35, .aload_n 0, 1), (36, .getfield 84, 3), (39, .iconst 0, 1), (40, .invokevirtual 182, 3), (43, .iconst 0, 1), (44, .istore_n 3, 1), (45, .iload_n 3, 1), (46, .iload_n 1, 1), (47, .if_icmp .ge 14, 3), (50, .aload_n 0, 1), (51, .iconst 0, 1), (52, .invokevirtual 196, 3), (55, .iinc 3 1, 3), (58, .goto (-13), 3), (61, .iload_n 2, 1), (62, .ifCond .ne 10, 3), (65, .aload_n 0, 1), (66, .getfield 16, 3), (69, .goto 7, 3), (72, .aload_n 0, 1), (73, .getfield 130, 3), (76, .istore_n 3, 1), (77, .aload_n 0, 1), (78, .aload_n 0, 1), (79, .getfield 84, 3), (82, .iconst 1, 1), (83, .invokevirtual 182, 3), (86, .iload_n 3, 1), (87, .ireturn, 1)]
theorem tbX7_ahead_0_ok : ∀ q ∈ tbX7_ahead_0, decode cX7_ahead q.1 = .ok (q.2.1, q.2.2) := by decide +kernel
theorem wCX7_step : zCW mX7_step 1 := ⟨zin (i := 8) (by decide +kernel) rfl, zin (i := 1095) (by decide +kernel) rfl, by decide +kernel, by decide +kernel, by decide +kernel⟩
theorem sC7_196 : zCV RX7 196 mX7_step 1 := ⟨zin (i := 1092) (by decide +kernel) rfl, zin (i := 1094) (by decide +kernel) rfl, zinP (i := 49) (q := (yX7_step, 42)) (by decide +kernel) rfl, wCX7_step⟩
def fX7_ahead_b9 (n : Nat) (v0 : Nat) (μ : ZMem) : Option (ZMem × Int32) := bd2 (fX7_noTen n v0 (-5 : Int32) μ) (fun μ2 r3 => some (μ2, r3))
theorem tX7_ahead_b9 {l : Launch} {fr : Bool} {n : Nat} {z : ZMem × Int32} (v0 : Nat) (μ : ZMem) (c_v0 : isC n 7 v0 = true) (h : fX7_ahead_b9 n v0 μ = some z) : V (zkI l mX7_ahead (rmd 4) fr n z) fr 9 [(0, .ref v0)] [] n μ := by
  unfold fX7_ahead_b9 at h
  refine V_aload_n 0 (zdk tbX7_ahead_0_ok 5 rfl) rfl ?_
  refine V_bipush (v := (-5)) (zdk tbX7_ahead_0_ok 6 rfl) rfl ?_
  obtain ⟨μ2, r3, q1, h⟩ := bd2_some h
  refine V_callV (R1 := (rmd 1)) (As := [.int (-5 : Int32)]) (r := (some (.int r3))) (zdk tbX7_ahead_0_ok 7 rfl) sC7_133 (tX7_noTen q1) (c_v0) rfl rfl rfl ⟨Nat.le_of_ble_eq_true rfl, Nat.le_of_ble_eq_true rfl⟩ (Nat.le_of_ble_eq_true rfl) ⟨rfl, rfl⟩ id ?_
  cases h
  exact V_iret (zdk tbX7_ahead_0_ok 8 rfl) rfl rfl
def fX7_ahead_b76 (n : Nat) (v0 : Nat) (s0 : Int32) (μ : ZMem) : Option (ZMem × Int32) := bd1 (zRc n 100 μ v0 32) (fun r1 => bd1 (fX7_all n v0 r1 (1 : Int32) μ) (fun μ4 => some (μ4, s0)))
theorem tX7_ahead_b76 {l : Launch} {fr : Bool} {n : Nat} {z : ZMem × Int32} (v0 : Nat) (s0 : Int32) (μ : ZMem) (c_v0 : isC n 7 v0 = true) (h : fX7_ahead_b76 n v0 s0 μ = some z) : V (zkI l mX7_ahead (rmd 4) fr n z) fr 76 [(0, .ref v0)] [.int s0] n μ := by
  unfold fX7_ahead_b76 at h
  refine V_istore_n (ls' := [(0, .ref v0), (3, .int s0)]) [1, 0] (zdk tbX7_ahead_0_ok 41 rfl) (Nat.le_of_ble_eq_true rfl) rfl ?_
  refine V_aload_n 0 (zdk tbX7_ahead_0_ok 42 rfl) rfl ?_
  refine V_aload_n 0 (zdk tbX7_ahead_0_ok 43 rfl) rfl ?_
  obtain ⟨r1, q2, h⟩ := bd1_some h
  obtain ⟨q2, c_r1⟩ := zRc_some q2
  refine V_getR (zdk tbX7_ahead_0_ok 44 rfl) c_v0 fF7_84 rfl q2 ?_
  refine V_iconst (v := 1) (zdk tbX7_ahead_0_ok 45 rfl) rfl ?_
  obtain ⟨μ4, q3, h⟩ := bd1_some h
  refine V_callV (R1 := (rmd 2)) (As := [.ref r1, .int (1 : Int32)]) (r := none) (zdk tbX7_ahead_0_ok 46 rfl) sC7_182 (tX7_all q3) (c_v0) rfl rfl rfl ⟨Nat.le_of_ble_eq_true rfl, Nat.le_of_ble_eq_true rfl⟩ (Nat.le_of_ble_eq_true rfl) ⟨rfl, rfl⟩ id ?_
  refine V_iload_n 1 (zdk tbX7_ahead_0_ok 47 rfl) rfl ?_
  cases h
  exact V_iret (zdk tbX7_ahead_0_ok 48 rfl) rfl rfl
def fX7_ahead_b45 (n : Nat) : Nat → Nat → Int32 → Int32 → Int32 → ZMem → Option (ZMem × Int32)
  | 0, _, _, _, _, _ => none
  | k + 1, v0, v1, v2, v3, μ => (if v1 ≤ v3 then (if v2 = 0 then (fX7_ahead_b76 n v0 (zI μ v0 4) μ) else (fX7_ahead_b76 n v0 (zI μ v0 3) μ)) else bd1 (fX7_step n v0 (0 : Int32) μ) (fun μ4 => (fX7_ahead_b45 n k v0 v1 v2 (v3 + (1 : Int32)) μ4)))
theorem tX7_ahead_b45 {l : Launch} {fr : Bool} {n : Nat} {z : ZMem × Int32} : ∀ (k : Nat) (v0 : Nat) (v1 : Int32) (v2 : Int32) (v3 : Int32) (μ : ZMem) (c_v0 : isC n 7 v0 = true), fX7_ahead_b45 n k v0 v1 v2 v3 μ = some z → V (zkI l mX7_ahead (rmd 4) fr n z) fr 45 [(0, .ref v0), (1, .int v1), (2, .int v2), (3, .int v3)] [] n μ := by
  intro k
  induction k with
  | zero =>
    intro v0 v1 v2 v3 μ c_v0 h
    unfold fX7_ahead_b45 at h
    cases h
  | succ k ih =>
    intro v0 v1 v2 v3 μ c_v0 h
    unfold fX7_ahead_b45 at h
    refine V_iload_n 3 (zdk tbX7_ahead_0_ok 26 rfl) rfl ?_
    refine V_iload_n 1 (zdk tbX7_ahead_0_ok 27 rfl) rfl ?_
    refine V_icmp_ge (tgt := 61) (zdk tbX7_ahead_0_ok 28 rfl) (by decide) (fun c1 => ?_) (fun c1 => ?_)
    · replace h := ite_t h c1
      refine V_iload_n 2 (zdk tbX7_ahead_0_ok 34 rfl) rfl ?_
      refine V_if_ne (tgt := 72) (zdk tbX7_ahead_0_ok 35 rfl) (by decide) (fun c2 => ?_) (fun c2 => ?_)
      · replace h := ite_f h c2
        refine V_aload_n 0 (zdk tbX7_ahead_0_ok 39 rfl) rfl ?_
        refine V_getI (zdk tbX7_ahead_0_ok 40 rfl) c_v0 fF7_130 rfl ?_
        refine V_sub (ls' := [(0, .ref v0)]) [0] rfl ?_
        exact tX7_ahead_b76 v0 (zI μ v0 3) μ c_v0 h
      · replace h := ite_t h c2
        refine V_aload_n 0 (zdk tbX7_ahead_0_ok 36 rfl) rfl ?_
        refine V_getI (zdk tbX7_ahead_0_ok 37 rfl) c_v0 fF7_16 rfl ?_
        refine V_goto (tgt := 76) (zdk tbX7_ahead_0_ok 38 rfl) (by decide) ?_
        refine V_sub (ls' := [(0, .ref v0)]) [0] rfl ?_
        exact tX7_ahead_b76 v0 (zI μ v0 4) μ c_v0 h
    · replace h := ite_f h c1
      refine V_aload_n 0 (zdk tbX7_ahead_0_ok 29 rfl) rfl ?_
      refine V_iconst (v := 0) (zdk tbX7_ahead_0_ok 30 rfl) rfl ?_
      obtain ⟨μ4, q3, h⟩ := bd1_some h
      refine V_callV (R1 := (rmd 3)) (As := [.int (0 : Int32)]) (r := none) (zdk tbX7_ahead_0_ok 31 rfl) sC7_196 (tX7_step q3) (c_v0) rfl rfl rfl ⟨Nat.le_of_ble_eq_true rfl, Nat.le_of_ble_eq_true rfl⟩ (Nat.le_of_ble_eq_true rfl) ⟨rfl, rfl⟩ id ?_
      refine V_inc (dx := 1) (ls' := [(0, .ref v0), (1, .int v1), (2, .int v2), (3, .int (v3 + (1 : Int32)))]) 3 [1, 2, 3, 0] (zdk tbX7_ahead_0_ok 32 rfl) rfl (Nat.le_of_ble_eq_true rfl) rfl rfl ?_
      refine V_goto (tgt := 45) (zdk tbX7_ahead_0_ok 33 rfl) (by decide) ?_
      exact ih v0 v1 v2 (v3 + (1 : Int32)) μ4 c_v0 h
def fX7_ahead (n : Nat) (v0 : Nat) (v1 : Int32) (v2 : Int32) (μ : ZMem) : Option (ZMem × Int32) := chk (isC n 7 v0) ((if v2 < 0 then (fX7_ahead_b9 n v0 μ) else (if v2 ≤ (1 : Int32) then bd2 (fX7_isFrom n v0 v1 (0 : Int32) (60 : Int32) μ) (fun μ4 r5 => (if r5 = 0 then bd2 (fX7_noTen n v0 (-6 : Int32) μ4) (fun μ12 r13 => some (μ12, r13)) else bd1 (zRc n 100 μ4 v0 32) (fun r7 => bd1 (fX7_all n v0 r7 (0 : Int32) μ4) (fun μ10 => (fX7_ahead_b45 n FU v0 v1 v2 (0 : Int32) μ10))))) else (fX7_ahead_b9 n v0 μ))))
theorem tX7_ahead {l : Launch} {fr : Bool} {n : Nat} {v0 : Nat} {v1 : Int32} {v2 : Int32} {μ : ZMem} {z : ZMem × Int32} (h : fX7_ahead n v0 v1 v2 μ = some z) : ZFn l mX7_ahead (rmd 4) [.ref v0, .int v1, .int v2] fr n μ (fr, n, z.1, some (.int z.2)) := by
  unfold fX7_ahead at h
  obtain ⟨c_v0, h⟩ := chk_some h
  refine ZFn.of (ls := [(0, .ref v0), (1, .int v1), (2, .int v2)]) (by decide) (fun ξ => Nat.le_of_ble_eq_true rfl) (fun ξ => rfl) ?_
  refine V_iload_n 2 (zdk tbX7_ahead_0_ok 0 rfl) rfl ?_
  refine V_if_lt (tgt := 9) (zdk tbX7_ahead_0_ok 1 rfl) (by decide) (fun c1 => ?_) (fun c1 => ?_)
  · replace h := ite_t h c1
    refine V_sub (ls' := [(0, .ref v0)]) [0] rfl ?_
    exact tX7_ahead_b9 v0 μ c_v0 h
  · replace h := ite_f h c1
    refine V_iload_n 2 (zdk tbX7_ahead_0_ok 2 rfl) rfl ?_
    refine V_iconst (v := 1) (zdk tbX7_ahead_0_ok 3 rfl) rfl ?_
    refine V_icmp_le (tgt := 16) (zdk tbX7_ahead_0_ok 4 rfl) (by decide) (fun c2 => ?_) (fun c2 => ?_)
    · replace h := ite_t h c2
      refine V_aload_n 0 (zdk tbX7_ahead_0_ok 9 rfl) rfl ?_
      refine V_iload_n 1 (zdk tbX7_ahead_0_ok 10 rfl) rfl ?_
      refine V_iconst (v := 0) (zdk tbX7_ahead_0_ok 11 rfl) rfl ?_
      refine V_bipush (v := 60) (zdk tbX7_ahead_0_ok 12 rfl) rfl ?_
      obtain ⟨μ4, r5, q3, h⟩ := bd2_some h
      refine V_callV (R1 := (rmd 1)) (As := [.int v1, .int (0 : Int32), .int (60 : Int32)]) (r := (some (.int r5))) (zdk tbX7_ahead_0_ok 13 rfl) sC7_122 (tX7_isFrom q3) (c_v0) rfl rfl rfl ⟨Nat.le_of_ble_eq_true rfl, Nat.le_of_ble_eq_true rfl⟩ (Nat.le_of_ble_eq_true rfl) ⟨rfl, rfl⟩ id ?_
      refine V_if_ne (tgt := 34) (zdk tbX7_ahead_0_ok 14 rfl) (by decide) (fun c6 => ?_) (fun c6 => ?_)
      · replace h := ite_f h c6
        refine V_aload_n 0 (zdk tbX7_ahead_0_ok 19 rfl) rfl ?_
        refine V_aload_n 0 (zdk tbX7_ahead_0_ok 20 rfl) rfl ?_
        obtain ⟨r7, q8, h⟩ := bd1_some h
        obtain ⟨q8, c_r7⟩ := zRc_some q8
        refine V_getR (zdk tbX7_ahead_0_ok 21 rfl) c_v0 fF7_84 rfl q8 ?_
        refine V_iconst (v := 0) (zdk tbX7_ahead_0_ok 22 rfl) rfl ?_
        obtain ⟨μ10, q9, h⟩ := bd1_some h
        refine V_callV (R1 := (rmd 2)) (As := [.ref r7, .int (0 : Int32)]) (r := none) (zdk tbX7_ahead_0_ok 23 rfl) sC7_182 (tX7_all q9) (c_v0) rfl rfl rfl ⟨Nat.le_of_ble_eq_true rfl, Nat.le_of_ble_eq_true rfl⟩ (Nat.le_of_ble_eq_true rfl) ⟨rfl, rfl⟩ id ?_
        refine V_iconst (v := 0) (zdk tbX7_ahead_0_ok 24 rfl) rfl ?_
        refine V_istore_n (ls' := [(0, .ref v0), (1, .int v1), (2, .int v2), (3, .int (0 : Int32))]) [1, 2, 3, 0] (zdk tbX7_ahead_0_ok 25 rfl) (Nat.le_of_ble_eq_true rfl) rfl ?_
        exact tX7_ahead_b45 FU v0 v1 v2 (0 : Int32) μ10 c_v0 h
      · replace h := ite_t h c6
        refine V_aload_n 0 (zdk tbX7_ahead_0_ok 15 rfl) rfl ?_
        refine V_bipush (v := (-6)) (zdk tbX7_ahead_0_ok 16 rfl) rfl ?_
        obtain ⟨μ12, r13, q11, h⟩ := bd2_some h
        refine V_callV (R1 := (rmd 1)) (As := [.int (-6 : Int32)]) (r := (some (.int r13))) (zdk tbX7_ahead_0_ok 17 rfl) sC7_133 (tX7_noTen q11) (c_v0) rfl rfl rfl ⟨Nat.le_of_ble_eq_true rfl, Nat.le_of_ble_eq_true rfl⟩ (Nat.le_of_ble_eq_true rfl) ⟨rfl, rfl⟩ id ?_
        cases h
        exact V_iret (zdk tbX7_ahead_0_ok 18 rfl) rfl rfl
    · replace h := ite_f h c2
      refine V_sub (ls' := [(0, .ref v0)]) [0] rfl ?_
      exact tX7_ahead_b9 v0 μ c_v0 h

-- WhoComplainsCarriesModel.tired
def tbX7_tired_0 : List (Nat × Instr × Nat) := [(0, .aload_n 0, 1), (1, .iload_n 1, 1), (2, .invokevirtual 110, 3), (5, .ifCond .ne 9, 3), (8, .aload_n 0, 1), (9, .iconst (-1), 1), (10, .invokevirtual 106, 3), (13, .ireturn, 1), (14, .aload_n 0, 1), (15, .iload_n 2, 1), (16, .iconst 0, 1), (17, .bipush 60, 2), (19, .invokevirtual 122, 3), (22, .ifCond .ne 10, 3), (25, .aload_n 0, 1), (26, .bipush (-6), 2), (28, .invokevirtual 106, 3), (31, .ireturn, 1), (32, .aload_n 0, 1), (33, .aload_n 0, 1), (34, .getfield 84, 3), (37, .iconst 0, 1), (38, .invokevirtual 182, 3), (41, .iconst 0, 1), (42, .istore_n 3, 1), (43, .iload_n 3, 1), (44, .iload_n 2, 1), (45, .if_icmp .ge 14, 3), (48, .aload_n 0, 1), (49, .iconst 0, 1), (50, .invokevirtual 196, 3), (53, .iinc 3 1, 3), (56, .goto (-13), 3), (59, .aload_n 0, 1), (60, .getfield 44, 3), (63, .iload_n 1, 1), (64, .iaload, 1), (65, .istore_n 3, 1), (66, .aload_n 0, 1), (67, .aload_n 0, 1), (68, .getfield 84, 3), (71, .iconst 1, 1), (72, .invokevirtual 182, 3), (75, .iload_n 3, 1), (76, .ireturn, 1)]
theorem tbX7_tired_0_ok : ∀ q ∈ tbX7_tired_0, decode cX7_tired q.1 = .ok (q.2.1, q.2.2) := by decide +kernel
def fX7_tired_b43 (n : Nat) : Nat → Nat → Int32 → Int32 → Int32 → ZMem → Option (ZMem × Int32)
  | 0, _, _, _, _, _ => none
  | k + 1, v0, v1, v2, v3, μ => (if v2 ≤ v3 then bd1 (zRc n 100 μ v0 14) (fun r2 => chk (inb v1 r2) (bd1 (zRc n 100 μ v0 32) (fun r5 => bd1 (fX7_all n v0 r5 (1 : Int32) μ) (fun μ8 => some (μ8, (zI μ r2 v1.toNatClampNeg)))))) else bd1 (fX7_step n v0 (0 : Int32) μ) (fun μ10 => (fX7_tired_b43 n k v0 v1 v2 (v3 + (1 : Int32)) μ10)))
theorem tX7_tired_b43 {l : Launch} {fr : Bool} {n : Nat} {z : ZMem × Int32} : ∀ (k : Nat) (v0 : Nat) (v1 : Int32) (v2 : Int32) (v3 : Int32) (μ : ZMem) (c_v0 : isC n 7 v0 = true), fX7_tired_b43 n k v0 v1 v2 v3 μ = some z → V (zkI l mX7_tired (rmd 4) fr n z) fr 43 [(0, .ref v0), (1, .int v1), (2, .int v2), (3, .int v3)] [] n μ := by
  intro k
  induction k with
  | zero =>
    intro v0 v1 v2 v3 μ c_v0 h
    unfold fX7_tired_b43 at h
    cases h
  | succ k ih =>
    intro v0 v1 v2 v3 μ c_v0 h
    unfold fX7_tired_b43 at h
    refine V_iload_n 3 (zdk tbX7_tired_0_ok 25 rfl) rfl ?_
    refine V_iload_n 2 (zdk tbX7_tired_0_ok 26 rfl) rfl ?_
    refine V_icmp_ge (tgt := 59) (zdk tbX7_tired_0_ok 27 rfl) (by decide) (fun c1 => ?_) (fun c1 => ?_)
    · replace h := ite_t h c1
      refine V_aload_n 0 (zdk tbX7_tired_0_ok 33 rfl) rfl ?_
      obtain ⟨r2, q3, h⟩ := bd1_some h
      obtain ⟨q3, c_r2⟩ := zRc_some q3
      refine V_getR (zdk tbX7_tired_0_ok 34 rfl) c_v0 fF7_44 rfl q3 ?_
      refine V_iload_n 1 (zdk tbX7_tired_0_ok 35 rfl) rfl ?_
      obtain ⟨b4, h⟩ := chk_some h
      refine V_iald (zdk tbX7_tired_0_ok 36 rfl) c_r2 b4 ?_
      refine V_istore_n (ls' := [(0, .ref v0), (3, .int (zI μ r2 v1.toNatClampNeg))]) [1, 0] (zdk tbX7_tired_0_ok 37 rfl) (Nat.le_of_ble_eq_true rfl) rfl ?_
      refine V_aload_n 0 (zdk tbX7_tired_0_ok 38 rfl) rfl ?_
      refine V_aload_n 0 (zdk tbX7_tired_0_ok 39 rfl) rfl ?_
      obtain ⟨r5, q6, h⟩ := bd1_some h
      obtain ⟨q6, c_r5⟩ := zRc_some q6
      refine V_getR (zdk tbX7_tired_0_ok 40 rfl) c_v0 fF7_84 rfl q6 ?_
      refine V_iconst (v := 1) (zdk tbX7_tired_0_ok 41 rfl) rfl ?_
      obtain ⟨μ8, q7, h⟩ := bd1_some h
      refine V_callV (R1 := (rmd 2)) (As := [.ref r5, .int (1 : Int32)]) (r := none) (zdk tbX7_tired_0_ok 42 rfl) sC7_182 (tX7_all q7) (c_v0) rfl rfl rfl ⟨Nat.le_of_ble_eq_true rfl, Nat.le_of_ble_eq_true rfl⟩ (Nat.le_of_ble_eq_true rfl) ⟨rfl, rfl⟩ id ?_
      refine V_iload_n 1 (zdk tbX7_tired_0_ok 43 rfl) rfl ?_
      cases h
      exact V_iret (zdk tbX7_tired_0_ok 44 rfl) rfl rfl
    · replace h := ite_f h c1
      refine V_aload_n 0 (zdk tbX7_tired_0_ok 28 rfl) rfl ?_
      refine V_iconst (v := 0) (zdk tbX7_tired_0_ok 29 rfl) rfl ?_
      obtain ⟨μ10, q9, h⟩ := bd1_some h
      refine V_callV (R1 := (rmd 3)) (As := [.int (0 : Int32)]) (r := none) (zdk tbX7_tired_0_ok 30 rfl) sC7_196 (tX7_step q9) (c_v0) rfl rfl rfl ⟨Nat.le_of_ble_eq_true rfl, Nat.le_of_ble_eq_true rfl⟩ (Nat.le_of_ble_eq_true rfl) ⟨rfl, rfl⟩ id ?_
      refine V_inc (dx := 1) (ls' := [(0, .ref v0), (1, .int v1), (2, .int v2), (3, .int (v3 + (1 : Int32)))]) 3 [1, 2, 3, 0] (zdk tbX7_tired_0_ok 31 rfl) rfl (Nat.le_of_ble_eq_true rfl) rfl rfl ?_
      refine V_goto (tgt := 43) (zdk tbX7_tired_0_ok 32 rfl) (by decide) ?_
      exact ih v0 v1 v2 (v3 + (1 : Int32)) μ10 c_v0 h
def fX7_tired (n : Nat) (v0 : Nat) (v1 : Int32) (v2 : Int32) (μ : ZMem) : Option (ZMem × Int32) := chk (isC n 7 v0) (bd2 (fX7_isOne n v0 v1 μ) (fun μ2 r3 => (if r3 = 0 then bd2 (fX7_no n v0 (-1 : Int32) μ2) (fun μ17 r18 => some (μ17, r18)) else bd2 (fX7_isFrom n v0 v2 (0 : Int32) (60 : Int32) μ2) (fun μ6 r7 => (if r7 = 0 then bd2 (fX7_no n v0 (-6 : Int32) μ6) (fun μ14 r15 => some (μ14, r15)) else bd1 (zRc n 100 μ6 v0 32) (fun r9 => bd1 (fX7_all n v0 r9 (0 : Int32) μ6) (fun μ12 => (fX7_tired_b43 n FU v0 v1 v2 (0 : Int32) μ12))))))))
theorem tX7_tired {l : Launch} {fr : Bool} {n : Nat} {v0 : Nat} {v1 : Int32} {v2 : Int32} {μ : ZMem} {z : ZMem × Int32} (h : fX7_tired n v0 v1 v2 μ = some z) : ZFn l mX7_tired (rmd 4) [.ref v0, .int v1, .int v2] fr n μ (fr, n, z.1, some (.int z.2)) := by
  unfold fX7_tired at h
  obtain ⟨c_v0, h⟩ := chk_some h
  refine ZFn.of (ls := [(0, .ref v0), (1, .int v1), (2, .int v2)]) (by decide) (fun ξ => Nat.le_of_ble_eq_true rfl) (fun ξ => rfl) ?_
  refine V_aload_n 0 (zdk tbX7_tired_0_ok 0 rfl) rfl ?_
  refine V_iload_n 1 (zdk tbX7_tired_0_ok 1 rfl) rfl ?_
  obtain ⟨μ2, r3, q1, h⟩ := bd2_some h
  refine V_callV (R1 := (rmd 1)) (As := [.int v1]) (r := (some (.int r3))) (zdk tbX7_tired_0_ok 2 rfl) sC7_110 (tX7_isOne q1) (c_v0) rfl rfl rfl ⟨Nat.le_of_ble_eq_true rfl, Nat.le_of_ble_eq_true rfl⟩ (Nat.le_of_ble_eq_true rfl) ⟨rfl, rfl⟩ id ?_
  refine V_if_ne (tgt := 14) (zdk tbX7_tired_0_ok 3 rfl) (by decide) (fun c4 => ?_) (fun c4 => ?_)
  · replace h := ite_f h c4
    refine V_aload_n 0 (zdk tbX7_tired_0_ok 8 rfl) rfl ?_
    refine V_iload_n 2 (zdk tbX7_tired_0_ok 9 rfl) rfl ?_
    refine V_iconst (v := 0) (zdk tbX7_tired_0_ok 10 rfl) rfl ?_
    refine V_bipush (v := 60) (zdk tbX7_tired_0_ok 11 rfl) rfl ?_
    obtain ⟨μ6, r7, q5, h⟩ := bd2_some h
    refine V_callV (R1 := (rmd 1)) (As := [.int v2, .int (0 : Int32), .int (60 : Int32)]) (r := (some (.int r7))) (zdk tbX7_tired_0_ok 12 rfl) sC7_122 (tX7_isFrom q5) (c_v0) rfl rfl rfl ⟨Nat.le_of_ble_eq_true rfl, Nat.le_of_ble_eq_true rfl⟩ (Nat.le_of_ble_eq_true rfl) ⟨rfl, rfl⟩ id ?_
    refine V_if_ne (tgt := 32) (zdk tbX7_tired_0_ok 13 rfl) (by decide) (fun c8 => ?_) (fun c8 => ?_)
    · replace h := ite_f h c8
      refine V_aload_n 0 (zdk tbX7_tired_0_ok 18 rfl) rfl ?_
      refine V_aload_n 0 (zdk tbX7_tired_0_ok 19 rfl) rfl ?_
      obtain ⟨r9, q10, h⟩ := bd1_some h
      obtain ⟨q10, c_r9⟩ := zRc_some q10
      refine V_getR (zdk tbX7_tired_0_ok 20 rfl) c_v0 fF7_84 rfl q10 ?_
      refine V_iconst (v := 0) (zdk tbX7_tired_0_ok 21 rfl) rfl ?_
      obtain ⟨μ12, q11, h⟩ := bd1_some h
      refine V_callV (R1 := (rmd 2)) (As := [.ref r9, .int (0 : Int32)]) (r := none) (zdk tbX7_tired_0_ok 22 rfl) sC7_182 (tX7_all q11) (c_v0) rfl rfl rfl ⟨Nat.le_of_ble_eq_true rfl, Nat.le_of_ble_eq_true rfl⟩ (Nat.le_of_ble_eq_true rfl) ⟨rfl, rfl⟩ id ?_
      refine V_iconst (v := 0) (zdk tbX7_tired_0_ok 23 rfl) rfl ?_
      refine V_istore_n (ls' := [(0, .ref v0), (1, .int v1), (2, .int v2), (3, .int (0 : Int32))]) [1, 2, 3, 0] (zdk tbX7_tired_0_ok 24 rfl) (Nat.le_of_ble_eq_true rfl) rfl ?_
      exact tX7_tired_b43 FU v0 v1 v2 (0 : Int32) μ12 c_v0 h
    · replace h := ite_t h c8
      refine V_aload_n 0 (zdk tbX7_tired_0_ok 14 rfl) rfl ?_
      refine V_bipush (v := (-6)) (zdk tbX7_tired_0_ok 15 rfl) rfl ?_
      obtain ⟨μ14, r15, q13, h⟩ := bd2_some h
      refine V_callV (R1 := (rmd 1)) (As := [.int (-6 : Int32)]) (r := (some (.int r15))) (zdk tbX7_tired_0_ok 16 rfl) sC7_106 (tX7_no q13) (c_v0) rfl rfl rfl ⟨Nat.le_of_ble_eq_true rfl, Nat.le_of_ble_eq_true rfl⟩ (Nat.le_of_ble_eq_true rfl) ⟨rfl, rfl⟩ id ?_
      cases h
      exact V_iret (zdk tbX7_tired_0_ok 17 rfl) rfl rfl
  · replace h := ite_t h c4
    refine V_aload_n 0 (zdk tbX7_tired_0_ok 4 rfl) rfl ?_
    refine V_iconst (v := (-1)) (zdk tbX7_tired_0_ok 5 rfl) rfl ?_
    obtain ⟨μ17, r18, q16, h⟩ := bd2_some h
    refine V_callV (R1 := (rmd 1)) (As := [.int (-1 : Int32)]) (r := (some (.int r18))) (zdk tbX7_tired_0_ok 6 rfl) sC7_106 (tX7_no q16) (c_v0) rfl rfl rfl ⟨Nat.le_of_ble_eq_true rfl, Nat.le_of_ble_eq_true rfl⟩ (Nat.le_of_ble_eq_true rfl) ⟨rfl, rfl⟩ id ?_
    cases h
    exact V_iret (zdk tbX7_tired_0_ok 7 rfl) rfl rfl

-- WhoComplainsCarriesModel.isOver
def tbX7_isOver_0 : List (Nat × Instr × Nat) := [(0, .iconst (-1), 1), (1, .istore_n 1, 1), (2, .aload_n 0, 1), (3, .aload_n 0, 1), (4, .getfield 84, 3), (7, .iconst 0, 1), (8, .invokevirtual 182, 3), (11, .iconst 0, 1), (12, .istore_n 2, 1), (13, .iload_n 2, 1), (14, .sipush 200, 3), (17, .if_icmp .gt 35, 3), (20, .iload_n 1, 1), (21, .iconst (-1), 1), (22, .if_icmp .ne 30, 3), (25, .aload_n 0, 1), (26, .getfield 130, 3), (29, .aload_n 0, 1), (30, .getfield 13, 3), (33, .if_icmp .ne 8, 3), (36, .iload_n 2, 1), (37, .istore_n 1, 1), (38, .goto 8, 3), (41, .aload_n 0, 1), (42, .iconst 0, 1), (43, .invokevirtual 196, 3), (46, .iinc 2 1, 3), (49, .goto (-36), 3), (52, .aload_n 0, 1), (53, .aload_n 0, 1), (54, .getfield 84, 3), (57, .iconst 1, 1), (58, .invokevirtual 182, 3), (61, .iload_n 1, 1), (62, .ireturn, 1)]
theorem tbX7_isOver_0_ok : ∀ q ∈ tbX7_isOver_0, decode cX7_isOver q.1 = .ok (q.2.1, q.2.2) := by decide +kernel
def fX7_isOver_b46 (g13 : Nat → Int32 → Int32 → ZMem → Option (ZMem × Int32)) (n : Nat) (v0 : Nat) (v1 : Int32) (v2 : Int32) (μ : ZMem) : Option (ZMem × Int32) := (g13 v0 v1 (v2 + (1 : Int32)) μ)
theorem tX7_isOver_b46 {l : Launch} {fr : Bool} {n : Nat} {z : ZMem × Int32} {g13 : Nat → Int32 → Int32 → ZMem → Option (ZMem × Int32)} (hg13 : ∀ (v0 : Nat) (v1 : Int32) (v2 : Int32) (μ : ZMem), isC n 7 v0 = true → g13 v0 v1 v2 μ = some z → V (zkI l mX7_isOver (rmd 4) fr n z) fr 13 [(0, .ref v0), (1, .int v1), (2, .int v2)] [] n μ) (v0 : Nat) (v1 : Int32) (v2 : Int32) (μ : ZMem) (c_v0 : isC n 7 v0 = true) (h : fX7_isOver_b46 g13 n v0 v1 v2 μ = some z) : V (zkI l mX7_isOver (rmd 4) fr n z) fr 46 [(0, .ref v0), (1, .int v1), (2, .int v2)] [] n μ := by
  unfold fX7_isOver_b46 at h
  refine V_inc (dx := 1) (ls' := [(0, .ref v0), (1, .int v1), (2, .int (v2 + (1 : Int32)))]) 2 [1, 2, 0] (zdk tbX7_isOver_0_ok 26 rfl) rfl (Nat.le_of_ble_eq_true rfl) rfl rfl ?_
  refine V_goto (tgt := 13) (zdk tbX7_isOver_0_ok 27 rfl) (by decide) ?_
  exact hg13 v0 v1 (v2 + (1 : Int32)) μ c_v0 h
def fX7_isOver_b52 (n : Nat) (v0 : Nat) (v1 : Int32) (μ : ZMem) : Option (ZMem × Int32) := bd1 (zRc n 100 μ v0 32) (fun r1 => bd1 (fX7_all n v0 r1 (1 : Int32) μ) (fun μ4 => some (μ4, v1)))
theorem tX7_isOver_b52 {l : Launch} {fr : Bool} {n : Nat} {z : ZMem × Int32} (v0 : Nat) (v1 : Int32) (μ : ZMem) (c_v0 : isC n 7 v0 = true) (h : fX7_isOver_b52 n v0 v1 μ = some z) : V (zkI l mX7_isOver (rmd 4) fr n z) fr 52 [(0, .ref v0), (1, .int v1)] [] n μ := by
  unfold fX7_isOver_b52 at h
  refine V_aload_n 0 (zdk tbX7_isOver_0_ok 28 rfl) rfl ?_
  refine V_aload_n 0 (zdk tbX7_isOver_0_ok 29 rfl) rfl ?_
  obtain ⟨r1, q2, h⟩ := bd1_some h
  obtain ⟨q2, c_r1⟩ := zRc_some q2
  refine V_getR (zdk tbX7_isOver_0_ok 30 rfl) c_v0 fF7_84 rfl q2 ?_
  refine V_iconst (v := 1) (zdk tbX7_isOver_0_ok 31 rfl) rfl ?_
  obtain ⟨μ4, q3, h⟩ := bd1_some h
  refine V_callV (R1 := (rmd 2)) (As := [.ref r1, .int (1 : Int32)]) (r := none) (zdk tbX7_isOver_0_ok 32 rfl) sC7_182 (tX7_all q3) (c_v0) rfl rfl rfl ⟨Nat.le_of_ble_eq_true rfl, Nat.le_of_ble_eq_true rfl⟩ (Nat.le_of_ble_eq_true rfl) ⟨rfl, rfl⟩ id ?_
  refine V_iload_n 1 (zdk tbX7_isOver_0_ok 33 rfl) rfl ?_
  cases h
  exact V_iret (zdk tbX7_isOver_0_ok 34 rfl) rfl rfl
def fX7_isOver_b13 (n : Nat) : Nat → Nat → Int32 → Int32 → ZMem → Option (ZMem × Int32)
  | 0, _, _, _, _ => none
  | k + 1, v0, v1, v2, μ => (if (200 : Int32) < v2 then (fX7_isOver_b52 n v0 v1 μ) else (if v1 = (-1 : Int32) then (if (zI μ v0 3) = (zI μ v0 2) then (fX7_isOver_b46 (fX7_isOver_b13 n k) n v0 v2 v2 μ) else bd1 (fX7_step n v0 (0 : Int32) μ) (fun μ5 => (fX7_isOver_b46 (fX7_isOver_b13 n k) n v0 v1 v2 μ5))) else (fX7_isOver_b52 n v0 v1 μ)))
theorem tX7_isOver_b13 {l : Launch} {fr : Bool} {n : Nat} {z : ZMem × Int32} : ∀ (k : Nat) (v0 : Nat) (v1 : Int32) (v2 : Int32) (μ : ZMem) (c_v0 : isC n 7 v0 = true), fX7_isOver_b13 n k v0 v1 v2 μ = some z → V (zkI l mX7_isOver (rmd 4) fr n z) fr 13 [(0, .ref v0), (1, .int v1), (2, .int v2)] [] n μ := by
  intro k
  induction k with
  | zero =>
    intro v0 v1 v2 μ c_v0 h
    unfold fX7_isOver_b13 at h
    cases h
  | succ k ih =>
    intro v0 v1 v2 μ c_v0 h
    unfold fX7_isOver_b13 at h
    refine V_iload_n 2 (zdk tbX7_isOver_0_ok 9 rfl) rfl ?_
    refine V_sipush (v := 200) (zdk tbX7_isOver_0_ok 10 rfl) rfl ?_
    refine V_icmp_gt (tgt := 52) (zdk tbX7_isOver_0_ok 11 rfl) (by decide) (fun c1 => ?_) (fun c1 => ?_)
    · replace h := ite_t h c1
      refine V_sub (ls' := [(0, .ref v0), (1, .int v1)]) [0, 1] rfl ?_
      exact tX7_isOver_b52 v0 v1 μ c_v0 h
    · replace h := ite_f h c1
      refine V_iload_n 1 (zdk tbX7_isOver_0_ok 12 rfl) rfl ?_
      refine V_iconst (v := (-1)) (zdk tbX7_isOver_0_ok 13 rfl) rfl ?_
      refine V_icmp_ne (tgt := 52) (zdk tbX7_isOver_0_ok 14 rfl) (by decide) (fun c2 => ?_) (fun c2 => ?_)
      · replace h := ite_f h c2
        refine V_sub (ls' := [(0, .ref v0), (1, .int v1)]) [0, 1] rfl ?_
        exact tX7_isOver_b52 v0 v1 μ c_v0 h
      · replace h := ite_t h c2
        refine V_aload_n 0 (zdk tbX7_isOver_0_ok 15 rfl) rfl ?_
        refine V_getI (zdk tbX7_isOver_0_ok 16 rfl) c_v0 fF7_130 rfl ?_
        refine V_aload_n 0 (zdk tbX7_isOver_0_ok 17 rfl) rfl ?_
        refine V_getI (zdk tbX7_isOver_0_ok 18 rfl) c_v0 fF7_13 rfl ?_
        refine V_icmp_ne (tgt := 41) (zdk tbX7_isOver_0_ok 19 rfl) (by decide) (fun c3 => ?_) (fun c3 => ?_)
        · replace h := ite_f h c3
          refine V_aload_n 0 (zdk tbX7_isOver_0_ok 23 rfl) rfl ?_
          refine V_iconst (v := 0) (zdk tbX7_isOver_0_ok 24 rfl) rfl ?_
          obtain ⟨μ5, q4, h⟩ := bd1_some h
          refine V_callV (R1 := (rmd 3)) (As := [.int (0 : Int32)]) (r := none) (zdk tbX7_isOver_0_ok 25 rfl) sC7_196 (tX7_step q4) (c_v0) rfl rfl rfl ⟨Nat.le_of_ble_eq_true rfl, Nat.le_of_ble_eq_true rfl⟩ (Nat.le_of_ble_eq_true rfl) ⟨rfl, rfl⟩ id ?_
          exact tX7_isOver_b46 (fun v0 v1 v2 μ y0 h => ih v0 v1 v2 μ y0 h) v0 v1 v2 μ5 c_v0 h
        · replace h := ite_t h c3
          refine V_iload_n 2 (zdk tbX7_isOver_0_ok 20 rfl) rfl ?_
          refine V_istore_n (ls' := [(0, .ref v0), (1, .int v2), (2, .int v2)]) [1, 0, 2] (zdk tbX7_isOver_0_ok 21 rfl) (Nat.le_of_ble_eq_true rfl) rfl ?_
          refine V_goto (tgt := 46) (zdk tbX7_isOver_0_ok 22 rfl) (by decide) ?_
          exact tX7_isOver_b46 (fun v0 v1 v2 μ y0 h => ih v0 v1 v2 μ y0 h) v0 v2 v2 μ c_v0 h
def fX7_isOver (n : Nat) (v0 : Nat) (μ : ZMem) : Option (ZMem × Int32) := chk (isC n 7 v0) (bd1 (zRc n 100 μ v0 32) (fun r1 => bd1 (fX7_all n v0 r1 (0 : Int32) μ) (fun μ4 => (fX7_isOver_b13 n FU v0 (-1 : Int32) (0 : Int32) μ4))))
theorem tX7_isOver {l : Launch} {fr : Bool} {n : Nat} {v0 : Nat} {μ : ZMem} {z : ZMem × Int32} (h : fX7_isOver n v0 μ = some z) : ZFn l mX7_isOver (rmd 4) [.ref v0] fr n μ (fr, n, z.1, some (.int z.2)) := by
  unfold fX7_isOver at h
  obtain ⟨c_v0, h⟩ := chk_some h
  refine ZFn.of (ls := [(0, .ref v0)]) (by decide) (fun ξ => Nat.le_of_ble_eq_true rfl) (fun ξ => rfl) ?_
  refine V_iconst (v := (-1)) (zdk tbX7_isOver_0_ok 0 rfl) rfl ?_
  refine V_istore_n (ls' := [(0, .ref v0), (1, .int (-1 : Int32))]) [1, 0] (zdk tbX7_isOver_0_ok 1 rfl) (Nat.le_of_ble_eq_true rfl) rfl ?_
  refine V_aload_n 0 (zdk tbX7_isOver_0_ok 2 rfl) rfl ?_
  refine V_aload_n 0 (zdk tbX7_isOver_0_ok 3 rfl) rfl ?_
  obtain ⟨r1, q2, h⟩ := bd1_some h
  obtain ⟨q2, c_r1⟩ := zRc_some q2
  refine V_getR (zdk tbX7_isOver_0_ok 4 rfl) c_v0 fF7_84 rfl q2 ?_
  refine V_iconst (v := 0) (zdk tbX7_isOver_0_ok 5 rfl) rfl ?_
  obtain ⟨μ4, q3, h⟩ := bd1_some h
  refine V_callV (R1 := (rmd 2)) (As := [.ref r1, .int (0 : Int32)]) (r := none) (zdk tbX7_isOver_0_ok 6 rfl) sC7_182 (tX7_all q3) (c_v0) rfl rfl rfl ⟨Nat.le_of_ble_eq_true rfl, Nat.le_of_ble_eq_true rfl⟩ (Nat.le_of_ble_eq_true rfl) ⟨rfl, rfl⟩ id ?_
  refine V_iconst (v := 0) (zdk tbX7_isOver_0_ok 7 rfl) rfl ?_
  refine V_istore_n (ls' := [(0, .ref v0), (1, .int (-1 : Int32)), (2, .int (0 : Int32))]) [1, 2, 0] (zdk tbX7_isOver_0_ok 8 rfl) (Nat.le_of_ble_eq_true rfl) rfl ?_
  exact tX7_isOver_b13 FU v0 (-1 : Int32) (0 : Int32) μ4 c_v0 h

-- WhoComplainsCarriesModel.over
def tbX7_over_0 : List (Nat × Instr × Nat) := [(0, .aload_n 0, 1), (1, .invokevirtual 200, 3), (4, .ireturn, 1)]
theorem tbX7_over_0_ok : ∀ q ∈ tbX7_over_0, decode cX7_over q.1 = .ok (q.2.1, q.2.2) := by decide +kernel
theorem wCX7_isOver : zCW mX7_isOver 0 := ⟨zin (i := 8) (by decide +kernel) rfl, zin (i := 1111) (by decide +kernel) rfl, by decide +kernel, by decide +kernel, by decide +kernel⟩
theorem sC7_200 : zCV RX7 200 mX7_isOver 0 := ⟨zin (i := 1108) (by decide +kernel) rfl, zin (i := 1110) (by decide +kernel) rfl, zinP (i := 51) (q := (yX7_isOver, 42)) (by decide +kernel) rfl, wCX7_isOver⟩
def fX7_over (n : Nat) (v0 : Nat) (μ : ZMem) : Option (ZMem × Int32) := chk (isC n 7 v0) (bd2 (fX7_isOver n v0 μ) (fun μ2 r3 => some (μ2, r3)))
theorem tX7_over {l : Launch} {fr : Bool} {n : Nat} {v0 : Nat} {μ : ZMem} {z : ZMem × Int32} (h : fX7_over n v0 μ = some z) : ZFn l mX7_over (rmd 5) [.ref v0] fr n μ (fr, n, z.1, some (.int z.2)) := by
  unfold fX7_over at h
  obtain ⟨c_v0, h⟩ := chk_some h
  refine ZFn.of (ls := [(0, .ref v0)]) (by decide) (fun ξ => Nat.le_of_ble_eq_true rfl) (fun ξ => rfl) ?_
  refine V_aload_n 0 (zdk tbX7_over_0_ok 0 rfl) rfl ?_
  obtain ⟨μ2, r3, q1, h⟩ := bd2_some h
  refine V_callV (R1 := (rmd 4)) (As := []) (r := (some (.int r3))) (zdk tbX7_over_0_ok 1 rfl) sC7_200 (tX7_isOver q1) (c_v0) rfl rfl rfl ⟨Nat.le_of_ble_eq_true rfl, Nat.le_of_ble_eq_true rfl⟩ (Nat.le_of_ble_eq_true rfl) ⟨rfl, rfl⟩ id ?_
  cases h
  exact V_iret (zdk tbX7_over_0_ok 2 rfl) rfl rfl

-- WhoComplainsCarriesModel.tillAbove
def tbX7_tillAbove_0 : List (Nat × Instr × Nat) := [(0, .aload_n 0, 1), (1, .getfield 44, 3), (4, .iload_n 1, 1), (5, .iaload, 1), (6, .istore_n 2, 1), (7, .iconst 0, 1), (8, .istore_n 3, 1), (9, .iload_n 3, 1), (10, .bipush 100, 2), (12, .if_icmp .gt 45, 3), (15, .iload_n 2, 1), (16, .aload_n 0, 1), (17, .iload_n 1, 1), (18, .invokevirtual 113, 3), (21, .if_icmp .le 5, 3), (24, .iload_n 3, 1), (25, .ireturn, 1), (26, .iload_n 2, 1), (27, .aload_n 0, 1), (28, .iload_n 1, 1), (29, .invokevirtual 116, 3), (32, .iadd, 1), (33, .bipush 99, 2), (35, .if_icmp .le 8, 3), (38, .bipush 99, 2), (40, .goto 10, 3), (43, .iload_n 2, 1), (44, .aload_n 0, 1), (45, .iload_n 1, 1), (46, .invokevirtual 116, 3), (49, .iadd, 1), (50, .istore_n 2, 1), (51, .iinc 3 1, 3), (54, .goto (-45), 3), (57, .iconst (-1), 1), (58, .ireturn, 1)]
theorem tbX7_tillAbove_0_ok : ∀ q ∈ tbX7_tillAbove_0, decode cX7_tillAbove q.1 = .ok (q.2.1, q.2.2) := by decide +kernel
def fX7_tillAbove_b50 (g9 : Nat → Int32 → Int32 → Int32 → ZMem → Option (ZMem × Int32)) (n : Nat) (v0 : Nat) (v1 : Int32) (v3 : Int32) (s0 : Int32) (μ : ZMem) : Option (ZMem × Int32) := (g9 v0 v1 s0 (v3 + (1 : Int32)) μ)
theorem tX7_tillAbove_b50 {l : Launch} {fr : Bool} {n : Nat} {z : ZMem × Int32} {g9 : Nat → Int32 → Int32 → Int32 → ZMem → Option (ZMem × Int32)} (hg9 : ∀ (v0 : Nat) (v1 : Int32) (v2 : Int32) (v3 : Int32) (μ : ZMem), isC n 7 v0 = true → g9 v0 v1 v2 v3 μ = some z → V (zkI l mX7_tillAbove (rmd 2) fr n z) fr 9 [(0, .ref v0), (1, .int v1), (2, .int v2), (3, .int v3)] [] n μ) (v0 : Nat) (v1 : Int32) (v3 : Int32) (s0 : Int32) (μ : ZMem) (c_v0 : isC n 7 v0 = true) (h : fX7_tillAbove_b50 g9 n v0 v1 v3 s0 μ = some z) : V (zkI l mX7_tillAbove (rmd 2) fr n z) fr 50 [(0, .ref v0), (1, .int v1), (3, .int v3)] [.int s0] n μ := by
  unfold fX7_tillAbove_b50 at h
  refine V_istore_n (ls' := [(0, .ref v0), (1, .int v1), (2, .int s0), (3, .int v3)]) [1, 2, 0, 3] (zdk tbX7_tillAbove_0_ok 31 rfl) (Nat.le_of_ble_eq_true rfl) rfl ?_
  refine V_inc (dx := 1) (ls' := [(0, .ref v0), (1, .int v1), (2, .int s0), (3, .int (v3 + (1 : Int32)))]) 3 [1, 2, 3, 0] (zdk tbX7_tillAbove_0_ok 32 rfl) rfl (Nat.le_of_ble_eq_true rfl) rfl rfl ?_
  refine V_goto (tgt := 9) (zdk tbX7_tillAbove_0_ok 33 rfl) (by decide) ?_
  exact hg9 v0 v1 s0 (v3 + (1 : Int32)) μ c_v0 h
def fX7_tillAbove_b9 (n : Nat) : Nat → Nat → Int32 → Int32 → Int32 → ZMem → Option (ZMem × Int32)
  | 0, _, _, _, _, _ => none
  | k + 1, v0, v1, v2, v3, μ => (if (100 : Int32) < v3 then some (μ, (-1 : Int32)) else bd2 (fX7_limit n v0 v1 μ) (fun μ3 r4 => (if v2 ≤ r4 then bd2 (fX7_toil n v0 v1 μ3) (fun μ7 r8 => (if (v2 + r8) ≤ (99 : Int32) then bd2 (fX7_toil n v0 v1 μ7) (fun μ11 r12 => (fX7_tillAbove_b50 (fX7_tillAbove_b9 n k) n v0 v1 v3 (v2 + r12) μ11)) else (fX7_tillAbove_b50 (fX7_tillAbove_b9 n k) n v0 v1 v3 (99 : Int32) μ7))) else some (μ3, v3))))
theorem tX7_tillAbove_b9 {l : Launch} {fr : Bool} {n : Nat} {z : ZMem × Int32} : ∀ (k : Nat) (v0 : Nat) (v1 : Int32) (v2 : Int32) (v3 : Int32) (μ : ZMem) (c_v0 : isC n 7 v0 = true), fX7_tillAbove_b9 n k v0 v1 v2 v3 μ = some z → V (zkI l mX7_tillAbove (rmd 2) fr n z) fr 9 [(0, .ref v0), (1, .int v1), (2, .int v2), (3, .int v3)] [] n μ := by
  intro k
  induction k with
  | zero =>
    intro v0 v1 v2 v3 μ c_v0 h
    unfold fX7_tillAbove_b9 at h
    cases h
  | succ k ih =>
    intro v0 v1 v2 v3 μ c_v0 h
    unfold fX7_tillAbove_b9 at h
    refine V_iload_n 3 (zdk tbX7_tillAbove_0_ok 7 rfl) rfl ?_
    refine V_bipush (v := 100) (zdk tbX7_tillAbove_0_ok 8 rfl) rfl ?_
    refine V_icmp_gt (tgt := 57) (zdk tbX7_tillAbove_0_ok 9 rfl) (by decide) (fun c1 => ?_) (fun c1 => ?_)
    · replace h := ite_t h c1
      refine V_iconst (v := (-1)) (zdk tbX7_tillAbove_0_ok 34 rfl) rfl ?_
      cases h
      exact V_iret (zdk tbX7_tillAbove_0_ok 35 rfl) rfl rfl
    · replace h := ite_f h c1
      refine V_iload_n 2 (zdk tbX7_tillAbove_0_ok 10 rfl) rfl ?_
      refine V_aload_n 0 (zdk tbX7_tillAbove_0_ok 11 rfl) rfl ?_
      refine V_iload_n 1 (zdk tbX7_tillAbove_0_ok 12 rfl) rfl ?_
      obtain ⟨μ3, r4, q2, h⟩ := bd2_some h
      refine V_callV (R1 := (rmd 1)) (As := [.int v1]) (r := (some (.int r4))) (zdk tbX7_tillAbove_0_ok 13 rfl) sC7_113 (tX7_limit q2) (c_v0) rfl rfl rfl ⟨Nat.le_of_ble_eq_true rfl, Nat.le_of_ble_eq_true rfl⟩ (Nat.le_of_ble_eq_true rfl) ⟨rfl, rfl⟩ id ?_
      refine V_icmp_le (tgt := 26) (zdk tbX7_tillAbove_0_ok 14 rfl) (by decide) (fun c5 => ?_) (fun c5 => ?_)
      · replace h := ite_t h c5
        refine V_iload_n 2 (zdk tbX7_tillAbove_0_ok 17 rfl) rfl ?_
        refine V_aload_n 0 (zdk tbX7_tillAbove_0_ok 18 rfl) rfl ?_
        refine V_iload_n 1 (zdk tbX7_tillAbove_0_ok 19 rfl) rfl ?_
        obtain ⟨μ7, r8, q6, h⟩ := bd2_some h
        refine V_callV (R1 := (rmd 1)) (As := [.int v1]) (r := (some (.int r8))) (zdk tbX7_tillAbove_0_ok 20 rfl) sC7_116 (tX7_toil q6) (c_v0) rfl rfl rfl ⟨Nat.le_of_ble_eq_true rfl, Nat.le_of_ble_eq_true rfl⟩ (Nat.le_of_ble_eq_true rfl) ⟨rfl, rfl⟩ id ?_
        refine V_iadd (zdk tbX7_tillAbove_0_ok 21 rfl) ?_
        refine V_bipush (v := 99) (zdk tbX7_tillAbove_0_ok 22 rfl) rfl ?_
        refine V_icmp_le (tgt := 43) (zdk tbX7_tillAbove_0_ok 23 rfl) (by decide) (fun c9 => ?_) (fun c9 => ?_)
        · replace h := ite_t h c9
          refine V_iload_n 2 (zdk tbX7_tillAbove_0_ok 26 rfl) rfl ?_
          refine V_aload_n 0 (zdk tbX7_tillAbove_0_ok 27 rfl) rfl ?_
          refine V_iload_n 1 (zdk tbX7_tillAbove_0_ok 28 rfl) rfl ?_
          obtain ⟨μ11, r12, q10, h⟩ := bd2_some h
          refine V_callV (R1 := (rmd 1)) (As := [.int v1]) (r := (some (.int r12))) (zdk tbX7_tillAbove_0_ok 29 rfl) sC7_116 (tX7_toil q10) (c_v0) rfl rfl rfl ⟨Nat.le_of_ble_eq_true rfl, Nat.le_of_ble_eq_true rfl⟩ (Nat.le_of_ble_eq_true rfl) ⟨rfl, rfl⟩ id ?_
          refine V_iadd (zdk tbX7_tillAbove_0_ok 30 rfl) ?_
          refine V_sub (ls' := [(0, .ref v0), (1, .int v1), (3, .int v3)]) [0, 1, 3] rfl ?_
          exact tX7_tillAbove_b50 (fun v0 v1 v2 v3 μ y0 h => ih v0 v1 v2 v3 μ y0 h) v0 v1 v3 (v2 + r12) μ11 c_v0 h
        · replace h := ite_f h c9
          refine V_bipush (v := 99) (zdk tbX7_tillAbove_0_ok 24 rfl) rfl ?_
          refine V_goto (tgt := 50) (zdk tbX7_tillAbove_0_ok 25 rfl) (by decide) ?_
          refine V_sub (ls' := [(0, .ref v0), (1, .int v1), (3, .int v3)]) [0, 1, 3] rfl ?_
          exact tX7_tillAbove_b50 (fun v0 v1 v2 v3 μ y0 h => ih v0 v1 v2 v3 μ y0 h) v0 v1 v3 (99 : Int32) μ7 c_v0 h
      · replace h := ite_f h c5
        refine V_iload_n 3 (zdk tbX7_tillAbove_0_ok 15 rfl) rfl ?_
        cases h
        exact V_iret (zdk tbX7_tillAbove_0_ok 16 rfl) rfl rfl
def fX7_tillAbove (n : Nat) (v0 : Nat) (v1 : Int32) (μ : ZMem) : Option (ZMem × Int32) := chk (isC n 7 v0) (bd1 (zRc n 100 μ v0 14) (fun r1 => chk (inb v1 r1) ((fX7_tillAbove_b9 n FU v0 v1 (zI μ r1 v1.toNatClampNeg) (0 : Int32) μ))))
theorem tX7_tillAbove {l : Launch} {fr : Bool} {n : Nat} {v0 : Nat} {v1 : Int32} {μ : ZMem} {z : ZMem × Int32} (h : fX7_tillAbove n v0 v1 μ = some z) : ZFn l mX7_tillAbove (rmd 2) [.ref v0, .int v1] fr n μ (fr, n, z.1, some (.int z.2)) := by
  unfold fX7_tillAbove at h
  obtain ⟨c_v0, h⟩ := chk_some h
  refine ZFn.of (ls := [(0, .ref v0), (1, .int v1)]) (by decide) (fun ξ => Nat.le_of_ble_eq_true rfl) (fun ξ => rfl) ?_
  refine V_aload_n 0 (zdk tbX7_tillAbove_0_ok 0 rfl) rfl ?_
  obtain ⟨r1, q2, h⟩ := bd1_some h
  obtain ⟨q2, c_r1⟩ := zRc_some q2
  refine V_getR (zdk tbX7_tillAbove_0_ok 1 rfl) c_v0 fF7_44 rfl q2 ?_
  refine V_iload_n 1 (zdk tbX7_tillAbove_0_ok 2 rfl) rfl ?_
  obtain ⟨b3, h⟩ := chk_some h
  refine V_iald (zdk tbX7_tillAbove_0_ok 3 rfl) c_r1 b3 ?_
  refine V_istore_n (ls' := [(0, .ref v0), (1, .int v1), (2, .int (zI μ r1 v1.toNatClampNeg))]) [1, 2, 0] (zdk tbX7_tillAbove_0_ok 4 rfl) (Nat.le_of_ble_eq_true rfl) rfl ?_
  refine V_iconst (v := 0) (zdk tbX7_tillAbove_0_ok 5 rfl) rfl ?_
  refine V_istore_n (ls' := [(0, .ref v0), (1, .int v1), (2, .int (zI μ r1 v1.toNatClampNeg)), (3, .int (0 : Int32))]) [1, 2, 3, 0] (zdk tbX7_tillAbove_0_ok 6 rfl) (Nat.le_of_ble_eq_true rfl) rfl ?_
  exact tX7_tillAbove_b9 FU v0 v1 (zI μ r1 v1.toNatClampNeg) (0 : Int32) μ c_v0 h

-- WhoComplainsCarriesModel.alone
def tbX7_alone_0 : List (Nat × Instr × Nat) := [(0, .aload_n 0, 1), (1, .iload_n 1, 1), (2, .invokevirtual 110, 3), (5, .ifCond .ne 9, 3), (8, .aload_n 0, 1), (9, .iconst (-1), 1), (10, .invokevirtual 133, 3), (13, .ireturn, 1), (14, .iload_n 2, 1), (15, .ifCond .lt 8, 3), (18, .iload_n 2, 1), (19, .iconst 1, 1), (20, .if_icmp .le 10, 3), (23, .aload_n 0, 1), (24, .bipush (-5), 2), (26, .invokevirtual 133, 3), (29, .ireturn, 1), (30, .iload_n 2, 1), (31, .ifCond .ne 29, 3), (34, .aload_n 0, 1), (35, .getfield 13, 3), (38, .aload_n 0, 1), (39, .getfield 130, 3), (42, .isub, 1), (43, .aload_n 0, 1), (44, .iload_n 1, 1), (45, .invokevirtual 119, 3), (48, .iadd, 1), (49, .iconst 1, 1), (50, .isub, 1), (51, .aload_n 0, 1), (52, .iload_n 1, 1), (53, .invokevirtual 119, 3), (56, .idiv, 1), (57, .goto 8, 3), (60, .aload_n 0, 1), (61, .iload_n 1, 1), (62, .invokevirtual 203, 3), (65, .ireturn, 1)]
theorem tbX7_alone_0_ok : ∀ q ∈ tbX7_alone_0, decode cX7_alone q.1 = .ok (q.2.1, q.2.2) := by decide +kernel
theorem wCX7_tillAbove : zCW mX7_tillAbove 1 := ⟨zin (i := 8) (by decide +kernel) rfl, zin (i := 1119) (by decide +kernel) rfl, by decide +kernel, by decide +kernel, by decide +kernel⟩
theorem sC7_203 : zCV RX7 203 mX7_tillAbove 1 := ⟨zin (i := 1116) (by decide +kernel) rfl, zin (i := 1118) (by decide +kernel) rfl, zinP (i := 52) (q := (yX7_tillAbove, 42)) (by decide +kernel) rfl, wCX7_tillAbove⟩
def fX7_alone_b23 (n : Nat) (v0 : Nat) (μ : ZMem) : Option (ZMem × Int32) := bd2 (fX7_noTen n v0 (-5 : Int32) μ) (fun μ2 r3 => some (μ2, r3))
theorem tX7_alone_b23 {l : Launch} {fr : Bool} {n : Nat} {z : ZMem × Int32} (v0 : Nat) (μ : ZMem) (c_v0 : isC n 7 v0 = true) (h : fX7_alone_b23 n v0 μ = some z) : V (zkI l mX7_alone (rmd 3) fr n z) fr 23 [(0, .ref v0)] [] n μ := by
  unfold fX7_alone_b23 at h
  refine V_aload_n 0 (zdk tbX7_alone_0_ok 13 rfl) rfl ?_
  refine V_bipush (v := (-5)) (zdk tbX7_alone_0_ok 14 rfl) rfl ?_
  obtain ⟨μ2, r3, q1, h⟩ := bd2_some h
  refine V_callV (R1 := (rmd 1)) (As := [.int (-5 : Int32)]) (r := (some (.int r3))) (zdk tbX7_alone_0_ok 15 rfl) sC7_133 (tX7_noTen q1) (c_v0) rfl rfl rfl ⟨Nat.le_of_ble_eq_true rfl, Nat.le_of_ble_eq_true rfl⟩ (Nat.le_of_ble_eq_true rfl) ⟨rfl, rfl⟩ id ?_
  cases h
  exact V_iret (zdk tbX7_alone_0_ok 16 rfl) rfl rfl
def fX7_alone_b65 (n : Nat) (s0 : Int32) (μ : ZMem) : Option (ZMem × Int32) := some (μ, s0)
theorem tX7_alone_b65 {l : Launch} {fr : Bool} {n : Nat} {z : ZMem × Int32} (s0 : Int32) (μ : ZMem) (h : fX7_alone_b65 n s0 μ = some z) : V (zkI l mX7_alone (rmd 3) fr n z) fr 65 [] [.int s0] n μ := by
  unfold fX7_alone_b65 at h
  cases h
  exact V_iret (zdk tbX7_alone_0_ok 38 rfl) rfl rfl
def fX7_alone (n : Nat) (v0 : Nat) (v1 : Int32) (v2 : Int32) (μ : ZMem) : Option (ZMem × Int32) := chk (isC n 7 v0) (bd2 (fX7_isOne n v0 v1 μ) (fun μ2 r3 => (if r3 = 0 then bd2 (fX7_noTen n v0 (-1 : Int32) μ2) (fun μ19 r20 => some (μ19, r20)) else (if v2 < 0 then (fX7_alone_b23 n v0 μ2) else (if v2 ≤ (1 : Int32) then (if v2 = 0 then bd2 (fX7_pace n v0 v1 μ2) (fun μ12 r13 => bd2 (fX7_pace n v0 v1 μ12) (fun μ15 r16 => chk (!decide (r16 = 0)) ((fX7_alone_b65 n (((((zI μ2 v0 2) - (zI μ2 v0 3)) + r13) - (1 : Int32)) / r16) μ15)))) else bd2 (fX7_tillAbove n v0 v1 μ2) (fun μ9 r10 => (fX7_alone_b65 n r10 μ9))) else (fX7_alone_b23 n v0 μ2))))))
theorem tX7_alone {l : Launch} {fr : Bool} {n : Nat} {v0 : Nat} {v1 : Int32} {v2 : Int32} {μ : ZMem} {z : ZMem × Int32} (h : fX7_alone n v0 v1 v2 μ = some z) : ZFn l mX7_alone (rmd 3) [.ref v0, .int v1, .int v2] fr n μ (fr, n, z.1, some (.int z.2)) := by
  unfold fX7_alone at h
  obtain ⟨c_v0, h⟩ := chk_some h
  refine ZFn.of (ls := [(0, .ref v0), (1, .int v1), (2, .int v2)]) (by decide) (fun ξ => Nat.le_of_ble_eq_true rfl) (fun ξ => rfl) ?_
  refine V_aload_n 0 (zdk tbX7_alone_0_ok 0 rfl) rfl ?_
  refine V_iload_n 1 (zdk tbX7_alone_0_ok 1 rfl) rfl ?_
  obtain ⟨μ2, r3, q1, h⟩ := bd2_some h
  refine V_callV (R1 := (rmd 1)) (As := [.int v1]) (r := (some (.int r3))) (zdk tbX7_alone_0_ok 2 rfl) sC7_110 (tX7_isOne q1) (c_v0) rfl rfl rfl ⟨Nat.le_of_ble_eq_true rfl, Nat.le_of_ble_eq_true rfl⟩ (Nat.le_of_ble_eq_true rfl) ⟨rfl, rfl⟩ id ?_
  refine V_if_ne (tgt := 14) (zdk tbX7_alone_0_ok 3 rfl) (by decide) (fun c4 => ?_) (fun c4 => ?_)
  · replace h := ite_f h c4
    refine V_iload_n 2 (zdk tbX7_alone_0_ok 8 rfl) rfl ?_
    refine V_if_lt (tgt := 23) (zdk tbX7_alone_0_ok 9 rfl) (by decide) (fun c5 => ?_) (fun c5 => ?_)
    · replace h := ite_t h c5
      refine V_sub (ls' := [(0, .ref v0)]) [0] rfl ?_
      exact tX7_alone_b23 v0 μ2 c_v0 h
    · replace h := ite_f h c5
      refine V_iload_n 2 (zdk tbX7_alone_0_ok 10 rfl) rfl ?_
      refine V_iconst (v := 1) (zdk tbX7_alone_0_ok 11 rfl) rfl ?_
      refine V_icmp_le (tgt := 30) (zdk tbX7_alone_0_ok 12 rfl) (by decide) (fun c6 => ?_) (fun c6 => ?_)
      · replace h := ite_t h c6
        refine V_iload_n 2 (zdk tbX7_alone_0_ok 17 rfl) rfl ?_
        refine V_if_ne (tgt := 60) (zdk tbX7_alone_0_ok 18 rfl) (by decide) (fun c7 => ?_) (fun c7 => ?_)
        · replace h := ite_f h c7
          refine V_aload_n 0 (zdk tbX7_alone_0_ok 35 rfl) rfl ?_
          refine V_iload_n 1 (zdk tbX7_alone_0_ok 36 rfl) rfl ?_
          obtain ⟨μ9, r10, q8, h⟩ := bd2_some h
          refine V_callV (R1 := (rmd 2)) (As := [.int v1]) (r := (some (.int r10))) (zdk tbX7_alone_0_ok 37 rfl) sC7_203 (tX7_tillAbove q8) (c_v0) rfl rfl rfl ⟨Nat.le_of_ble_eq_true rfl, Nat.le_of_ble_eq_true rfl⟩ (Nat.le_of_ble_eq_true rfl) ⟨rfl, rfl⟩ id ?_
          refine V_sub (ls' := []) [] rfl ?_
          exact tX7_alone_b65 r10 μ9  h
        · replace h := ite_t h c7
          refine V_aload_n 0 (zdk tbX7_alone_0_ok 19 rfl) rfl ?_
          refine V_getI (zdk tbX7_alone_0_ok 20 rfl) c_v0 fF7_13 rfl ?_
          refine V_aload_n 0 (zdk tbX7_alone_0_ok 21 rfl) rfl ?_
          refine V_getI (zdk tbX7_alone_0_ok 22 rfl) c_v0 fF7_130 rfl ?_
          refine V_isub (zdk tbX7_alone_0_ok 23 rfl) ?_
          refine V_aload_n 0 (zdk tbX7_alone_0_ok 24 rfl) rfl ?_
          refine V_iload_n 1 (zdk tbX7_alone_0_ok 25 rfl) rfl ?_
          obtain ⟨μ12, r13, q11, h⟩ := bd2_some h
          refine V_callV (R1 := (rmd 1)) (As := [.int v1]) (r := (some (.int r13))) (zdk tbX7_alone_0_ok 26 rfl) sC7_119 (tX7_pace q11) (c_v0) rfl rfl rfl ⟨Nat.le_of_ble_eq_true rfl, Nat.le_of_ble_eq_true rfl⟩ (Nat.le_of_ble_eq_true rfl) ⟨rfl, rfl⟩ id ?_
          refine V_iadd (zdk tbX7_alone_0_ok 27 rfl) ?_
          refine V_iconst (v := 1) (zdk tbX7_alone_0_ok 28 rfl) rfl ?_
          refine V_isub (zdk tbX7_alone_0_ok 29 rfl) ?_
          refine V_aload_n 0 (zdk tbX7_alone_0_ok 30 rfl) rfl ?_
          refine V_iload_n 1 (zdk tbX7_alone_0_ok 31 rfl) rfl ?_
          obtain ⟨μ15, r16, q14, h⟩ := bd2_some h
          refine V_callV (R1 := (rmd 1)) (As := [.int v1]) (r := (some (.int r16))) (zdk tbX7_alone_0_ok 32 rfl) sC7_119 (tX7_pace q14) (c_v0) rfl rfl rfl ⟨Nat.le_of_ble_eq_true rfl, Nat.le_of_ble_eq_true rfl⟩ (Nat.le_of_ble_eq_true rfl) ⟨rfl, rfl⟩ id ?_
          obtain ⟨d17, h⟩ := chk_some h
          refine V_idiv (zdk tbX7_alone_0_ok 33 rfl) (nz_of d17) ?_
          refine V_goto (tgt := 65) (zdk tbX7_alone_0_ok 34 rfl) (by decide) ?_
          refine V_sub (ls' := []) [] rfl ?_
          exact tX7_alone_b65 (((((zI μ2 v0 2) - (zI μ2 v0 3)) + r13) - (1 : Int32)) / r16) μ15  h
      · replace h := ite_f h c6
        refine V_sub (ls' := [(0, .ref v0)]) [0] rfl ?_
        exact tX7_alone_b23 v0 μ2 c_v0 h
  · replace h := ite_t h c4
    refine V_aload_n 0 (zdk tbX7_alone_0_ok 4 rfl) rfl ?_
    refine V_iconst (v := (-1)) (zdk tbX7_alone_0_ok 5 rfl) rfl ?_
    obtain ⟨μ19, r20, q18, h⟩ := bd2_some h
    refine V_callV (R1 := (rmd 1)) (As := [.int (-1 : Int32)]) (r := (some (.int r20))) (zdk tbX7_alone_0_ok 6 rfl) sC7_133 (tX7_noTen q18) (c_v0) rfl rfl rfl ⟨Nat.le_of_ble_eq_true rfl, Nat.le_of_ble_eq_true rfl⟩ (Nat.le_of_ble_eq_true rfl) ⟨rfl, rfl⟩ id ?_
    cases h
    exact V_iret (zdk tbX7_alone_0_ok 7 rfl) rfl rfl

-- WhoComplainsCarriesModel.goesLeg
def tbX7_goesLeg_0 : List (Nat × Instr × Nat) := [(0, .iconst 1, 1), (1, .istore_n 2, 1), (2, .iconst 0, 1), (3, .istore_n 3, 1), (4, .iload_n 3, 1), (5, .iload_n 1, 1), (6, .if_icmp .ge 46, 3), (9, .aload_n 0, 1), (10, .iconst 1, 1), (11, .invokevirtual 196, 3), (14, .iconst 0, 1), (15, .istore 4, 2), (17, .iload 4, 2), (19, .aload_n 0, 1), (20, .getfield 99, 3), (23, .if_icmp .ge 23, 3), (26, .aload_n 0, 1), (27, .getfield 44, 3), (30, .iload 4, 2), (32, .iaload, 1), (33, .bipush 50, 2), (35, .if_icmp .le 5, 3), (38, .iconst 0, 1), (39, .istore_n 2, 1), (40, .iinc 4 1, 3), (43, .goto (-26), 3), (46, .iinc 3 1, 3), (49, .goto (-45), 3), (52, .iload_n 2, 1), (53, .ireturn, 1)]
theorem tbX7_goesLeg_0_ok : ∀ q ∈ tbX7_goesLeg_0, decode cX7_goesLeg q.1 = .ok (q.2.1, q.2.2) := by decide +kernel
def fX7_goesLeg_b40 (g4 : Nat → Int32 → Int32 → Int32 → ZMem → Option (ZMem × Int32)) (g17 : Nat → Int32 → Int32 → Int32 → Int32 → ZMem → Option (ZMem × Int32)) (n : Nat) (v0 : Nat) (v1 : Int32) (v2 : Int32) (v3 : Int32) (v4 : Int32) (μ : ZMem) : Option (ZMem × Int32) := (g17 v0 v1 v2 v3 (v4 + (1 : Int32)) μ)
theorem tX7_goesLeg_b40 {l : Launch} {fr : Bool} {n : Nat} {z : ZMem × Int32} {g4 : Nat → Int32 → Int32 → Int32 → ZMem → Option (ZMem × Int32)} (hg4 : ∀ (v0 : Nat) (v1 : Int32) (v2 : Int32) (v3 : Int32) (μ : ZMem), isC n 7 v0 = true → g4 v0 v1 v2 v3 μ = some z → V (zkI l mX7_goesLeg (rmd 4) fr n z) fr 4 [(0, .ref v0), (1, .int v1), (2, .int v2), (3, .int v3)] [] n μ) {g17 : Nat → Int32 → Int32 → Int32 → Int32 → ZMem → Option (ZMem × Int32)} (hg17 : ∀ (v0 : Nat) (v1 : Int32) (v2 : Int32) (v3 : Int32) (v4 : Int32) (μ : ZMem), isC n 7 v0 = true → g17 v0 v1 v2 v3 v4 μ = some z → V (zkI l mX7_goesLeg (rmd 4) fr n z) fr 17 [(0, .ref v0), (1, .int v1), (2, .int v2), (3, .int v3), (4, .int v4)] [] n μ) (v0 : Nat) (v1 : Int32) (v2 : Int32) (v3 : Int32) (v4 : Int32) (μ : ZMem) (c_v0 : isC n 7 v0 = true) (h : fX7_goesLeg_b40 g4 g17 n v0 v1 v2 v3 v4 μ = some z) : V (zkI l mX7_goesLeg (rmd 4) fr n z) fr 40 [(0, .ref v0), (1, .int v1), (2, .int v2), (3, .int v3), (4, .int v4)] [] n μ := by
  unfold fX7_goesLeg_b40 at h
  refine V_inc (dx := 1) (ls' := [(0, .ref v0), (1, .int v1), (2, .int v2), (3, .int v3), (4, .int (v4 + (1 : Int32)))]) 4 [1, 2, 3, 4, 0] (zdk tbX7_goesLeg_0_ok 24 rfl) rfl (Nat.le_of_ble_eq_true rfl) rfl rfl ?_
  refine V_goto (tgt := 17) (zdk tbX7_goesLeg_0_ok 25 rfl) (by decide) ?_
  exact hg17 v0 v1 v2 v3 (v4 + (1 : Int32)) μ c_v0 h
def fX7_goesLeg_b17 (g4 : Nat → Int32 → Int32 → Int32 → ZMem → Option (ZMem × Int32)) (n : Nat) : Nat → Nat → Int32 → Int32 → Int32 → Int32 → ZMem → Option (ZMem × Int32)
  | 0, _, _, _, _, _, _ => none
  | k + 1, v0, v1, v2, v3, v4, μ => (if (zI μ v0 0) ≤ v4 then (g4 v0 v1 v2 (v3 + (1 : Int32)) μ) else bd1 (zRc n 100 μ v0 14) (fun r2 => chk (inb v4 r2) ((if (zI μ r2 v4.toNatClampNeg) ≤ (50 : Int32) then (fX7_goesLeg_b40 g4 (fX7_goesLeg_b17 g4 n k) n v0 v1 v2 v3 v4 μ) else (fX7_goesLeg_b40 g4 (fX7_goesLeg_b17 g4 n k) n v0 v1 (0 : Int32) v3 v4 μ)))))
theorem tX7_goesLeg_b17 {l : Launch} {fr : Bool} {n : Nat} {z : ZMem × Int32} {g4 : Nat → Int32 → Int32 → Int32 → ZMem → Option (ZMem × Int32)} (hg4 : ∀ (v0 : Nat) (v1 : Int32) (v2 : Int32) (v3 : Int32) (μ : ZMem), isC n 7 v0 = true → g4 v0 v1 v2 v3 μ = some z → V (zkI l mX7_goesLeg (rmd 4) fr n z) fr 4 [(0, .ref v0), (1, .int v1), (2, .int v2), (3, .int v3)] [] n μ) : ∀ (k : Nat) (v0 : Nat) (v1 : Int32) (v2 : Int32) (v3 : Int32) (v4 : Int32) (μ : ZMem) (c_v0 : isC n 7 v0 = true), fX7_goesLeg_b17 g4 n k v0 v1 v2 v3 v4 μ = some z → V (zkI l mX7_goesLeg (rmd 4) fr n z) fr 17 [(0, .ref v0), (1, .int v1), (2, .int v2), (3, .int v3), (4, .int v4)] [] n μ := by
  intro k
  induction k with
  | zero =>
    intro v0 v1 v2 v3 v4 μ c_v0 h
    unfold fX7_goesLeg_b17 at h
    cases h
  | succ k ih =>
    intro v0 v1 v2 v3 v4 μ c_v0 h
    unfold fX7_goesLeg_b17 at h
    refine V_iload 4 (zdk tbX7_goesLeg_0_ok 12 rfl) rfl ?_
    refine V_aload_n 0 (zdk tbX7_goesLeg_0_ok 13 rfl) rfl ?_
    refine V_getI (zdk tbX7_goesLeg_0_ok 14 rfl) c_v0 fF7_99 rfl ?_
    refine V_icmp_ge (tgt := 46) (zdk tbX7_goesLeg_0_ok 15 rfl) (by decide) (fun c1 => ?_) (fun c1 => ?_)
    · replace h := ite_t h c1
      refine V_inc (dx := 1) (ls' := [(0, .ref v0), (1, .int v1), (2, .int v2), (3, .int (v3 + (1 : Int32)))]) 3 [1, 2, 3, 0] (zdk tbX7_goesLeg_0_ok 26 rfl) rfl (Nat.le_of_ble_eq_true rfl) rfl rfl ?_
      refine V_goto (tgt := 4) (zdk tbX7_goesLeg_0_ok 27 rfl) (by decide) ?_
      exact hg4 v0 v1 v2 (v3 + (1 : Int32)) μ c_v0 h
    · replace h := ite_f h c1
      refine V_aload_n 0 (zdk tbX7_goesLeg_0_ok 16 rfl) rfl ?_
      obtain ⟨r2, q3, h⟩ := bd1_some h
      obtain ⟨q3, c_r2⟩ := zRc_some q3
      refine V_getR (zdk tbX7_goesLeg_0_ok 17 rfl) c_v0 fF7_44 rfl q3 ?_
      refine V_iload 4 (zdk tbX7_goesLeg_0_ok 18 rfl) rfl ?_
      obtain ⟨b4, h⟩ := chk_some h
      refine V_iald (zdk tbX7_goesLeg_0_ok 19 rfl) c_r2 b4 ?_
      refine V_bipush (v := 50) (zdk tbX7_goesLeg_0_ok 20 rfl) rfl ?_
      refine V_icmp_le (tgt := 40) (zdk tbX7_goesLeg_0_ok 21 rfl) (by decide) (fun c5 => ?_) (fun c5 => ?_)
      · replace h := ite_t h c5
        exact tX7_goesLeg_b40 hg4 (fun v0 v1 v2 v3 v4 μ y0 h => ih v0 v1 v2 v3 v4 μ y0 h) v0 v1 v2 v3 v4 μ c_v0 h
      · replace h := ite_f h c5
        refine V_iconst (v := 0) (zdk tbX7_goesLeg_0_ok 22 rfl) rfl ?_
        refine V_istore_n (ls' := [(0, .ref v0), (1, .int v1), (2, .int (0 : Int32)), (3, .int v3), (4, .int v4)]) [1, 2, 0, 3, 4] (zdk tbX7_goesLeg_0_ok 23 rfl) (Nat.le_of_ble_eq_true rfl) rfl ?_
        exact tX7_goesLeg_b40 hg4 (fun v0 v1 v2 v3 v4 μ y0 h => ih v0 v1 v2 v3 v4 μ y0 h) v0 v1 (0 : Int32) v3 v4 μ c_v0 h
def fX7_goesLeg_b4 (n : Nat) : Nat → Nat → Int32 → Int32 → Int32 → ZMem → Option (ZMem × Int32)
  | 0, _, _, _, _, _ => none
  | k + 1, v0, v1, v2, v3, μ => (if v1 ≤ v3 then chk (b01 v2) (some (μ, v2)) else bd1 (fX7_step n v0 (1 : Int32) μ) (fun μ4 => (fX7_goesLeg_b17 (fX7_goesLeg_b4 n k) n FU v0 v1 v2 v3 (0 : Int32) μ4)))
theorem tX7_goesLeg_b4 {l : Launch} {fr : Bool} {n : Nat} {z : ZMem × Int32} : ∀ (k : Nat) (v0 : Nat) (v1 : Int32) (v2 : Int32) (v3 : Int32) (μ : ZMem) (c_v0 : isC n 7 v0 = true), fX7_goesLeg_b4 n k v0 v1 v2 v3 μ = some z → V (zkI l mX7_goesLeg (rmd 4) fr n z) fr 4 [(0, .ref v0), (1, .int v1), (2, .int v2), (3, .int v3)] [] n μ := by
  intro k
  induction k with
  | zero =>
    intro v0 v1 v2 v3 μ c_v0 h
    unfold fX7_goesLeg_b4 at h
    cases h
  | succ k ih =>
    intro v0 v1 v2 v3 μ c_v0 h
    unfold fX7_goesLeg_b4 at h
    refine V_iload_n 3 (zdk tbX7_goesLeg_0_ok 4 rfl) rfl ?_
    refine V_iload_n 1 (zdk tbX7_goesLeg_0_ok 5 rfl) rfl ?_
    refine V_icmp_ge (tgt := 52) (zdk tbX7_goesLeg_0_ok 6 rfl) (by decide) (fun c1 => ?_) (fun c1 => ?_)
    · replace h := ite_t h c1
      refine V_iload_n 2 (zdk tbX7_goesLeg_0_ok 28 rfl) rfl ?_
      obtain ⟨b2, h⟩ := chk_some h
      cases h
      exact V_zret (zdk tbX7_goesLeg_0_ok 29 rfl) rfl (b01_n b2) rfl
    · replace h := ite_f h c1
      refine V_aload_n 0 (zdk tbX7_goesLeg_0_ok 7 rfl) rfl ?_
      refine V_iconst (v := 1) (zdk tbX7_goesLeg_0_ok 8 rfl) rfl ?_
      obtain ⟨μ4, q3, h⟩ := bd1_some h
      refine V_callV (R1 := (rmd 3)) (As := [.int (1 : Int32)]) (r := none) (zdk tbX7_goesLeg_0_ok 9 rfl) sC7_196 (tX7_step q3) (c_v0) rfl rfl rfl ⟨Nat.le_of_ble_eq_true rfl, Nat.le_of_ble_eq_true rfl⟩ (Nat.le_of_ble_eq_true rfl) ⟨rfl, rfl⟩ id ?_
      refine V_iconst (v := 0) (zdk tbX7_goesLeg_0_ok 10 rfl) rfl ?_
      refine V_istore (ls' := [(0, .ref v0), (1, .int v1), (2, .int v2), (3, .int v3), (4, .int (0 : Int32))]) [1, 2, 3, 4, 0] (zdk tbX7_goesLeg_0_ok 11 rfl) (Nat.le_of_ble_eq_true rfl) rfl ?_
      exact tX7_goesLeg_b17 (fun v0 v1 v2 v3 μ y0 h => ih v0 v1 v2 v3 μ y0 h) FU v0 v1 v2 v3 (0 : Int32) μ4 c_v0 h
def fX7_goesLeg (n : Nat) (v0 : Nat) (v1 : Int32) (μ : ZMem) : Option (ZMem × Int32) := chk (isC n 7 v0) ((fX7_goesLeg_b4 n FU v0 v1 (1 : Int32) (0 : Int32) μ))
theorem tX7_goesLeg {l : Launch} {fr : Bool} {n : Nat} {v0 : Nat} {v1 : Int32} {μ : ZMem} {z : ZMem × Int32} (h : fX7_goesLeg n v0 v1 μ = some z) : ZFn l mX7_goesLeg (rmd 4) [.ref v0, .int v1] fr n μ (fr, n, z.1, some (.int z.2)) := by
  unfold fX7_goesLeg at h
  obtain ⟨c_v0, h⟩ := chk_some h
  refine ZFn.of (ls := [(0, .ref v0), (1, .int v1)]) (by decide) (fun ξ => Nat.le_of_ble_eq_true rfl) (fun ξ => rfl) ?_
  refine V_iconst (v := 1) (zdk tbX7_goesLeg_0_ok 0 rfl) rfl ?_
  refine V_istore_n (ls' := [(0, .ref v0), (1, .int v1), (2, .int (1 : Int32))]) [1, 2, 0] (zdk tbX7_goesLeg_0_ok 1 rfl) (Nat.le_of_ble_eq_true rfl) rfl ?_
  refine V_iconst (v := 0) (zdk tbX7_goesLeg_0_ok 2 rfl) rfl ?_
  refine V_istore_n (ls' := [(0, .ref v0), (1, .int v1), (2, .int (1 : Int32)), (3, .int (0 : Int32))]) [1, 2, 3, 0] (zdk tbX7_goesLeg_0_ok 3 rfl) (Nat.le_of_ble_eq_true rfl) rfl ?_
  exact tX7_goesLeg_b4 FU v0 v1 (1 : Int32) (0 : Int32) μ c_v0 h

-- WhoComplainsCarriesModel.legs
def tbX7_legs_0 : List (Nat × Instr × Nat) := [(0, .iload_n 1, 1), (1, .iload_n 2, 1), (2, .if_icmp .ge 39, 3), (5, .iconst 0, 1), (6, .istore 4, 2), (8, .iload 4, 2), (10, .aload_n 0, 1), (11, .getfield 99, 3), (14, .if_icmp .ge 26, 3), (17, .aload_n 0, 1), (18, .getfield 90, 3), (21, .iload_n 1, 1), (22, .iload 4, 2), (24, .iastore, 1), (25, .aload_n 0, 1), (26, .iload_n 1, 1), (27, .iconst 1, 1), (28, .iadd, 1), (29, .iload_n 2, 1), (30, .iload_n 3, 1), (31, .invokevirtual 206, 3), (34, .iinc 4 1, 3), (37, .goto (-29), 3), (40, .return_, 1), (41, .aload_n 0, 1), (42, .aload_n 0, 1), (43, .getfield 84, 3), (46, .iconst 0, 1), (47, .invokevirtual 182, 3), (50, .iconst 1, 1), (51, .istore 4, 2), (53, .iconst 0, 1), (54, .istore 5, 2), (56, .iload 5, 2), (58, .iload_n 2, 1), (59, .if_icmp .ge 32, 3), (62, .iload 4, 2), (64, .ifCond .eq 27, 3), (67, .aload_n 0, 1), (68, .aload_n 0, 1), (69, .getfield 90, 3), (72, .iload 5, 2), (74, .iaload, 1), (75, .putfield 16, 3), (78, .aload_n 0, 1), (79, .iload_n 3, 1), (80, .invokevirtual 210, 3), (83, .istore 4, 2), (85, .iinc 5 1, 3), (88, .goto (-32), 3)]
theorem tbX7_legs_0_ok : ∀ q ∈ tbX7_legs_0, decode cX7_legs q.1 = .ok (q.2.1, q.2.2) := by decide +kernel
def tbX7_legs_1 : List (Nat × Instr × Nat) := [(91, .aload_n 0, 1), (92, .getfield 130, 3), (95, .istore 5, 2), (97, .aload_n 0, 1), (98, .aload_n 0, 1), (99, .getfield 84, 3), (102, .iconst 1, 1), (103, .invokevirtual 182, 3), (106, .iload 4, 2), (108, .ifCond .eq 12, 3), (111, .iload 5, 2), (113, .aload_n 0, 1), (114, .getfield 213, 3), (117, .if_icmp .gt 4, 3), (120, .return_, 1), (121, .aload_n 0, 1), (122, .iload 5, 2), (124, .putfield 213, 3), (127, .iconst 0, 1), (128, .istore 6, 2), (130, .iload 6, 2), (132, .iload_n 2, 1), (133, .if_icmp .ge 23, 3), (136, .aload_n 0, 1), (137, .getfield 93, 3), (140, .iload 6, 2), (142, .aload_n 0, 1), (143, .getfield 90, 3), (146, .iload 6, 2), (148, .iaload, 1), (149, .iastore, 1), (150, .iinc 6 1, 3), (153, .goto (-23), 3), (156, .return_, 1)]
theorem tbX7_legs_1_ok : ∀ q ∈ tbX7_legs_1, decode cX7_legs q.1 = .ok (q.2.1, q.2.2) := by decide +kernel
theorem wCX7_legs : zCW mX7_legs 3 := ⟨zin (i := 8) (by decide +kernel) rfl, zin (i := 1127) (by decide +kernel) rfl, by decide +kernel, by decide +kernel, by decide +kernel⟩
theorem sC7_206 : zCV RX7 206 mX7_legs 3 := ⟨zin (i := 1124) (by decide +kernel) rfl, zin (i := 1126) (by decide +kernel) rfl, zinP (i := 53) (q := (yX7_legs, 42)) (by decide +kernel) rfl, wCX7_legs⟩
theorem fF7_213 : zF RX7 213 7 36 := ⟨_, rfl, by decide, zin (i := 853) (by decide +kernel) rfl⟩
theorem wCX7_goesLeg : zCW mX7_goesLeg 1 := ⟨zin (i := 8) (by decide +kernel) rfl, zin (i := 1131) (by decide +kernel) rfl, by decide +kernel, by decide +kernel, by decide +kernel⟩
theorem sC7_210 : zCV RX7 210 mX7_goesLeg 1 := ⟨zin (i := 1128) (by decide +kernel) rfl, zin (i := 1130) (by decide +kernel) rfl, zinP (i := 54) (q := (yX7_goesLeg, 42)) (by decide +kernel) rfl, wCX7_goesLeg⟩
def fX7_legs_b8 (gs : Nat → Int32 → Int32 → Int32 → ZMem → Option (ZMem)) (n : Nat) : Nat → Nat → Int32 → Int32 → Int32 → Int32 → ZMem → Option (ZMem)
  | 0, _, _, _, _, _, _ => none
  | k + 1, v0, v1, v2, v3, v4, μ => (if (zI μ v0 0) ≤ v4 then some μ else bd1 (zRc n 100 μ v0 34) (fun r2 => chk (inb v1 r2) (lt (zpI μ r2 v1.toNatClampNeg v4) (fun μ5 => bd1 (gs v0 (v1 + (1 : Int32)) v2 v3 μ5) (fun μ8 => (fX7_legs_b8 gs n k v0 v1 v2 v3 (v4 + (1 : Int32)) μ8))))))
theorem tX7_legs_b8 {l : Launch} {fr : Bool} {q : Nat} {n : Nat} {z : ZMem} {gs : Nat → Int32 → Int32 → Int32 → ZMem → Option (ZMem)} (hgs : ∀ {fr : Bool} (v0 : Nat) (v1 : Int32) (v2 : Int32) (v3 : Int32) (μ : ZMem) (y : ZMem), gs v0 v1 v2 v3 μ = some y → ZFn l mX7_legs (rmd (5 + q)) [.ref v0, .int v1, .int v2, .int v3] fr n μ (fr, n, y, none)) : ∀ (k : Nat) (v0 : Nat) (v1 : Int32) (v2 : Int32) (v3 : Int32) (v4 : Int32) (μ : ZMem) (c_v0 : isC n 7 v0 = true), fX7_legs_b8 gs n k v0 v1 v2 v3 v4 μ = some z → V (zkV l mX7_legs (rmd (5 + q + 1)) fr n z) fr 8 [(0, .ref v0), (1, .int v1), (2, .int v2), (3, .int v3), (4, .int v4)] [] n μ := by
  intro k
  induction k with
  | zero =>
    intro v0 v1 v2 v3 v4 μ c_v0 h
    unfold fX7_legs_b8 at h
    cases h
  | succ k ih =>
    intro v0 v1 v2 v3 v4 μ c_v0 h
    unfold fX7_legs_b8 at h
    refine V_iload 4 (zdk tbX7_legs_0_ok 5 rfl) rfl ?_
    refine V_aload_n 0 (zdk tbX7_legs_0_ok 6 rfl) rfl ?_
    refine V_getI (zdk tbX7_legs_0_ok 7 rfl) c_v0 fF7_99 rfl ?_
    refine V_icmp_ge (tgt := 40) (zdk tbX7_legs_0_ok 8 rfl) (by decide) (fun c1 => ?_) (fun c1 => ?_)
    · replace h := ite_t h c1
      cases h
      exact V_vret (zdk tbX7_legs_0_ok 23 rfl) rfl rfl
    · replace h := ite_f h c1
      refine V_aload_n 0 (zdk tbX7_legs_0_ok 9 rfl) rfl ?_
      obtain ⟨r2, q3, h⟩ := bd1_some h
      obtain ⟨q3, c_r2⟩ := zRc_some q3
      refine V_getR (zdk tbX7_legs_0_ok 10 rfl) c_v0 fF7_90 rfl q3 ?_
      refine V_iload_n 1 (zdk tbX7_legs_0_ok 11 rfl) rfl ?_
      refine V_iload 4 (zdk tbX7_legs_0_ok 12 rfl) rfl ?_
      obtain ⟨b4, h⟩ := chk_some h
      obtain ⟨μ5, e6, h⟩ := lt_some h
      refine V_iast (zdk tbX7_legs_0_ok 13 rfl) c_r2 b4 e6 ?_
      refine V_aload_n 0 (zdk tbX7_legs_0_ok 14 rfl) rfl ?_
      refine V_iload_n 1 (zdk tbX7_legs_0_ok 15 rfl) rfl ?_
      refine V_iconst (v := 1) (zdk tbX7_legs_0_ok 16 rfl) rfl ?_
      refine V_iadd (zdk tbX7_legs_0_ok 17 rfl) ?_
      refine V_iload_n 2 (zdk tbX7_legs_0_ok 18 rfl) rfl ?_
      refine V_iload_n 3 (zdk tbX7_legs_0_ok 19 rfl) rfl ?_
      obtain ⟨μ8, q7, h⟩ := bd1_some h
      refine V_callV (R1 := (rmd (5 + q))) (As := [.int (v1 + (1 : Int32)), .int v2, .int v3]) (r := none) (zdk tbX7_legs_0_ok 20 rfl) sC7_206 (hgs v0 (v1 + (1 : Int32)) v2 v3 μ5 _ q7) (c_v0) rfl rfl rfl (by simp only [rmd, mX7_legs, mX7_legs]; omega) (Nat.le_of_ble_eq_true rfl) ⟨rfl, rfl⟩ id ?_
      refine V_inc (dx := 1) (ls' := [(0, .ref v0), (1, .int v1), (2, .int v2), (3, .int v3), (4, .int (v4 + (1 : Int32)))]) 4 [1, 2, 3, 4, 0] (zdk tbX7_legs_0_ok 21 rfl) rfl (Nat.le_of_ble_eq_true rfl) rfl rfl ?_
      refine V_goto (tgt := 8) (zdk tbX7_legs_0_ok 22 rfl) (by decide) ?_
      exact ih v0 v1 v2 v3 (v4 + (1 : Int32)) μ8 c_v0 h
def fX7_legs_b120 (gs : Nat → Int32 → Int32 → Int32 → ZMem → Option (ZMem)) (n : Nat) (μ : ZMem) : Option (ZMem) := some μ
theorem tX7_legs_b120 {l : Launch} {fr : Bool} {q : Nat} {n : Nat} {z : ZMem} {gs : Nat → Int32 → Int32 → Int32 → ZMem → Option (ZMem)} (hgs : ∀ {fr : Bool} (v0 : Nat) (v1 : Int32) (v2 : Int32) (v3 : Int32) (μ : ZMem) (y : ZMem), gs v0 v1 v2 v3 μ = some y → ZFn l mX7_legs (rmd (5 + q)) [.ref v0, .int v1, .int v2, .int v3] fr n μ (fr, n, y, none)) (μ : ZMem) (h : fX7_legs_b120 gs n μ = some z) : V (zkV l mX7_legs (rmd (5 + q + 1)) fr n z) fr 120 [] [] n μ := by
  unfold fX7_legs_b120 at h
  cases h
  exact V_vret (zdk tbX7_legs_1_ok 14 rfl) rfl rfl
def fX7_legs_b130 (gs : Nat → Int32 → Int32 → Int32 → ZMem → Option (ZMem)) (n : Nat) : Nat → Nat → Int32 → Int32 → ZMem → Option (ZMem)
  | 0, _, _, _, _ => none
  | k + 1, v0, v2, v6, μ => (if v2 ≤ v6 then some μ else bd1 (zRc n 100 μ v0 35) (fun r2 => bd1 (zRc n 100 μ v0 34) (fun r4 => chk (inb v6 r4) (chk (inb v6 r2) (lt (zpI μ r2 v6.toNatClampNeg (zI μ r4 v6.toNatClampNeg)) (fun μ8 => (fX7_legs_b130 gs n k v0 v2 (v6 + (1 : Int32)) μ8)))))))
theorem tX7_legs_b130 {l : Launch} {fr : Bool} {q : Nat} {n : Nat} {z : ZMem} {gs : Nat → Int32 → Int32 → Int32 → ZMem → Option (ZMem)} (hgs : ∀ {fr : Bool} (v0 : Nat) (v1 : Int32) (v2 : Int32) (v3 : Int32) (μ : ZMem) (y : ZMem), gs v0 v1 v2 v3 μ = some y → ZFn l mX7_legs (rmd (5 + q)) [.ref v0, .int v1, .int v2, .int v3] fr n μ (fr, n, y, none)) : ∀ (k : Nat) (v0 : Nat) (v2 : Int32) (v6 : Int32) (μ : ZMem) (c_v0 : isC n 7 v0 = true), fX7_legs_b130 gs n k v0 v2 v6 μ = some z → V (zkV l mX7_legs (rmd (5 + q + 1)) fr n z) fr 130 [(0, .ref v0), (2, .int v2), (6, .int v6)] [] n μ := by
  intro k
  induction k with
  | zero =>
    intro v0 v2 v6 μ c_v0 h
    unfold fX7_legs_b130 at h
    cases h
  | succ k ih =>
    intro v0 v2 v6 μ c_v0 h
    unfold fX7_legs_b130 at h
    refine V_iload 2 (zdk tbX7_legs_1_ok 20 rfl) rfl ?_
    refine V_iload_n 1 (zdk tbX7_legs_1_ok 21 rfl) rfl ?_
    refine V_icmp_ge (tgt := 156) (zdk tbX7_legs_1_ok 22 rfl) (by decide) (fun c1 => ?_) (fun c1 => ?_)
    · replace h := ite_t h c1
      cases h
      exact V_vret (zdk tbX7_legs_1_ok 33 rfl) rfl rfl
    · replace h := ite_f h c1
      refine V_aload_n 0 (zdk tbX7_legs_1_ok 23 rfl) rfl ?_
      obtain ⟨r2, q3, h⟩ := bd1_some h
      obtain ⟨q3, c_r2⟩ := zRc_some q3
      refine V_getR (zdk tbX7_legs_1_ok 24 rfl) c_v0 fF7_93 rfl q3 ?_
      refine V_iload 2 (zdk tbX7_legs_1_ok 25 rfl) rfl ?_
      refine V_aload_n 0 (zdk tbX7_legs_1_ok 26 rfl) rfl ?_
      obtain ⟨r4, q5, h⟩ := bd1_some h
      obtain ⟨q5, c_r4⟩ := zRc_some q5
      refine V_getR (zdk tbX7_legs_1_ok 27 rfl) c_v0 fF7_90 rfl q5 ?_
      refine V_iload 2 (zdk tbX7_legs_1_ok 28 rfl) rfl ?_
      obtain ⟨b6, h⟩ := chk_some h
      refine V_iald (zdk tbX7_legs_1_ok 29 rfl) c_r4 b6 ?_
      obtain ⟨b7, h⟩ := chk_some h
      obtain ⟨μ8, e9, h⟩ := lt_some h
      refine V_iast (zdk tbX7_legs_1_ok 30 rfl) c_r2 b7 e9 ?_
      refine V_inc (dx := 1) (ls' := [(0, .ref v0), (2, .int v2), (6, .int (v6 + (1 : Int32)))]) 2 [1, 2, 0] (zdk tbX7_legs_1_ok 31 rfl) rfl (Nat.le_of_ble_eq_true rfl) rfl rfl ?_
      refine V_goto (tgt := 130) (zdk tbX7_legs_1_ok 32 rfl) (by decide) ?_
      exact ih v0 v2 (v6 + (1 : Int32)) μ8 c_v0 h
def fX7_legs_b91 (gs : Nat → Int32 → Int32 → Int32 → ZMem → Option (ZMem)) (n : Nat) (v0 : Nat) (v2 : Int32) (v4 : Int32) (μ : ZMem) : Option (ZMem) := bd1 (zRc n 100 μ v0 32) (fun r1 => bd1 (fX7_all n v0 r1 (1 : Int32) μ) (fun μ4 => (if v4 = 0 then (fX7_legs_b120 gs n  μ4) else (if (zI μ4 v0 36) < (zI μ v0 3) then lt (zpI μ4 v0 36 (zI μ v0 3)) (fun μ7 => (fX7_legs_b130 gs n FU v0 v2 (0 : Int32) μ7)) else (fX7_legs_b120 gs n  μ4)))))
theorem tX7_legs_b91 {l : Launch} {fr : Bool} {q : Nat} {n : Nat} {z : ZMem} {gs : Nat → Int32 → Int32 → Int32 → ZMem → Option (ZMem)} (hgs : ∀ {fr : Bool} (v0 : Nat) (v1 : Int32) (v2 : Int32) (v3 : Int32) (μ : ZMem) (y : ZMem), gs v0 v1 v2 v3 μ = some y → ZFn l mX7_legs (rmd (5 + q)) [.ref v0, .int v1, .int v2, .int v3] fr n μ (fr, n, y, none)) (v0 : Nat) (v2 : Int32) (v4 : Int32) (μ : ZMem) (c_v0 : isC n 7 v0 = true) (h : fX7_legs_b91 gs n v0 v2 v4 μ = some z) : V (zkV l mX7_legs (rmd (5 + q + 1)) fr n z) fr 91 [(0, .ref v0), (2, .int v2), (4, .int v4)] [] n μ := by
  unfold fX7_legs_b91 at h
  refine V_aload_n 0 (zdk tbX7_legs_1_ok 0 rfl) rfl ?_
  refine V_getI (zdk tbX7_legs_1_ok 1 rfl) c_v0 fF7_130 rfl ?_
  refine V_istore (ls' := [(0, .ref v0), (2, .int v2), (4, .int v4), (5, .int (zI μ v0 3))]) [1, 2, 3, 0] (zdk tbX7_legs_1_ok 2 rfl) (Nat.le_of_ble_eq_true rfl) rfl ?_
  refine V_aload_n 0 (zdk tbX7_legs_1_ok 3 rfl) rfl ?_
  refine V_aload_n 0 (zdk tbX7_legs_1_ok 4 rfl) rfl ?_
  obtain ⟨r1, q2, h⟩ := bd1_some h
  obtain ⟨q2, c_r1⟩ := zRc_some q2
  refine V_getR (zdk tbX7_legs_1_ok 5 rfl) c_v0 fF7_84 rfl q2 ?_
  refine V_iconst (v := 1) (zdk tbX7_legs_1_ok 6 rfl) rfl ?_
  obtain ⟨μ4, q3, h⟩ := bd1_some h
  refine V_callV (R1 := (rmd 2)) (As := [.ref r1, .int (1 : Int32)]) (r := none) (zdk tbX7_legs_1_ok 7 rfl) sC7_182 (tX7_all q3) (c_v0) rfl rfl rfl (by simp only [rmd, mX7_legs, mX7_all]; omega) (Nat.le_of_ble_eq_true rfl) ⟨rfl, rfl⟩ id ?_
  refine V_iload 2 (zdk tbX7_legs_1_ok 8 rfl) rfl ?_
  refine V_if_eq (tgt := 120) (zdk tbX7_legs_1_ok 9 rfl) (by decide) (fun c5 => ?_) (fun c5 => ?_)
  · replace h := ite_t h c5
    refine V_sub (ls' := []) [] rfl ?_
    exact tX7_legs_b120 hgs  μ4  h
  · replace h := ite_f h c5
    refine V_iload 3 (zdk tbX7_legs_1_ok 10 rfl) rfl ?_
    refine V_aload_n 0 (zdk tbX7_legs_1_ok 11 rfl) rfl ?_
    refine V_getI (zdk tbX7_legs_1_ok 12 rfl) c_v0 fF7_213 rfl ?_
    refine V_icmp_gt (tgt := 121) (zdk tbX7_legs_1_ok 13 rfl) (by decide) (fun c6 => ?_) (fun c6 => ?_)
    · replace h := ite_t h c6
      refine V_aload_n 0 (zdk tbX7_legs_1_ok 15 rfl) rfl ?_
      refine V_iload 3 (zdk tbX7_legs_1_ok 16 rfl) rfl ?_
      obtain ⟨μ7, e8, h⟩ := lt_some h
      refine V_putI (zdk tbX7_legs_1_ok 17 rfl) c_v0 fF7_213 rfl rfl rfl e8 ?_
      refine V_iconst (v := 0) (zdk tbX7_legs_1_ok 18 rfl) rfl ?_
      refine V_istore (ls' := [(0, .ref v0), (2, .int v2), (6, .int (0 : Int32))]) [1, 2, 0] (zdk tbX7_legs_1_ok 19 rfl) (Nat.le_of_ble_eq_true rfl) rfl ?_
      exact tX7_legs_b130 hgs FU v0 v2 (0 : Int32) μ7 c_v0 h
    · replace h := ite_f h c6
      refine V_sub (ls' := []) [] rfl ?_
      exact tX7_legs_b120 hgs  μ4  h
def fX7_legs_b56 (gs : Nat → Int32 → Int32 → Int32 → ZMem → Option (ZMem)) (n : Nat) : Nat → Nat → Int32 → Int32 → Int32 → Int32 → ZMem → Option (ZMem)
  | 0, _, _, _, _, _, _ => none
  | k + 1, v0, v2, v3, v4, v5, μ => (if v2 ≤ v5 then (fX7_legs_b91 gs n v0 v2 v4 μ) else (if v4 = 0 then (fX7_legs_b91 gs n v0 v2 v4 μ) else bd1 (zRc n 100 μ v0 34) (fun r3 => chk (inb v5 r3) (lt (zpI μ v0 4 (zI μ r3 v5.toNatClampNeg)) (fun μ6 => bd2 (fX7_goesLeg n v0 v3 μ6) (fun μ9 r10 => (fX7_legs_b56 gs n k v0 v2 v3 r10 (v5 + (1 : Int32)) μ9)))))))
theorem tX7_legs_b56 {l : Launch} {fr : Bool} {q : Nat} {n : Nat} {z : ZMem} {gs : Nat → Int32 → Int32 → Int32 → ZMem → Option (ZMem)} (hgs : ∀ {fr : Bool} (v0 : Nat) (v1 : Int32) (v2 : Int32) (v3 : Int32) (μ : ZMem) (y : ZMem), gs v0 v1 v2 v3 μ = some y → ZFn l mX7_legs (rmd (5 + q)) [.ref v0, .int v1, .int v2, .int v3] fr n μ (fr, n, y, none)) : ∀ (k : Nat) (v0 : Nat) (v2 : Int32) (v3 : Int32) (v4 : Int32) (v5 : Int32) (μ : ZMem) (c_v0 : isC n 7 v0 = true), fX7_legs_b56 gs n k v0 v2 v3 v4 v5 μ = some z → V (zkV l mX7_legs (rmd (5 + q + 1)) fr n z) fr 56 [(0, .ref v0), (2, .int v2), (3, .int v3), (4, .int v4), (5, .int v5)] [] n μ := by
  intro k
  induction k with
  | zero =>
    intro v0 v2 v3 v4 v5 μ c_v0 h
    unfold fX7_legs_b56 at h
    cases h
  | succ k ih =>
    intro v0 v2 v3 v4 v5 μ c_v0 h
    unfold fX7_legs_b56 at h
    refine V_iload 4 (zdk tbX7_legs_0_ok 33 rfl) rfl ?_
    refine V_iload_n 1 (zdk tbX7_legs_0_ok 34 rfl) rfl ?_
    refine V_icmp_ge (tgt := 91) (zdk tbX7_legs_0_ok 35 rfl) (by decide) (fun c1 => ?_) (fun c1 => ?_)
    · replace h := ite_t h c1
      refine V_sub (ls' := [(0, .ref v0), (2, .int v2), (4, .int v4)]) [0, 1, 3] rfl ?_
      exact tX7_legs_b91 hgs v0 v2 v4 μ c_v0 h
    · replace h := ite_f h c1
      refine V_iload 3 (zdk tbX7_legs_0_ok 36 rfl) rfl ?_
      refine V_if_eq (tgt := 91) (zdk tbX7_legs_0_ok 37 rfl) (by decide) (fun c2 => ?_) (fun c2 => ?_)
      · replace h := ite_t h c2
        refine V_sub (ls' := [(0, .ref v0), (2, .int v2), (4, .int v4)]) [0, 1, 3] rfl ?_
        exact tX7_legs_b91 hgs v0 v2 v4 μ c_v0 h
      · replace h := ite_f h c2
        refine V_aload_n 0 (zdk tbX7_legs_0_ok 38 rfl) rfl ?_
        refine V_aload_n 0 (zdk tbX7_legs_0_ok 39 rfl) rfl ?_
        obtain ⟨r3, q4, h⟩ := bd1_some h
        obtain ⟨q4, c_r3⟩ := zRc_some q4
        refine V_getR (zdk tbX7_legs_0_ok 40 rfl) c_v0 fF7_90 rfl q4 ?_
        refine V_iload 4 (zdk tbX7_legs_0_ok 41 rfl) rfl ?_
        obtain ⟨b5, h⟩ := chk_some h
        refine V_iald (zdk tbX7_legs_0_ok 42 rfl) c_r3 b5 ?_
        obtain ⟨μ6, e7, h⟩ := lt_some h
        refine V_putI (zdk tbX7_legs_0_ok 43 rfl) c_v0 fF7_16 rfl rfl rfl e7 ?_
        refine V_aload_n 0 (zdk tbX7_legs_0_ok 44 rfl) rfl ?_
        refine V_iload_n 2 (zdk tbX7_legs_0_ok 45 rfl) rfl ?_
        obtain ⟨μ9, r10, q8, h⟩ := bd2_some h
        refine V_callV (R1 := (rmd 4)) (As := [.int v3]) (r := (some (.int r10))) (zdk tbX7_legs_0_ok 46 rfl) sC7_210 (tX7_goesLeg q8) (c_v0) rfl rfl rfl (by simp only [rmd, mX7_legs, mX7_goesLeg]; omega) (Nat.le_of_ble_eq_true rfl) ⟨rfl, rfl⟩ id ?_
        refine V_istore (ls' := [(0, .ref v0), (2, .int v2), (3, .int v3), (4, .int r10), (5, .int v5)]) [1, 2, 3, 0, 4] (zdk tbX7_legs_0_ok 47 rfl) (Nat.le_of_ble_eq_true rfl) rfl ?_
        refine V_inc (dx := 1) (ls' := [(0, .ref v0), (2, .int v2), (3, .int v3), (4, .int r10), (5, .int (v5 + (1 : Int32)))]) 4 [1, 2, 3, 4, 0] (zdk tbX7_legs_0_ok 48 rfl) rfl (Nat.le_of_ble_eq_true rfl) rfl rfl ?_
        refine V_goto (tgt := 56) (zdk tbX7_legs_0_ok 49 rfl) (by decide) ?_
        exact ih v0 v2 v3 r10 (v5 + (1 : Int32)) μ9 c_v0 h
def fX7_legs (n : Nat) : Nat → Nat → Int32 → Int32 → Int32 → ZMem → Option (ZMem)
  | 0, _, _, _, _, _ => none
  | q + 1, v0, v1, v2, v3, μ => chk (isC n 7 v0) ((if v2 ≤ v1 then bd1 (zRc n 100 μ v0 32) (fun r2 => bd1 (fX7_all n v0 r2 (0 : Int32) μ) (fun μ5 => (fX7_legs_b56 (fX7_legs n q) n FU v0 v2 v3 (1 : Int32) (0 : Int32) μ5))) else (fX7_legs_b8 (fX7_legs n q) n FU v0 v1 v2 v3 (0 : Int32) μ)))
theorem tX7_legs {l : Launch} {n : Nat} : ∀ (q : Nat) {fr : Bool} (v0 : Nat) (v1 : Int32) (v2 : Int32) (v3 : Int32) (μ : ZMem) (z : ZMem), fX7_legs n q v0 v1 v2 v3 μ = some z → ZFn l mX7_legs (rmd (5 + q)) [.ref v0, .int v1, .int v2, .int v3] fr n μ (fr, n, z, none) := by
  intro q
  induction q with
  | zero =>
    intro fr v0 v1 v2 v3 μ z h
    unfold fX7_legs at h
    cases h
  | succ q ih =>
    intro fr v0 v1 v2 v3 μ z h
    unfold fX7_legs at h
    obtain ⟨c_v0, h⟩ := chk_some h
    refine ZFn.of (ls := [(0, .ref v0), (1, .int v1), (2, .int v2), (3, .int v3)]) (by decide) (fun ξ => Nat.le_of_ble_eq_true rfl) (fun ξ => rfl) ?_
    refine V_iload_n 1 (zdk tbX7_legs_0_ok 0 rfl) rfl ?_
    refine V_iload_n 2 (zdk tbX7_legs_0_ok 1 rfl) rfl ?_
    refine V_icmp_ge (tgt := 41) (zdk tbX7_legs_0_ok 2 rfl) (by decide) (fun c1 => ?_) (fun c1 => ?_)
    · replace h := ite_t h c1
      refine V_aload_n 0 (zdk tbX7_legs_0_ok 24 rfl) rfl ?_
      refine V_aload_n 0 (zdk tbX7_legs_0_ok 25 rfl) rfl ?_
      obtain ⟨r2, q3, h⟩ := bd1_some h
      obtain ⟨q3, c_r2⟩ := zRc_some q3
      refine V_getR (zdk tbX7_legs_0_ok 26 rfl) c_v0 fF7_84 rfl q3 ?_
      refine V_iconst (v := 0) (zdk tbX7_legs_0_ok 27 rfl) rfl ?_
      obtain ⟨μ5, q4, h⟩ := bd1_some h
      refine V_callV (R1 := (rmd 2)) (As := [.ref r2, .int (0 : Int32)]) (r := none) (zdk tbX7_legs_0_ok 28 rfl) sC7_182 (tX7_all q4) (c_v0) rfl rfl rfl (by simp only [rmd, mX7_legs, mX7_all]; omega) (Nat.le_of_ble_eq_true rfl) ⟨rfl, rfl⟩ id ?_
      refine V_iconst (v := 1) (zdk tbX7_legs_0_ok 29 rfl) rfl ?_
      refine V_istore (ls' := [(0, .ref v0), (2, .int v2), (3, .int v3), (4, .int (1 : Int32))]) [1, 3, 4, 0] (zdk tbX7_legs_0_ok 30 rfl) (Nat.le_of_ble_eq_true rfl) rfl ?_
      refine V_iconst (v := 0) (zdk tbX7_legs_0_ok 31 rfl) rfl ?_
      refine V_istore (ls' := [(0, .ref v0), (2, .int v2), (3, .int v3), (4, .int (1 : Int32)), (5, .int (0 : Int32))]) [1, 2, 3, 4, 0] (zdk tbX7_legs_0_ok 32 rfl) (Nat.le_of_ble_eq_true rfl) rfl ?_
      exact tX7_legs_b56 (fun v0 v1 v2 v3 μ y h => ih v0 v1 v2 v3 μ y h) FU v0 v2 v3 (1 : Int32) (0 : Int32) μ5 c_v0 h
    · replace h := ite_f h c1
      refine V_iconst (v := 0) (zdk tbX7_legs_0_ok 3 rfl) rfl ?_
      refine V_istore (ls' := [(0, .ref v0), (1, .int v1), (2, .int v2), (3, .int v3), (4, .int (0 : Int32))]) [1, 2, 3, 4, 0] (zdk tbX7_legs_0_ok 4 rfl) (Nat.le_of_ble_eq_true rfl) rfl ?_
      exact tX7_legs_b8 (fun v0 v1 v2 v3 μ y h => ih v0 v1 v2 v3 μ y h) FU v0 v1 v2 v3 (0 : Int32) μ c_v0 h

-- WhoComplainsCarriesModel.relay
def tbX7_relay_0 : List (Nat × Instr × Nat) := [(0, .aload_n 0, 1), (1, .iload_n 1, 1), (2, .iconst 1, 1), (3, .iconst 4, 1), (4, .invokevirtual 122, 3), (7, .ifCond .eq 22, 3), (10, .aload_n 0, 1), (11, .iload_n 3, 1), (12, .iconst (-1), 1), (13, .iload_n 1, 1), (14, .iconst 1, 1), (15, .isub, 1), (16, .invokevirtual 122, 3), (19, .ifCond .ne 10, 3), (22, .aload_n 0, 1), (23, .bipush (-5), 2), (25, .invokevirtual 133, 3), (28, .ireturn, 1), (29, .aload_n 0, 1), (30, .iload_n 1, 1), (31, .iconst 1, 1), (32, .iconst 4, 1), (33, .invokevirtual 122, 3), (36, .ifCond .eq 14, 3), (39, .aload_n 0, 1), (40, .iload_n 2, 1), (41, .iconst 1, 1), (42, .bipush 20, 2), (44, .invokevirtual 122, 3), (47, .ifCond .ne 10, 3), (50, .aload_n 0, 1), (51, .bipush (-6), 2), (53, .invokevirtual 133, 3), (56, .ireturn, 1), (57, .aload_n 0, 1), (58, .iconst (-1), 1), (59, .putfield 213, 3), (62, .aload_n 0, 1), (63, .iconst 0, 1), (64, .iload_n 1, 1), (65, .iload_n 2, 1), (66, .invokevirtual 206, 3), (69, .iload_n 3, 1), (70, .iconst (-1), 1), (71, .if_icmp .eq 11, 3), (74, .aload_n 0, 1), (75, .getfield 213, 3), (78, .iconst (-1), 1), (79, .if_icmp .ne 10, 3), (82, .aload_n 0, 1)]
theorem tbX7_relay_0_ok : ∀ q ∈ tbX7_relay_0, decode cX7_relay q.1 = .ok (q.2.1, q.2.2) := by decide +kernel
def tbX7_relay_1 : List (Nat × Instr × Nat) := [(83, .getfield 213, 3), (86, .goto 9, 3), (89, .aload_n 0, 1), (90, .getfield 93, 3), (93, .iload_n 3, 1), (94, .iaload, 1), (95, .ireturn, 1)]
theorem tbX7_relay_1_ok : ∀ q ∈ tbX7_relay_1, decode cX7_relay q.1 = .ok (q.2.1, q.2.2) := by decide +kernel
def fX7_relay_b50 (n : Nat) (v0 : Nat) (μ : ZMem) : Option (ZMem × Int32) := bd2 (fX7_noTen n v0 (-6 : Int32) μ) (fun μ2 r3 => some (μ2, r3))
theorem tX7_relay_b50 {l : Launch} {fr : Bool} {n : Nat} {z : ZMem × Int32} (v0 : Nat) (μ : ZMem) (c_v0 : isC n 7 v0 = true) (h : fX7_relay_b50 n v0 μ = some z) : V (zkI l mX7_relay (rmd 47) fr n z) fr 50 [(0, .ref v0)] [] n μ := by
  unfold fX7_relay_b50 at h
  refine V_aload_n 0 (zdk tbX7_relay_0_ok 30 rfl) rfl ?_
  refine V_bipush (v := (-6)) (zdk tbX7_relay_0_ok 31 rfl) rfl ?_
  obtain ⟨μ2, r3, q1, h⟩ := bd2_some h
  refine V_callV (R1 := (rmd 1)) (As := [.int (-6 : Int32)]) (r := (some (.int r3))) (zdk tbX7_relay_0_ok 32 rfl) sC7_133 (tX7_noTen q1) (c_v0) rfl rfl rfl ⟨Nat.le_of_ble_eq_true rfl, Nat.le_of_ble_eq_true rfl⟩ (Nat.le_of_ble_eq_true rfl) ⟨rfl, rfl⟩ id ?_
  cases h
  exact V_iret (zdk tbX7_relay_0_ok 33 rfl) rfl rfl
def fX7_relay_b95 (n : Nat) (s0 : Int32) (μ : ZMem) : Option (ZMem × Int32) := some (μ, s0)
theorem tX7_relay_b95 {l : Launch} {fr : Bool} {n : Nat} {z : ZMem × Int32} (s0 : Int32) (μ : ZMem) (h : fX7_relay_b95 n s0 μ = some z) : V (zkI l mX7_relay (rmd 47) fr n z) fr 95 [] [.int s0] n μ := by
  unfold fX7_relay_b95 at h
  cases h
  exact V_iret (zdk tbX7_relay_1_ok 6 rfl) rfl rfl
def fX7_relay_b82 (n : Nat) (v0 : Nat) (μ : ZMem) : Option (ZMem × Int32) := (fX7_relay_b95 n (zI μ v0 36) μ)
theorem tX7_relay_b82 {l : Launch} {fr : Bool} {n : Nat} {z : ZMem × Int32} (v0 : Nat) (μ : ZMem) (c_v0 : isC n 7 v0 = true) (h : fX7_relay_b82 n v0 μ = some z) : V (zkI l mX7_relay (rmd 47) fr n z) fr 82 [(0, .ref v0)] [] n μ := by
  unfold fX7_relay_b82 at h
  refine V_aload_n 0 (zdk tbX7_relay_0_ok 49 rfl) rfl ?_
  refine V_getI (zdk tbX7_relay_1_ok 0 rfl) c_v0 fF7_213 rfl ?_
  refine V_goto (tgt := 95) (zdk tbX7_relay_1_ok 1 rfl) (by decide) ?_
  refine V_sub (ls' := []) [] rfl ?_
  exact tX7_relay_b95 (zI μ v0 36) μ  h
def fX7_relay_b29 (n : Nat) (v0 : Nat) (v1 : Int32) (v2 : Int32) (v3 : Int32) (μ : ZMem) : Option (ZMem × Int32) := bd2 (fX7_isFrom n v0 v1 (1 : Int32) (4 : Int32) μ) (fun μ2 r3 => (if r3 = 0 then (fX7_relay_b50 n v0 μ2) else bd2 (fX7_isFrom n v0 v2 (1 : Int32) (20 : Int32) μ2) (fun μ6 r7 => (if r7 = 0 then (fX7_relay_b50 n v0 μ6) else lt (zpI μ6 v0 36 (-1 : Int32)) (fun μ9 => bd1 (fX7_legs n FD v0 (0 : Int32) v1 v2 μ9) (fun μ12 => (if v3 = (-1 : Int32) then (fX7_relay_b82 n v0 μ12) else (if (zI μ12 v0 36) = (-1 : Int32) then (fX7_relay_b82 n v0 μ12) else bd1 (zRc n 100 μ12 v0 35) (fun r15 => chk (inb v3 r15) ((fX7_relay_b95 n (zI μ12 r15 v3.toNatClampNeg) μ12)))))))))))
theorem tX7_relay_b29 {l : Launch} {fr : Bool} {n : Nat} {z : ZMem × Int32} (v0 : Nat) (v1 : Int32) (v2 : Int32) (v3 : Int32) (μ : ZMem) (c_v0 : isC n 7 v0 = true) (h : fX7_relay_b29 n v0 v1 v2 v3 μ = some z) : V (zkI l mX7_relay (rmd 47) fr n z) fr 29 [(0, .ref v0), (1, .int v1), (2, .int v2), (3, .int v3)] [] n μ := by
  unfold fX7_relay_b29 at h
  refine V_aload_n 0 (zdk tbX7_relay_0_ok 18 rfl) rfl ?_
  refine V_iload_n 1 (zdk tbX7_relay_0_ok 19 rfl) rfl ?_
  refine V_iconst (v := 1) (zdk tbX7_relay_0_ok 20 rfl) rfl ?_
  refine V_iconst (v := 4) (zdk tbX7_relay_0_ok 21 rfl) rfl ?_
  obtain ⟨μ2, r3, q1, h⟩ := bd2_some h
  refine V_callV (R1 := (rmd 1)) (As := [.int v1, .int (1 : Int32), .int (4 : Int32)]) (r := (some (.int r3))) (zdk tbX7_relay_0_ok 22 rfl) sC7_122 (tX7_isFrom q1) (c_v0) rfl rfl rfl ⟨Nat.le_of_ble_eq_true rfl, Nat.le_of_ble_eq_true rfl⟩ (Nat.le_of_ble_eq_true rfl) ⟨rfl, rfl⟩ id ?_
  refine V_if_eq (tgt := 50) (zdk tbX7_relay_0_ok 23 rfl) (by decide) (fun c4 => ?_) (fun c4 => ?_)
  · replace h := ite_t h c4
    refine V_sub (ls' := [(0, .ref v0)]) [0] rfl ?_
    exact tX7_relay_b50 v0 μ2 c_v0 h
  · replace h := ite_f h c4
    refine V_aload_n 0 (zdk tbX7_relay_0_ok 24 rfl) rfl ?_
    refine V_iload_n 2 (zdk tbX7_relay_0_ok 25 rfl) rfl ?_
    refine V_iconst (v := 1) (zdk tbX7_relay_0_ok 26 rfl) rfl ?_
    refine V_bipush (v := 20) (zdk tbX7_relay_0_ok 27 rfl) rfl ?_
    obtain ⟨μ6, r7, q5, h⟩ := bd2_some h
    refine V_callV (R1 := (rmd 1)) (As := [.int v2, .int (1 : Int32), .int (20 : Int32)]) (r := (some (.int r7))) (zdk tbX7_relay_0_ok 28 rfl) sC7_122 (tX7_isFrom q5) (c_v0) rfl rfl rfl ⟨Nat.le_of_ble_eq_true rfl, Nat.le_of_ble_eq_true rfl⟩ (Nat.le_of_ble_eq_true rfl) ⟨rfl, rfl⟩ id ?_
    refine V_if_ne (tgt := 57) (zdk tbX7_relay_0_ok 29 rfl) (by decide) (fun c8 => ?_) (fun c8 => ?_)
    · replace h := ite_f h c8
      refine V_aload_n 0 (zdk tbX7_relay_0_ok 34 rfl) rfl ?_
      refine V_iconst (v := (-1)) (zdk tbX7_relay_0_ok 35 rfl) rfl ?_
      obtain ⟨μ9, e10, h⟩ := lt_some h
      refine V_putI (zdk tbX7_relay_0_ok 36 rfl) c_v0 fF7_213 rfl rfl rfl e10 ?_
      refine V_aload_n 0 (zdk tbX7_relay_0_ok 37 rfl) rfl ?_
      refine V_iconst (v := 0) (zdk tbX7_relay_0_ok 38 rfl) rfl ?_
      refine V_iload_n 1 (zdk tbX7_relay_0_ok 39 rfl) rfl ?_
      refine V_iload_n 2 (zdk tbX7_relay_0_ok 40 rfl) rfl ?_
      obtain ⟨μ12, q11, h⟩ := bd1_some h
      refine V_callV (R1 := (rmd (5 + FD))) (As := [.int (0 : Int32), .int v1, .int v2]) (r := none) (zdk tbX7_relay_0_ok 41 rfl) sC7_206 (tX7_legs FD v0 (0 : Int32) v1 v2 μ9 _ q11) (c_v0) rfl rfl rfl ⟨Nat.le_of_ble_eq_true rfl, Nat.le_of_ble_eq_true rfl⟩ (Nat.le_of_ble_eq_true rfl) ⟨rfl, rfl⟩ id ?_
      refine V_iload_n 3 (zdk tbX7_relay_0_ok 42 rfl) rfl ?_
      refine V_iconst (v := (-1)) (zdk tbX7_relay_0_ok 43 rfl) rfl ?_
      refine V_icmp_eq (tgt := 82) (zdk tbX7_relay_0_ok 44 rfl) (by decide) (fun c13 => ?_) (fun c13 => ?_)
      · replace h := ite_t h c13
        refine V_sub (ls' := [(0, .ref v0)]) [0] rfl ?_
        exact tX7_relay_b82 v0 μ12 c_v0 h
      · replace h := ite_f h c13
        refine V_aload_n 0 (zdk tbX7_relay_0_ok 45 rfl) rfl ?_
        refine V_getI (zdk tbX7_relay_0_ok 46 rfl) c_v0 fF7_213 rfl ?_
        refine V_iconst (v := (-1)) (zdk tbX7_relay_0_ok 47 rfl) rfl ?_
        refine V_icmp_ne (tgt := 89) (zdk tbX7_relay_0_ok 48 rfl) (by decide) (fun c14 => ?_) (fun c14 => ?_)
        · replace h := ite_f h c14
          refine V_aload_n 0 (zdk tbX7_relay_1_ok 2 rfl) rfl ?_
          obtain ⟨r15, q16, h⟩ := bd1_some h
          obtain ⟨q16, c_r15⟩ := zRc_some q16
          refine V_getR (zdk tbX7_relay_1_ok 3 rfl) c_v0 fF7_93 rfl q16 ?_
          refine V_iload_n 3 (zdk tbX7_relay_1_ok 4 rfl) rfl ?_
          obtain ⟨b17, h⟩ := chk_some h
          refine V_iald (zdk tbX7_relay_1_ok 5 rfl) c_r15 b17 ?_
          refine V_sub (ls' := []) [] rfl ?_
          exact tX7_relay_b95 (zI μ12 r15 v3.toNatClampNeg) μ12  h
        · replace h := ite_t h c14
          refine V_sub (ls' := [(0, .ref v0)]) [0] rfl ?_
          exact tX7_relay_b82 v0 μ12 c_v0 h
    · replace h := ite_t h c8
      refine V_sub (ls' := [(0, .ref v0)]) [0] rfl ?_
      exact tX7_relay_b50 v0 μ6 c_v0 h
def fX7_relay (n : Nat) (v0 : Nat) (v1 : Int32) (v2 : Int32) (v3 : Int32) (μ : ZMem) : Option (ZMem × Int32) := chk (isC n 7 v0) (bd2 (fX7_isFrom n v0 v1 (1 : Int32) (4 : Int32) μ) (fun μ2 r3 => (if r3 = 0 then (fX7_relay_b29 n v0 v1 v2 v3 μ2) else bd2 (fX7_isFrom n v0 v3 (-1 : Int32) (v1 - (1 : Int32)) μ2) (fun μ6 r7 => (if r7 = 0 then bd2 (fX7_noTen n v0 (-5 : Int32) μ6) (fun μ10 r11 => some (μ10, r11)) else (fX7_relay_b29 n v0 v1 v2 v3 μ6))))))
theorem tX7_relay {l : Launch} {fr : Bool} {n : Nat} {v0 : Nat} {v1 : Int32} {v2 : Int32} {v3 : Int32} {μ : ZMem} {z : ZMem × Int32} (h : fX7_relay n v0 v1 v2 v3 μ = some z) : ZFn l mX7_relay (rmd 47) [.ref v0, .int v1, .int v2, .int v3] fr n μ (fr, n, z.1, some (.int z.2)) := by
  unfold fX7_relay at h
  obtain ⟨c_v0, h⟩ := chk_some h
  refine ZFn.of (ls := [(0, .ref v0), (1, .int v1), (2, .int v2), (3, .int v3)]) (by decide) (fun ξ => Nat.le_of_ble_eq_true rfl) (fun ξ => rfl) ?_
  refine V_aload_n 0 (zdk tbX7_relay_0_ok 0 rfl) rfl ?_
  refine V_iload_n 1 (zdk tbX7_relay_0_ok 1 rfl) rfl ?_
  refine V_iconst (v := 1) (zdk tbX7_relay_0_ok 2 rfl) rfl ?_
  refine V_iconst (v := 4) (zdk tbX7_relay_0_ok 3 rfl) rfl ?_
  obtain ⟨μ2, r3, q1, h⟩ := bd2_some h
  refine V_callV (R1 := (rmd 1)) (As := [.int v1, .int (1 : Int32), .int (4 : Int32)]) (r := (some (.int r3))) (zdk tbX7_relay_0_ok 4 rfl) sC7_122 (tX7_isFrom q1) (c_v0) rfl rfl rfl ⟨Nat.le_of_ble_eq_true rfl, Nat.le_of_ble_eq_true rfl⟩ (Nat.le_of_ble_eq_true rfl) ⟨rfl, rfl⟩ id ?_
  refine V_if_eq (tgt := 29) (zdk tbX7_relay_0_ok 5 rfl) (by decide) (fun c4 => ?_) (fun c4 => ?_)
  · replace h := ite_t h c4
    exact tX7_relay_b29 v0 v1 v2 v3 μ2 c_v0 h
  · replace h := ite_f h c4
    refine V_aload_n 0 (zdk tbX7_relay_0_ok 6 rfl) rfl ?_
    refine V_iload_n 3 (zdk tbX7_relay_0_ok 7 rfl) rfl ?_
    refine V_iconst (v := (-1)) (zdk tbX7_relay_0_ok 8 rfl) rfl ?_
    refine V_iload_n 1 (zdk tbX7_relay_0_ok 9 rfl) rfl ?_
    refine V_iconst (v := 1) (zdk tbX7_relay_0_ok 10 rfl) rfl ?_
    refine V_isub (zdk tbX7_relay_0_ok 11 rfl) ?_
    obtain ⟨μ6, r7, q5, h⟩ := bd2_some h
    refine V_callV (R1 := (rmd 1)) (As := [.int v3, .int (-1 : Int32), .int (v1 - (1 : Int32))]) (r := (some (.int r7))) (zdk tbX7_relay_0_ok 12 rfl) sC7_122 (tX7_isFrom q5) (c_v0) rfl rfl rfl ⟨Nat.le_of_ble_eq_true rfl, Nat.le_of_ble_eq_true rfl⟩ (Nat.le_of_ble_eq_true rfl) ⟨rfl, rfl⟩ id ?_
    refine V_if_ne (tgt := 29) (zdk tbX7_relay_0_ok 13 rfl) (by decide) (fun c8 => ?_) (fun c8 => ?_)
    · replace h := ite_f h c8
      exact tX7_relay_b29 v0 v1 v2 v3 μ6 c_v0 h
    · replace h := ite_t h c8
      refine V_aload_n 0 (zdk tbX7_relay_0_ok 14 rfl) rfl ?_
      refine V_bipush (v := (-5)) (zdk tbX7_relay_0_ok 15 rfl) rfl ?_
      obtain ⟨μ10, r11, q9, h⟩ := bd2_some h
      refine V_callV (R1 := (rmd 1)) (As := [.int (-5 : Int32)]) (r := (some (.int r11))) (zdk tbX7_relay_0_ok 16 rfl) sC7_133 (tX7_noTen q9) (c_v0) rfl rfl rfl ⟨Nat.le_of_ble_eq_true rfl, Nat.le_of_ble_eq_true rfl⟩ (Nat.le_of_ble_eq_true rfl) ⟨rfl, rfl⟩ id ?_
      cases h
      exact V_iret (zdk tbX7_relay_0_ok 17 rfl) rfl rfl

-- WhoComplainsCarriesModel.barsOfCases
def tbX7_barsOfCases_0 : List (Nat × Instr × Nat) := [(0, .aload_n 0, 1), (1, .iload_n 1, 1), (2, .invokevirtual 179, 3), (5, .istore 4, 2), (7, .iload 4, 2), (9, .ifCond .ne 47, 3), (12, .iload_n 2, 1), (13, .ifCond .ge 8, 3), (16, .bipush (-4), 2), (18, .goto 36, 3), (21, .iload_n 2, 1), (22, .aload_n 0, 1), (23, .getfield 53, 3), (26, .iload_n 1, 1), (27, .iaload, 1), (28, .iconst 2, 1), (29, .idiv, 1), (30, .if_icmp .gt 7, 3), (33, .iload_n 3, 1), (34, .ifCond .ne 8, 3), (37, .bipush (-5), 2), (39, .goto 15, 3), (42, .iload_n 2, 1), (43, .bipush 40, 2), (45, .if_icmp .le 8, 3), (48, .bipush (-6), 2), (50, .goto 4, 3), (53, .iconst 0, 1), (54, .istore 4, 2), (56, .iconst 0, 1), (57, .istore 5, 2), (59, .iload 5, 2), (61, .iload_n 2, 1), (62, .if_icmp .ge 56, 3), (65, .iload 4, 2), (67, .ifCond .ne 51, 3), (70, .aload_n 0, 1), (71, .aload_n 0, 1), (72, .iload_n 1, 1), (73, .iconst 2, 1), (74, .iload 5, 2), (76, .imul, 1), (77, .invokevirtual 216, 3), (80, .iconst 0, 1), (81, .iconst 4, 1), (82, .invokevirtual 122, 3), (85, .ifCond .eq 23, 3), (88, .aload_n 0, 1), (89, .aload_n 0, 1), (90, .iload_n 1, 1)]
theorem tbX7_barsOfCases_0_ok : ∀ q ∈ tbX7_barsOfCases_0, decode cX7_barsOfCases q.1 = .ok (q.2.1, q.2.2) := by decide +kernel
def tbX7_barsOfCases_1 : List (Nat × Instr × Nat) := [(91, .iconst 2, 1), (92, .iload 5, 2), (94, .imul, 1), (95, .iconst 1, 1), (96, .iadd, 1), (97, .invokevirtual 216, 3), (100, .iconst 0, 1), (101, .iconst 1, 1), (102, .invokevirtual 122, 3), (105, .ifCond .ne 7, 3), (108, .bipush (-6), 2), (110, .istore 4, 2), (112, .iinc 5 1, 3), (115, .goto (-56), 3), (118, .iload 4, 2), (120, .ireturn, 1)]
theorem tbX7_barsOfCases_1_ok : ∀ q ∈ tbX7_barsOfCases_1, decode cX7_barsOfCases q.1 = .ok (q.2.1, q.2.2) := by decide +kernel
theorem wCX7_intAt : zCW mX7_intAt 2 := ⟨zin (i := 8) (by decide +kernel) rfl, zin (i := 1143) (by decide +kernel) rfl, by decide +kernel, by decide +kernel, by decide +kernel⟩
theorem sC7_216 : zCV RX7 216 mX7_intAt 2 := ⟨zin (i := 1140) (by decide +kernel) rfl, zin (i := 1142) (by decide +kernel) rfl, zinP (i := 56) (q := (yX7_intAt, 42)) (by decide +kernel) rfl, wCX7_intAt⟩
def fX7_barsOfCases_b112 (g59 : Nat → Int32 → Int32 → Int32 → Int32 → ZMem → Option (ZMem × Int32)) (n : Nat) (v0 : Nat) (v1 : Int32) (v2 : Int32) (v4 : Int32) (v5 : Int32) (μ : ZMem) : Option (ZMem × Int32) := (g59 v0 v1 v2 v4 (v5 + (1 : Int32)) μ)
theorem tX7_barsOfCases_b112 {l : Launch} {fr : Bool} {n : Nat} {z : ZMem × Int32} {g59 : Nat → Int32 → Int32 → Int32 → Int32 → ZMem → Option (ZMem × Int32)} (hg59 : ∀ (v0 : Nat) (v1 : Int32) (v2 : Int32) (v4 : Int32) (v5 : Int32) (μ : ZMem), isC n 7 v0 = true → g59 v0 v1 v2 v4 v5 μ = some z → V (zkI l mX7_barsOfCases (rmd 3) fr n z) fr 59 [(0, .ref v0), (1, .int v1), (2, .int v2), (4, .int v4), (5, .int v5)] [] n μ) (v0 : Nat) (v1 : Int32) (v2 : Int32) (v4 : Int32) (v5 : Int32) (μ : ZMem) (c_v0 : isC n 7 v0 = true) (h : fX7_barsOfCases_b112 g59 n v0 v1 v2 v4 v5 μ = some z) : V (zkI l mX7_barsOfCases (rmd 3) fr n z) fr 112 [(0, .ref v0), (1, .int v1), (2, .int v2), (4, .int v4), (5, .int v5)] [] n μ := by
  unfold fX7_barsOfCases_b112 at h
  refine V_inc (dx := 1) (ls' := [(0, .ref v0), (1, .int v1), (2, .int v2), (4, .int v4), (5, .int (v5 + (1 : Int32)))]) 4 [1, 2, 3, 4, 0] (zdk tbX7_barsOfCases_1_ok 12 rfl) rfl (Nat.le_of_ble_eq_true rfl) rfl rfl ?_
  refine V_goto (tgt := 59) (zdk tbX7_barsOfCases_1_ok 13 rfl) (by decide) ?_
  exact hg59 v0 v1 v2 v4 (v5 + (1 : Int32)) μ c_v0 h
def fX7_barsOfCases_b108 (g59 : Nat → Int32 → Int32 → Int32 → Int32 → ZMem → Option (ZMem × Int32)) (n : Nat) (v0 : Nat) (v1 : Int32) (v2 : Int32) (v5 : Int32) (μ : ZMem) : Option (ZMem × Int32) := (fX7_barsOfCases_b112 g59 n v0 v1 v2 (-6 : Int32) v5 μ)
theorem tX7_barsOfCases_b108 {l : Launch} {fr : Bool} {n : Nat} {z : ZMem × Int32} {g59 : Nat → Int32 → Int32 → Int32 → Int32 → ZMem → Option (ZMem × Int32)} (hg59 : ∀ (v0 : Nat) (v1 : Int32) (v2 : Int32) (v4 : Int32) (v5 : Int32) (μ : ZMem), isC n 7 v0 = true → g59 v0 v1 v2 v4 v5 μ = some z → V (zkI l mX7_barsOfCases (rmd 3) fr n z) fr 59 [(0, .ref v0), (1, .int v1), (2, .int v2), (4, .int v4), (5, .int v5)] [] n μ) (v0 : Nat) (v1 : Int32) (v2 : Int32) (v5 : Int32) (μ : ZMem) (c_v0 : isC n 7 v0 = true) (h : fX7_barsOfCases_b108 g59 n v0 v1 v2 v5 μ = some z) : V (zkI l mX7_barsOfCases (rmd 3) fr n z) fr 108 [(0, .ref v0), (1, .int v1), (2, .int v2), (5, .int v5)] [] n μ := by
  unfold fX7_barsOfCases_b108 at h
  refine V_bipush (v := (-6)) (zdk tbX7_barsOfCases_1_ok 10 rfl) rfl ?_
  refine V_istore (ls' := [(0, .ref v0), (1, .int v1), (2, .int v2), (4, .int (-6 : Int32)), (5, .int v5)]) [1, 2, 3, 0, 4] (zdk tbX7_barsOfCases_1_ok 11 rfl) (Nat.le_of_ble_eq_true rfl) rfl ?_
  exact tX7_barsOfCases_b112 hg59 v0 v1 v2 (-6 : Int32) v5 μ c_v0 h
def fX7_barsOfCases_b118 (n : Nat) (v4 : Int32) (μ : ZMem) : Option (ZMem × Int32) := some (μ, v4)
theorem tX7_barsOfCases_b118 {l : Launch} {fr : Bool} {n : Nat} {z : ZMem × Int32} (v4 : Int32) (μ : ZMem) (h : fX7_barsOfCases_b118 n v4 μ = some z) : V (zkI l mX7_barsOfCases (rmd 3) fr n z) fr 118 [(4, .int v4)] [] n μ := by
  unfold fX7_barsOfCases_b118 at h
  refine V_iload 0 (zdk tbX7_barsOfCases_1_ok 14 rfl) rfl ?_
  cases h
  exact V_iret (zdk tbX7_barsOfCases_1_ok 15 rfl) rfl rfl
def fX7_barsOfCases_b59 (n : Nat) : Nat → Nat → Int32 → Int32 → Int32 → Int32 → ZMem → Option (ZMem × Int32)
  | 0, _, _, _, _, _, _ => none
  | k + 1, v0, v1, v2, v4, v5, μ => (if v2 ≤ v5 then (fX7_barsOfCases_b118 n v4 μ) else (if v4 = 0 then bd2 (fX7_intAt n v0 v1 ((2 : Int32) * v5) μ) (fun μ4 r5 => bd2 (fX7_isFrom n v0 r5 (0 : Int32) (4 : Int32) μ4) (fun μ7 r8 => (if r8 = 0 then (fX7_barsOfCases_b108 (fX7_barsOfCases_b59 n k) n v0 v1 v2 v5 μ7) else bd2 (fX7_intAt n v0 v1 (((2 : Int32) * v5) + (1 : Int32)) μ7) (fun μ11 r12 => bd2 (fX7_isFrom n v0 r12 (0 : Int32) (1 : Int32) μ11) (fun μ14 r15 => (if r15 = 0 then (fX7_barsOfCases_b108 (fX7_barsOfCases_b59 n k) n v0 v1 v2 v5 μ14) else (fX7_barsOfCases_b112 (fX7_barsOfCases_b59 n k) n v0 v1 v2 v4 v5 μ14))))))) else (fX7_barsOfCases_b118 n v4 μ)))
theorem tX7_barsOfCases_b59 {l : Launch} {fr : Bool} {n : Nat} {z : ZMem × Int32} : ∀ (k : Nat) (v0 : Nat) (v1 : Int32) (v2 : Int32) (v4 : Int32) (v5 : Int32) (μ : ZMem) (c_v0 : isC n 7 v0 = true), fX7_barsOfCases_b59 n k v0 v1 v2 v4 v5 μ = some z → V (zkI l mX7_barsOfCases (rmd 3) fr n z) fr 59 [(0, .ref v0), (1, .int v1), (2, .int v2), (4, .int v4), (5, .int v5)] [] n μ := by
  intro k
  induction k with
  | zero =>
    intro v0 v1 v2 v4 v5 μ c_v0 h
    unfold fX7_barsOfCases_b59 at h
    cases h
  | succ k ih =>
    intro v0 v1 v2 v4 v5 μ c_v0 h
    unfold fX7_barsOfCases_b59 at h
    refine V_iload 4 (zdk tbX7_barsOfCases_0_ok 31 rfl) rfl ?_
    refine V_iload_n 2 (zdk tbX7_barsOfCases_0_ok 32 rfl) rfl ?_
    refine V_icmp_ge (tgt := 118) (zdk tbX7_barsOfCases_0_ok 33 rfl) (by decide) (fun c1 => ?_) (fun c1 => ?_)
    · replace h := ite_t h c1
      refine V_sub (ls' := [(4, .int v4)]) [3] rfl ?_
      exact tX7_barsOfCases_b118 v4 μ  h
    · replace h := ite_f h c1
      refine V_iload 3 (zdk tbX7_barsOfCases_0_ok 34 rfl) rfl ?_
      refine V_if_ne (tgt := 118) (zdk tbX7_barsOfCases_0_ok 35 rfl) (by decide) (fun c2 => ?_) (fun c2 => ?_)
      · replace h := ite_f h c2
        refine V_sub (ls' := [(4, .int v4)]) [3] rfl ?_
        exact tX7_barsOfCases_b118 v4 μ  h
      · replace h := ite_t h c2
        refine V_aload_n 0 (zdk tbX7_barsOfCases_0_ok 36 rfl) rfl ?_
        refine V_aload_n 0 (zdk tbX7_barsOfCases_0_ok 37 rfl) rfl ?_
        refine V_iload_n 1 (zdk tbX7_barsOfCases_0_ok 38 rfl) rfl ?_
        refine V_iconst (v := 2) (zdk tbX7_barsOfCases_0_ok 39 rfl) rfl ?_
        refine V_iload 4 (zdk tbX7_barsOfCases_0_ok 40 rfl) rfl ?_
        refine V_imul (zdk tbX7_barsOfCases_0_ok 41 rfl) ?_
        obtain ⟨μ4, r5, q3, h⟩ := bd2_some h
        refine V_callV (R1 := (rmd 1)) (As := [.int v1, .int ((2 : Int32) * v5)]) (r := (some (.int r5))) (zdk tbX7_barsOfCases_0_ok 42 rfl) sC7_216 (tX7_intAt q3) (c_v0) rfl rfl rfl ⟨Nat.le_of_ble_eq_true rfl, Nat.le_of_ble_eq_true rfl⟩ (Nat.le_of_ble_eq_true rfl) ⟨rfl, rfl⟩ id ?_
        refine V_iconst (v := 0) (zdk tbX7_barsOfCases_0_ok 43 rfl) rfl ?_
        refine V_iconst (v := 4) (zdk tbX7_barsOfCases_0_ok 44 rfl) rfl ?_
        obtain ⟨μ7, r8, q6, h⟩ := bd2_some h
        refine V_callV (R1 := (rmd 1)) (As := [.int r5, .int (0 : Int32), .int (4 : Int32)]) (r := (some (.int r8))) (zdk tbX7_barsOfCases_0_ok 45 rfl) sC7_122 (tX7_isFrom q6) (c_v0) rfl rfl rfl ⟨Nat.le_of_ble_eq_true rfl, Nat.le_of_ble_eq_true rfl⟩ (Nat.le_of_ble_eq_true rfl) ⟨rfl, rfl⟩ id ?_
        refine V_if_eq (tgt := 108) (zdk tbX7_barsOfCases_0_ok 46 rfl) (by decide) (fun c9 => ?_) (fun c9 => ?_)
        · replace h := ite_t h c9
          refine V_sub (ls' := [(0, .ref v0), (1, .int v1), (2, .int v2), (5, .int v5)]) [0, 1, 2, 4] rfl ?_
          exact tX7_barsOfCases_b108 (fun v0 v1 v2 v4 v5 μ y0 h => ih v0 v1 v2 v4 v5 μ y0 h) v0 v1 v2 v5 μ7 c_v0 h
        · replace h := ite_f h c9
          refine V_aload_n 0 (zdk tbX7_barsOfCases_0_ok 47 rfl) rfl ?_
          refine V_aload_n 0 (zdk tbX7_barsOfCases_0_ok 48 rfl) rfl ?_
          refine V_iload_n 1 (zdk tbX7_barsOfCases_0_ok 49 rfl) rfl ?_
          refine V_iconst (v := 2) (zdk tbX7_barsOfCases_1_ok 0 rfl) rfl ?_
          refine V_iload 4 (zdk tbX7_barsOfCases_1_ok 1 rfl) rfl ?_
          refine V_imul (zdk tbX7_barsOfCases_1_ok 2 rfl) ?_
          refine V_iconst (v := 1) (zdk tbX7_barsOfCases_1_ok 3 rfl) rfl ?_
          refine V_iadd (zdk tbX7_barsOfCases_1_ok 4 rfl) ?_
          obtain ⟨μ11, r12, q10, h⟩ := bd2_some h
          refine V_callV (R1 := (rmd 1)) (As := [.int v1, .int (((2 : Int32) * v5) + (1 : Int32))]) (r := (some (.int r12))) (zdk tbX7_barsOfCases_1_ok 5 rfl) sC7_216 (tX7_intAt q10) (c_v0) rfl rfl rfl ⟨Nat.le_of_ble_eq_true rfl, Nat.le_of_ble_eq_true rfl⟩ (Nat.le_of_ble_eq_true rfl) ⟨rfl, rfl⟩ id ?_
          refine V_iconst (v := 0) (zdk tbX7_barsOfCases_1_ok 6 rfl) rfl ?_
          refine V_iconst (v := 1) (zdk tbX7_barsOfCases_1_ok 7 rfl) rfl ?_
          obtain ⟨μ14, r15, q13, h⟩ := bd2_some h
          refine V_callV (R1 := (rmd 1)) (As := [.int r12, .int (0 : Int32), .int (1 : Int32)]) (r := (some (.int r15))) (zdk tbX7_barsOfCases_1_ok 8 rfl) sC7_122 (tX7_isFrom q13) (c_v0) rfl rfl rfl ⟨Nat.le_of_ble_eq_true rfl, Nat.le_of_ble_eq_true rfl⟩ (Nat.le_of_ble_eq_true rfl) ⟨rfl, rfl⟩ id ?_
          refine V_if_ne (tgt := 112) (zdk tbX7_barsOfCases_1_ok 9 rfl) (by decide) (fun c16 => ?_) (fun c16 => ?_)
          · replace h := ite_f h c16
            exact tX7_barsOfCases_b112 (fun v0 v1 v2 v4 v5 μ y0 h => ih v0 v1 v2 v4 v5 μ y0 h) v0 v1 v2 v4 v5 μ14 c_v0 h
          · replace h := ite_t h c16
            refine V_sub (ls' := [(0, .ref v0), (1, .int v1), (2, .int v2), (5, .int v5)]) [0, 1, 2, 4] rfl ?_
            exact tX7_barsOfCases_b108 (fun v0 v1 v2 v4 v5 μ y0 h => ih v0 v1 v2 v4 v5 μ y0 h) v0 v1 v2 v5 μ14 c_v0 h
def fX7_barsOfCases_b56 (n : Nat) (v0 : Nat) (v1 : Int32) (v2 : Int32) (v4 : Int32) (μ : ZMem) : Option (ZMem × Int32) := (fX7_barsOfCases_b59 n FU v0 v1 v2 v4 (0 : Int32) μ)
theorem tX7_barsOfCases_b56 {l : Launch} {fr : Bool} {n : Nat} {z : ZMem × Int32} (v0 : Nat) (v1 : Int32) (v2 : Int32) (v4 : Int32) (μ : ZMem) (c_v0 : isC n 7 v0 = true) (h : fX7_barsOfCases_b56 n v0 v1 v2 v4 μ = some z) : V (zkI l mX7_barsOfCases (rmd 3) fr n z) fr 56 [(0, .ref v0), (1, .int v1), (2, .int v2), (4, .int v4)] [] n μ := by
  unfold fX7_barsOfCases_b56 at h
  refine V_iconst (v := 0) (zdk tbX7_barsOfCases_0_ok 29 rfl) rfl ?_
  refine V_istore (ls' := [(0, .ref v0), (1, .int v1), (2, .int v2), (4, .int v4), (5, .int (0 : Int32))]) [1, 2, 3, 4, 0] (zdk tbX7_barsOfCases_0_ok 30 rfl) (Nat.le_of_ble_eq_true rfl) rfl ?_
  exact tX7_barsOfCases_b59 FU v0 v1 v2 v4 (0 : Int32) μ c_v0 h
def fX7_barsOfCases_b54 (n : Nat) (v0 : Nat) (v1 : Int32) (v2 : Int32) (s0 : Int32) (μ : ZMem) : Option (ZMem × Int32) := (fX7_barsOfCases_b56 n v0 v1 v2 s0 μ)
theorem tX7_barsOfCases_b54 {l : Launch} {fr : Bool} {n : Nat} {z : ZMem × Int32} (v0 : Nat) (v1 : Int32) (v2 : Int32) (s0 : Int32) (μ : ZMem) (c_v0 : isC n 7 v0 = true) (h : fX7_barsOfCases_b54 n v0 v1 v2 s0 μ = some z) : V (zkI l mX7_barsOfCases (rmd 3) fr n z) fr 54 [(0, .ref v0), (1, .int v1), (2, .int v2)] [.int s0] n μ := by
  unfold fX7_barsOfCases_b54 at h
  refine V_istore (ls' := [(0, .ref v0), (1, .int v1), (2, .int v2), (4, .int s0)]) [1, 2, 3, 0] (zdk tbX7_barsOfCases_0_ok 28 rfl) (Nat.le_of_ble_eq_true rfl) rfl ?_
  exact tX7_barsOfCases_b56 v0 v1 v2 s0 μ c_v0 h
def fX7_barsOfCases_b37 (n : Nat) (v0 : Nat) (v1 : Int32) (v2 : Int32) (μ : ZMem) : Option (ZMem × Int32) := (fX7_barsOfCases_b54 n v0 v1 v2 (-5 : Int32) μ)
theorem tX7_barsOfCases_b37 {l : Launch} {fr : Bool} {n : Nat} {z : ZMem × Int32} (v0 : Nat) (v1 : Int32) (v2 : Int32) (μ : ZMem) (c_v0 : isC n 7 v0 = true) (h : fX7_barsOfCases_b37 n v0 v1 v2 μ = some z) : V (zkI l mX7_barsOfCases (rmd 3) fr n z) fr 37 [(0, .ref v0), (1, .int v1), (2, .int v2)] [] n μ := by
  unfold fX7_barsOfCases_b37 at h
  refine V_bipush (v := (-5)) (zdk tbX7_barsOfCases_0_ok 20 rfl) rfl ?_
  refine V_goto (tgt := 54) (zdk tbX7_barsOfCases_0_ok 21 rfl) (by decide) ?_
  exact tX7_barsOfCases_b54 v0 v1 v2 (-5 : Int32) μ c_v0 h
def fX7_barsOfCases (n : Nat) (v0 : Nat) (v1 : Int32) (v2 : Int32) (v3 : Int32) (μ : ZMem) : Option (ZMem × Int32) := chk (isC n 7 v0) (bd2 (fX7_wanted n v0 v1 μ) (fun μ2 r3 => (if r3 = 0 then (if 0 ≤ v2 then bd1 (zRc n 100 μ2 v0 17) (fun r6 => chk (inb v1 r6) ((if ((zI μ2 r6 v1.toNatClampNeg) / (2 : Int32)) < v2 then (fX7_barsOfCases_b37 n v0 v1 v2 μ2) else (if v3 = 0 then (fX7_barsOfCases_b37 n v0 v1 v2 μ2) else (if v2 ≤ (40 : Int32) then (fX7_barsOfCases_b54 n v0 v1 v2 (0 : Int32) μ2) else (fX7_barsOfCases_b54 n v0 v1 v2 (-6 : Int32) μ2)))))) else (fX7_barsOfCases_b54 n v0 v1 v2 (-4 : Int32) μ2)) else (fX7_barsOfCases_b56 n v0 v1 v2 r3 μ2))))
theorem tX7_barsOfCases {l : Launch} {fr : Bool} {n : Nat} {v0 : Nat} {v1 : Int32} {v2 : Int32} {v3 : Int32} {μ : ZMem} {z : ZMem × Int32} (h : fX7_barsOfCases n v0 v1 v2 v3 μ = some z) : ZFn l mX7_barsOfCases (rmd 3) [.ref v0, .int v1, .int v2, .int v3] fr n μ (fr, n, z.1, some (.int z.2)) := by
  unfold fX7_barsOfCases at h
  obtain ⟨c_v0, h⟩ := chk_some h
  refine ZFn.of (ls := [(0, .ref v0), (1, .int v1), (2, .int v2), (3, .int v3)]) (by decide) (fun ξ => Nat.le_of_ble_eq_true rfl) (fun ξ => rfl) ?_
  refine V_aload_n 0 (zdk tbX7_barsOfCases_0_ok 0 rfl) rfl ?_
  refine V_iload_n 1 (zdk tbX7_barsOfCases_0_ok 1 rfl) rfl ?_
  obtain ⟨μ2, r3, q1, h⟩ := bd2_some h
  refine V_callV (R1 := (rmd 2)) (As := [.int v1]) (r := (some (.int r3))) (zdk tbX7_barsOfCases_0_ok 2 rfl) sC7_179 (tX7_wanted q1) (c_v0) rfl rfl rfl ⟨Nat.le_of_ble_eq_true rfl, Nat.le_of_ble_eq_true rfl⟩ (Nat.le_of_ble_eq_true rfl) ⟨rfl, rfl⟩ id ?_
  refine V_istore (ls' := [(0, .ref v0), (1, .int v1), (2, .int v2), (3, .int v3), (4, .int r3)]) [1, 2, 3, 4, 0] (zdk tbX7_barsOfCases_0_ok 3 rfl) (Nat.le_of_ble_eq_true rfl) rfl ?_
  refine V_iload 4 (zdk tbX7_barsOfCases_0_ok 4 rfl) rfl ?_
  refine V_if_ne (tgt := 56) (zdk tbX7_barsOfCases_0_ok 5 rfl) (by decide) (fun c4 => ?_) (fun c4 => ?_)
  · replace h := ite_f h c4
    refine V_sub (ls' := [(0, .ref v0), (1, .int v1), (2, .int v2), (4, .int r3)]) [0, 1, 2, 4] rfl ?_
    exact tX7_barsOfCases_b56 v0 v1 v2 r3 μ2 c_v0 h
  · replace h := ite_t h c4
    refine V_iload_n 2 (zdk tbX7_barsOfCases_0_ok 6 rfl) rfl ?_
    refine V_if_ge (tgt := 21) (zdk tbX7_barsOfCases_0_ok 7 rfl) (by decide) (fun c5 => ?_) (fun c5 => ?_)
    · replace h := ite_t h c5
      refine V_iload_n 2 (zdk tbX7_barsOfCases_0_ok 10 rfl) rfl ?_
      refine V_aload_n 0 (zdk tbX7_barsOfCases_0_ok 11 rfl) rfl ?_
      obtain ⟨r6, q7, h⟩ := bd1_some h
      obtain ⟨q7, c_r6⟩ := zRc_some q7
      refine V_getR (zdk tbX7_barsOfCases_0_ok 12 rfl) c_v0 fF7_53 rfl q7 ?_
      refine V_iload_n 1 (zdk tbX7_barsOfCases_0_ok 13 rfl) rfl ?_
      obtain ⟨b8, h⟩ := chk_some h
      refine V_iald (zdk tbX7_barsOfCases_0_ok 14 rfl) c_r6 b8 ?_
      refine V_iconst (v := 2) (zdk tbX7_barsOfCases_0_ok 15 rfl) rfl ?_
      refine V_idiv (zdk tbX7_barsOfCases_0_ok 16 rfl) (by decide) ?_
      refine V_icmp_gt (tgt := 37) (zdk tbX7_barsOfCases_0_ok 17 rfl) (by decide) (fun c10 => ?_) (fun c10 => ?_)
      · replace h := ite_t h c10
        refine V_sub (ls' := [(0, .ref v0), (1, .int v1), (2, .int v2)]) [0, 1, 2] rfl ?_
        exact tX7_barsOfCases_b37 v0 v1 v2 μ2 c_v0 h
      · replace h := ite_f h c10
        refine V_iload_n 3 (zdk tbX7_barsOfCases_0_ok 18 rfl) rfl ?_
        refine V_if_ne (tgt := 42) (zdk tbX7_barsOfCases_0_ok 19 rfl) (by decide) (fun c11 => ?_) (fun c11 => ?_)
        · replace h := ite_f h c11
          refine V_iload_n 2 (zdk tbX7_barsOfCases_0_ok 22 rfl) rfl ?_
          refine V_bipush (v := 40) (zdk tbX7_barsOfCases_0_ok 23 rfl) rfl ?_
          refine V_icmp_le (tgt := 53) (zdk tbX7_barsOfCases_0_ok 24 rfl) (by decide) (fun c12 => ?_) (fun c12 => ?_)
          · replace h := ite_t h c12
            refine V_iconst (v := 0) (zdk tbX7_barsOfCases_0_ok 27 rfl) rfl ?_
            refine V_sub (ls' := [(0, .ref v0), (1, .int v1), (2, .int v2)]) [0, 1, 2] rfl ?_
            exact tX7_barsOfCases_b54 v0 v1 v2 (0 : Int32) μ2 c_v0 h
          · replace h := ite_f h c12
            refine V_bipush (v := (-6)) (zdk tbX7_barsOfCases_0_ok 25 rfl) rfl ?_
            refine V_goto (tgt := 54) (zdk tbX7_barsOfCases_0_ok 26 rfl) (by decide) ?_
            refine V_sub (ls' := [(0, .ref v0), (1, .int v1), (2, .int v2)]) [0, 1, 2] rfl ?_
            exact tX7_barsOfCases_b54 v0 v1 v2 (-6 : Int32) μ2 c_v0 h
        · replace h := ite_t h c11
          refine V_sub (ls' := [(0, .ref v0), (1, .int v1), (2, .int v2)]) [0, 1, 2] rfl ?_
          exact tX7_barsOfCases_b37 v0 v1 v2 μ2 c_v0 h
    · replace h := ite_f h c5
      refine V_bipush (v := (-4)) (zdk tbX7_barsOfCases_0_ok 8 rfl) rfl ?_
      refine V_goto (tgt := 54) (zdk tbX7_barsOfCases_0_ok 9 rfl) (by decide) ?_
      refine V_sub (ls' := [(0, .ref v0), (1, .int v1), (2, .int v2)]) [0, 1, 2] rfl ?_
      exact tX7_barsOfCases_b54 v0 v1 v2 (-4 : Int32) μ2 c_v0 h

-- WhoComplainsCarriesModel.clashIn
def tbX7_clashIn_0 : List (Nat × Instr × Nat) := [(0, .aload_n 0, 1), (1, .iconst 0, 1), (2, .putfield 220, 3), (5, .aload_n 0, 1), (6, .iconst 0, 1), (7, .putfield 223, 3), (10, .iconst 0, 1), (11, .istore_n 3, 1), (12, .iload_n 3, 1), (13, .iload_n 2, 1), (14, .if_icmp .ge 74, 3), (17, .iconst 1, 1), (18, .aload_n 0, 1), (19, .iload_n 1, 1), (20, .iconst 2, 1), (21, .iload_n 3, 1), (22, .imul, 1), (23, .invokevirtual 216, 3), (26, .ishl, 1), (27, .istore 4, 2), (29, .aload_n 0, 1), (30, .iload_n 1, 1), (31, .iconst 2, 1), (32, .iload_n 3, 1), (33, .imul, 1), (34, .iconst 1, 1), (35, .iadd, 1), (36, .invokevirtual 216, 3), (39, .iconst 1, 1), (40, .if_icmp .ne 17, 3), (43, .aload_n 0, 1), (44, .dup, 1), (45, .getfield 220, 3), (48, .iload 4, 2), (50, .ior, 1), (51, .putfield 220, 3), (54, .goto 14, 3), (57, .aload_n 0, 1), (58, .dup, 1), (59, .getfield 223, 3), (62, .iload 4, 2), (64, .ior, 1), (65, .putfield 223, 3), (68, .aload_n 0, 1), (69, .getfield 220, 3), (72, .aload_n 0, 1), (73, .getfield 223, 3), (76, .iand, 1), (77, .ifCond .eq 5, 3), (80, .iload_n 3, 1)]
theorem tbX7_clashIn_0_ok : ∀ q ∈ tbX7_clashIn_0, decode cX7_clashIn q.1 = .ok (q.2.1, q.2.2) := by decide +kernel
def tbX7_clashIn_1 : List (Nat × Instr × Nat) := [(81, .ireturn, 1), (82, .iinc 3 1, 3), (85, .goto (-73), 3), (88, .iconst (-1), 1), (89, .ireturn, 1)]
theorem tbX7_clashIn_1_ok : ∀ q ∈ tbX7_clashIn_1, decode cX7_clashIn q.1 = .ok (q.2.1, q.2.2) := by decide +kernel
theorem fF7_220 : zF RX7 220 7 37 := ⟨_, rfl, by decide, zin (i := 854) (by decide +kernel) rfl⟩
theorem fF7_223 : zF RX7 223 7 38 := ⟨_, rfl, by decide, zin (i := 855) (by decide +kernel) rfl⟩
def fX7_clashIn_b68 (g12 : Nat → Int32 → Int32 → Int32 → ZMem → Option (ZMem × Int32)) (n : Nat) (v0 : Nat) (v1 : Int32) (v2 : Int32) (v3 : Int32) (μ : ZMem) : Option (ZMem × Int32) := (if ((zI μ v0 37) &&& (zI μ v0 38)) = 0 then (g12 v0 v1 v2 (v3 + (1 : Int32)) μ) else some (μ, v3))
theorem tX7_clashIn_b68 {l : Launch} {fr : Bool} {n : Nat} {z : ZMem × Int32} {g12 : Nat → Int32 → Int32 → Int32 → ZMem → Option (ZMem × Int32)} (hg12 : ∀ (v0 : Nat) (v1 : Int32) (v2 : Int32) (v3 : Int32) (μ : ZMem), isC n 7 v0 = true → g12 v0 v1 v2 v3 μ = some z → V (zkI l mX7_clashIn (rmd 2) fr n z) fr 12 [(0, .ref v0), (1, .int v1), (2, .int v2), (3, .int v3)] [] n μ) (v0 : Nat) (v1 : Int32) (v2 : Int32) (v3 : Int32) (μ : ZMem) (c_v0 : isC n 7 v0 = true) (h : fX7_clashIn_b68 g12 n v0 v1 v2 v3 μ = some z) : V (zkI l mX7_clashIn (rmd 2) fr n z) fr 68 [(0, .ref v0), (1, .int v1), (2, .int v2), (3, .int v3)] [] n μ := by
  unfold fX7_clashIn_b68 at h
  refine V_aload_n 0 (zdk tbX7_clashIn_0_ok 43 rfl) rfl ?_
  refine V_getI (zdk tbX7_clashIn_0_ok 44 rfl) c_v0 fF7_220 rfl ?_
  refine V_aload_n 0 (zdk tbX7_clashIn_0_ok 45 rfl) rfl ?_
  refine V_getI (zdk tbX7_clashIn_0_ok 46 rfl) c_v0 fF7_223 rfl ?_
  refine V_iand (zdk tbX7_clashIn_0_ok 47 rfl) ?_
  refine V_if_eq (tgt := 82) (zdk tbX7_clashIn_0_ok 48 rfl) (by decide) (fun c1 => ?_) (fun c1 => ?_)
  · replace h := ite_t h c1
    refine V_inc (dx := 1) (ls' := [(0, .ref v0), (1, .int v1), (2, .int v2), (3, .int (v3 + (1 : Int32)))]) 3 [1, 2, 3, 0] (zdk tbX7_clashIn_1_ok 1 rfl) rfl (Nat.le_of_ble_eq_true rfl) rfl rfl ?_
    refine V_goto (tgt := 12) (zdk tbX7_clashIn_1_ok 2 rfl) (by decide) ?_
    exact hg12 v0 v1 v2 (v3 + (1 : Int32)) μ c_v0 h
  · replace h := ite_f h c1
    refine V_iload_n 3 (zdk tbX7_clashIn_0_ok 49 rfl) rfl ?_
    cases h
    exact V_iret (zdk tbX7_clashIn_1_ok 0 rfl) rfl rfl
def fX7_clashIn_b12 (n : Nat) : Nat → Nat → Int32 → Int32 → Int32 → ZMem → Option (ZMem × Int32)
  | 0, _, _, _, _, _ => none
  | k + 1, v0, v1, v2, v3, μ => (if v2 ≤ v3 then some (μ, (-1 : Int32)) else bd2 (fX7_intAt n v0 v1 ((2 : Int32) * v3) μ) (fun μ3 r4 => bd2 (fX7_intAt n v0 v1 (((2 : Int32) * v3) + (1 : Int32)) μ3) (fun μ6 r7 => (if r7 = (1 : Int32) then lt (zpI μ6 v0 37 ((zI μ6 v0 37) ||| ((1 : Int32) <<< (r4 &&& 31)))) (fun μ11 => (fX7_clashIn_b68 (fX7_clashIn_b12 n k) n v0 v1 v2 v3 μ11)) else lt (zpI μ6 v0 38 ((zI μ6 v0 38) ||| ((1 : Int32) <<< (r4 &&& 31)))) (fun μ9 => (fX7_clashIn_b68 (fX7_clashIn_b12 n k) n v0 v1 v2 v3 μ9))))))
theorem tX7_clashIn_b12 {l : Launch} {fr : Bool} {n : Nat} {z : ZMem × Int32} : ∀ (k : Nat) (v0 : Nat) (v1 : Int32) (v2 : Int32) (v3 : Int32) (μ : ZMem) (c_v0 : isC n 7 v0 = true), fX7_clashIn_b12 n k v0 v1 v2 v3 μ = some z → V (zkI l mX7_clashIn (rmd 2) fr n z) fr 12 [(0, .ref v0), (1, .int v1), (2, .int v2), (3, .int v3)] [] n μ := by
  intro k
  induction k with
  | zero =>
    intro v0 v1 v2 v3 μ c_v0 h
    unfold fX7_clashIn_b12 at h
    cases h
  | succ k ih =>
    intro v0 v1 v2 v3 μ c_v0 h
    unfold fX7_clashIn_b12 at h
    refine V_iload_n 3 (zdk tbX7_clashIn_0_ok 8 rfl) rfl ?_
    refine V_iload_n 2 (zdk tbX7_clashIn_0_ok 9 rfl) rfl ?_
    refine V_icmp_ge (tgt := 88) (zdk tbX7_clashIn_0_ok 10 rfl) (by decide) (fun c1 => ?_) (fun c1 => ?_)
    · replace h := ite_t h c1
      refine V_iconst (v := (-1)) (zdk tbX7_clashIn_1_ok 3 rfl) rfl ?_
      cases h
      exact V_iret (zdk tbX7_clashIn_1_ok 4 rfl) rfl rfl
    · replace h := ite_f h c1
      refine V_iconst (v := 1) (zdk tbX7_clashIn_0_ok 11 rfl) rfl ?_
      refine V_aload_n 0 (zdk tbX7_clashIn_0_ok 12 rfl) rfl ?_
      refine V_iload_n 1 (zdk tbX7_clashIn_0_ok 13 rfl) rfl ?_
      refine V_iconst (v := 2) (zdk tbX7_clashIn_0_ok 14 rfl) rfl ?_
      refine V_iload_n 3 (zdk tbX7_clashIn_0_ok 15 rfl) rfl ?_
      refine V_imul (zdk tbX7_clashIn_0_ok 16 rfl) ?_
      obtain ⟨μ3, r4, q2, h⟩ := bd2_some h
      refine V_callV (R1 := (rmd 1)) (As := [.int v1, .int ((2 : Int32) * v3)]) (r := (some (.int r4))) (zdk tbX7_clashIn_0_ok 17 rfl) sC7_216 (tX7_intAt q2) (c_v0) rfl rfl rfl ⟨Nat.le_of_ble_eq_true rfl, Nat.le_of_ble_eq_true rfl⟩ (Nat.le_of_ble_eq_true rfl) ⟨rfl, rfl⟩ id ?_
      refine V_ishl (zdk tbX7_clashIn_0_ok 18 rfl) ?_
      refine V_istore (ls' := [(0, .ref v0), (1, .int v1), (2, .int v2), (3, .int v3), (4, .int ((1 : Int32) <<< (r4 &&& 31)))]) [1, 2, 3, 4, 0] (zdk tbX7_clashIn_0_ok 19 rfl) (Nat.le_of_ble_eq_true rfl) rfl ?_
      refine V_aload_n 0 (zdk tbX7_clashIn_0_ok 20 rfl) rfl ?_
      refine V_iload_n 1 (zdk tbX7_clashIn_0_ok 21 rfl) rfl ?_
      refine V_iconst (v := 2) (zdk tbX7_clashIn_0_ok 22 rfl) rfl ?_
      refine V_iload_n 3 (zdk tbX7_clashIn_0_ok 23 rfl) rfl ?_
      refine V_imul (zdk tbX7_clashIn_0_ok 24 rfl) ?_
      refine V_iconst (v := 1) (zdk tbX7_clashIn_0_ok 25 rfl) rfl ?_
      refine V_iadd (zdk tbX7_clashIn_0_ok 26 rfl) ?_
      obtain ⟨μ6, r7, q5, h⟩ := bd2_some h
      refine V_callV (R1 := (rmd 1)) (As := [.int v1, .int (((2 : Int32) * v3) + (1 : Int32))]) (r := (some (.int r7))) (zdk tbX7_clashIn_0_ok 27 rfl) sC7_216 (tX7_intAt q5) (c_v0) rfl rfl rfl ⟨Nat.le_of_ble_eq_true rfl, Nat.le_of_ble_eq_true rfl⟩ (Nat.le_of_ble_eq_true rfl) ⟨rfl, rfl⟩ id ?_
      refine V_iconst (v := 1) (zdk tbX7_clashIn_0_ok 28 rfl) rfl ?_
      refine V_icmp_ne (tgt := 57) (zdk tbX7_clashIn_0_ok 29 rfl) (by decide) (fun c8 => ?_) (fun c8 => ?_)
      · replace h := ite_f h c8
        refine V_aload_n 0 (zdk tbX7_clashIn_0_ok 37 rfl) rfl ?_
        refine V_dup_r (zdk tbX7_clashIn_0_ok 38 rfl) ?_
        refine V_getI (zdk tbX7_clashIn_0_ok 39 rfl) c_v0 fF7_223 rfl ?_
        refine V_iload 4 (zdk tbX7_clashIn_0_ok 40 rfl) rfl ?_
        refine V_ior (zdk tbX7_clashIn_0_ok 41 rfl) ?_
        obtain ⟨μ9, e10, h⟩ := lt_some h
        refine V_putI (zdk tbX7_clashIn_0_ok 42 rfl) c_v0 fF7_223 rfl rfl rfl e10 ?_
        refine V_sub (ls' := [(0, .ref v0), (1, .int v1), (2, .int v2), (3, .int v3)]) [0, 1, 2, 3] rfl ?_
        exact tX7_clashIn_b68 (fun v0 v1 v2 v3 μ y0 h => ih v0 v1 v2 v3 μ y0 h) v0 v1 v2 v3 μ9 c_v0 h
      · replace h := ite_t h c8
        refine V_aload_n 0 (zdk tbX7_clashIn_0_ok 30 rfl) rfl ?_
        refine V_dup_r (zdk tbX7_clashIn_0_ok 31 rfl) ?_
        refine V_getI (zdk tbX7_clashIn_0_ok 32 rfl) c_v0 fF7_220 rfl ?_
        refine V_iload 4 (zdk tbX7_clashIn_0_ok 33 rfl) rfl ?_
        refine V_ior (zdk tbX7_clashIn_0_ok 34 rfl) ?_
        obtain ⟨μ11, e12, h⟩ := lt_some h
        refine V_putI (zdk tbX7_clashIn_0_ok 35 rfl) c_v0 fF7_220 rfl rfl rfl e12 ?_
        refine V_goto (tgt := 68) (zdk tbX7_clashIn_0_ok 36 rfl) (by decide) ?_
        refine V_sub (ls' := [(0, .ref v0), (1, .int v1), (2, .int v2), (3, .int v3)]) [0, 1, 2, 3] rfl ?_
        exact tX7_clashIn_b68 (fun v0 v1 v2 v3 μ y0 h => ih v0 v1 v2 v3 μ y0 h) v0 v1 v2 v3 μ11 c_v0 h
def fX7_clashIn (n : Nat) (v0 : Nat) (v1 : Int32) (v2 : Int32) (μ : ZMem) : Option (ZMem × Int32) := chk (isC n 7 v0) (lt (zpI μ v0 37 (0 : Int32)) (fun μ1 => lt (zpI μ1 v0 38 (0 : Int32)) (fun μ3 => (fX7_clashIn_b12 n FU v0 v1 v2 (0 : Int32) μ3))))
theorem tX7_clashIn {l : Launch} {fr : Bool} {n : Nat} {v0 : Nat} {v1 : Int32} {v2 : Int32} {μ : ZMem} {z : ZMem × Int32} (h : fX7_clashIn n v0 v1 v2 μ = some z) : ZFn l mX7_clashIn (rmd 2) [.ref v0, .int v1, .int v2] fr n μ (fr, n, z.1, some (.int z.2)) := by
  unfold fX7_clashIn at h
  obtain ⟨c_v0, h⟩ := chk_some h
  refine ZFn.of (ls := [(0, .ref v0), (1, .int v1), (2, .int v2)]) (by decide) (fun ξ => Nat.le_of_ble_eq_true rfl) (fun ξ => rfl) ?_
  refine V_aload_n 0 (zdk tbX7_clashIn_0_ok 0 rfl) rfl ?_
  refine V_iconst (v := 0) (zdk tbX7_clashIn_0_ok 1 rfl) rfl ?_
  obtain ⟨μ1, e2, h⟩ := lt_some h
  refine V_putI (zdk tbX7_clashIn_0_ok 2 rfl) c_v0 fF7_220 rfl rfl rfl e2 ?_
  refine V_aload_n 0 (zdk tbX7_clashIn_0_ok 3 rfl) rfl ?_
  refine V_iconst (v := 0) (zdk tbX7_clashIn_0_ok 4 rfl) rfl ?_
  obtain ⟨μ3, e4, h⟩ := lt_some h
  refine V_putI (zdk tbX7_clashIn_0_ok 5 rfl) c_v0 fF7_223 rfl rfl rfl e4 ?_
  refine V_iconst (v := 0) (zdk tbX7_clashIn_0_ok 6 rfl) rfl ?_
  refine V_istore_n (ls' := [(0, .ref v0), (1, .int v1), (2, .int v2), (3, .int (0 : Int32))]) [1, 2, 3, 0] (zdk tbX7_clashIn_0_ok 7 rfl) (Nat.le_of_ble_eq_true rfl) rfl ?_
  exact tX7_clashIn_b12 FU v0 v1 v2 (0 : Int32) μ3 c_v0 h

-- WhoComplainsCarriesModel.cases
def tbX7_cases_0 : List (Nat × Instr × Nat) := [(0, .aload_n 0, 1), (1, .iload_n 1, 1), (2, .iload_n 2, 1), (3, .iload_n 3, 1), (4, .ifCond .eq 8, 3), (7, .iload_n 3, 1), (8, .iconst 1, 1), (9, .if_icmp .ne 7, 3), (12, .iconst 1, 1), (13, .goto 4, 3), (16, .iconst 0, 1), (17, .invokevirtual 226, 3), (20, .istore 4, 2), (22, .iload 4, 2), (24, .ifCond .eq 10, 3), (27, .aload_n 0, 1), (28, .iload 4, 2), (30, .invokevirtual 133, 3), (33, .ireturn, 1), (34, .aload_n 0, 1), (35, .iload_n 1, 1), (36, .iload_n 2, 1), (37, .invokevirtual 230, 3), (40, .iconst (-1), 1), (41, .if_icmp .eq 5, 3), (44, .iconst (-1), 1), (45, .ireturn, 1), (46, .iload_n 3, 1), (47, .ifCond .ne 10, 3), (50, .aload_n 0, 1), (51, .getfield 220, 3), (54, .goto 10, 3), (57, .bipush 31, 2), (59, .aload_n 0, 1), (60, .getfield 223, 3), (63, .isub, 1), (64, .ireturn, 1)]
theorem tbX7_cases_0_ok : ∀ q ∈ tbX7_cases_0, decode cX7_cases q.1 = .ok (q.2.1, q.2.2) := by decide +kernel
theorem wCX7_barsOfCases : zCW mX7_barsOfCases 3 := ⟨zin (i := 8) (by decide +kernel) rfl, zin (i := 1139) (by decide +kernel) rfl, by decide +kernel, by decide +kernel, by decide +kernel⟩
theorem sC7_226 : zCV RX7 226 mX7_barsOfCases 3 := ⟨zin (i := 1136) (by decide +kernel) rfl, zin (i := 1138) (by decide +kernel) rfl, zinP (i := 55) (q := (yX7_barsOfCases, 42)) (by decide +kernel) rfl, wCX7_barsOfCases⟩
theorem wCX7_clashIn : zCW mX7_clashIn 2 := ⟨zin (i := 8) (by decide +kernel) rfl, zin (i := 1147) (by decide +kernel) rfl, by decide +kernel, by decide +kernel, by decide +kernel⟩
theorem sC7_230 : zCV RX7 230 mX7_clashIn 2 := ⟨zin (i := 1144) (by decide +kernel) rfl, zin (i := 1146) (by decide +kernel) rfl, zinP (i := 57) (q := (yX7_clashIn, 42)) (by decide +kernel) rfl, wCX7_clashIn⟩
def fX7_cases_b64 (n : Nat) (s0 : Int32) (μ : ZMem) : Option (ZMem × Int32) := some (μ, s0)
theorem tX7_cases_b64 {l : Launch} {fr : Bool} {n : Nat} {z : ZMem × Int32} (s0 : Int32) (μ : ZMem) (h : fX7_cases_b64 n s0 μ = some z) : V (zkI l mX7_cases (rmd 4) fr n z) fr 64 [] [.int s0] n μ := by
  unfold fX7_cases_b64 at h
  cases h
  exact V_iret (zdk tbX7_cases_0_ok 36 rfl) rfl rfl
def fX7_cases_b17 (n : Nat) (v0 : Nat) (v1 : Int32) (v2 : Int32) (v3 : Int32) (s0 : Nat) (s1 : Int32) (s2 : Int32) (s3 : Int32) (μ : ZMem) : Option (ZMem × Int32) := bd2 (fX7_barsOfCases n s0 s1 s2 s3 μ) (fun μ2 r3 => (if r3 = 0 then bd2 (fX7_clashIn n v0 v1 v2 μ2) (fun μ6 r7 => (if r7 = (-1 : Int32) then (if v3 = 0 then (fX7_cases_b64 n (zI μ6 v0 37) μ6) else (fX7_cases_b64 n ((31 : Int32) - (zI μ6 v0 38)) μ6)) else some (μ6, (-1 : Int32)))) else bd2 (fX7_noTen n v0 r3 μ2) (fun μ11 r12 => some (μ11, r12))))
theorem tX7_cases_b17 {l : Launch} {fr : Bool} {n : Nat} {z : ZMem × Int32} (v0 : Nat) (v1 : Int32) (v2 : Int32) (v3 : Int32) (s0 : Nat) (s1 : Int32) (s2 : Int32) (s3 : Int32) (μ : ZMem) (c_v0 : isC n 7 v0 = true) (c_s0 : isC n 7 s0 = true) (h : fX7_cases_b17 n v0 v1 v2 v3 s0 s1 s2 s3 μ = some z) : V (zkI l mX7_cases (rmd 4) fr n z) fr 17 [(0, .ref v0), (1, .int v1), (2, .int v2), (3, .int v3)] [.int s3, .int s2, .int s1, .ref s0] n μ := by
  unfold fX7_cases_b17 at h
  obtain ⟨μ2, r3, q1, h⟩ := bd2_some h
  refine V_callV (R1 := (rmd 3)) (As := [.int s1, .int s2, .int s3]) (r := (some (.int r3))) (zdk tbX7_cases_0_ok 11 rfl) sC7_226 (tX7_barsOfCases q1) (c_s0) rfl rfl rfl ⟨Nat.le_of_ble_eq_true rfl, Nat.le_of_ble_eq_true rfl⟩ (Nat.le_of_ble_eq_true rfl) ⟨rfl, rfl⟩ id ?_
  refine V_istore (ls' := [(0, .ref v0), (1, .int v1), (2, .int v2), (3, .int v3), (4, .int r3)]) [1, 2, 3, 4, 0] (zdk tbX7_cases_0_ok 12 rfl) (Nat.le_of_ble_eq_true rfl) rfl ?_
  refine V_iload 4 (zdk tbX7_cases_0_ok 13 rfl) rfl ?_
  refine V_if_eq (tgt := 34) (zdk tbX7_cases_0_ok 14 rfl) (by decide) (fun c4 => ?_) (fun c4 => ?_)
  · replace h := ite_t h c4
    refine V_aload_n 0 (zdk tbX7_cases_0_ok 19 rfl) rfl ?_
    refine V_iload_n 1 (zdk tbX7_cases_0_ok 20 rfl) rfl ?_
    refine V_iload_n 2 (zdk tbX7_cases_0_ok 21 rfl) rfl ?_
    obtain ⟨μ6, r7, q5, h⟩ := bd2_some h
    refine V_callV (R1 := (rmd 2)) (As := [.int v1, .int v2]) (r := (some (.int r7))) (zdk tbX7_cases_0_ok 22 rfl) sC7_230 (tX7_clashIn q5) (c_v0) rfl rfl rfl ⟨Nat.le_of_ble_eq_true rfl, Nat.le_of_ble_eq_true rfl⟩ (Nat.le_of_ble_eq_true rfl) ⟨rfl, rfl⟩ id ?_
    refine V_iconst (v := (-1)) (zdk tbX7_cases_0_ok 23 rfl) rfl ?_
    refine V_icmp_eq (tgt := 46) (zdk tbX7_cases_0_ok 24 rfl) (by decide) (fun c8 => ?_) (fun c8 => ?_)
    · replace h := ite_t h c8
      refine V_iload_n 3 (zdk tbX7_cases_0_ok 27 rfl) rfl ?_
      refine V_if_ne (tgt := 57) (zdk tbX7_cases_0_ok 28 rfl) (by decide) (fun c9 => ?_) (fun c9 => ?_)
      · replace h := ite_f h c9
        refine V_bipush (v := 31) (zdk tbX7_cases_0_ok 32 rfl) rfl ?_
        refine V_aload_n 0 (zdk tbX7_cases_0_ok 33 rfl) rfl ?_
        refine V_getI (zdk tbX7_cases_0_ok 34 rfl) c_v0 fF7_223 rfl ?_
        refine V_isub (zdk tbX7_cases_0_ok 35 rfl) ?_
        refine V_sub (ls' := []) [] rfl ?_
        exact tX7_cases_b64 ((31 : Int32) - (zI μ6 v0 38)) μ6  h
      · replace h := ite_t h c9
        refine V_aload_n 0 (zdk tbX7_cases_0_ok 29 rfl) rfl ?_
        refine V_getI (zdk tbX7_cases_0_ok 30 rfl) c_v0 fF7_220 rfl ?_
        refine V_goto (tgt := 64) (zdk tbX7_cases_0_ok 31 rfl) (by decide) ?_
        refine V_sub (ls' := []) [] rfl ?_
        exact tX7_cases_b64 (zI μ6 v0 37) μ6  h
    · replace h := ite_f h c8
      refine V_iconst (v := (-1)) (zdk tbX7_cases_0_ok 25 rfl) rfl ?_
      cases h
      exact V_iret (zdk tbX7_cases_0_ok 26 rfl) rfl rfl
  · replace h := ite_f h c4
    refine V_aload_n 0 (zdk tbX7_cases_0_ok 15 rfl) rfl ?_
    refine V_iload 4 (zdk tbX7_cases_0_ok 16 rfl) rfl ?_
    obtain ⟨μ11, r12, q10, h⟩ := bd2_some h
    refine V_callV (R1 := (rmd 1)) (As := [.int r3]) (r := (some (.int r12))) (zdk tbX7_cases_0_ok 17 rfl) sC7_133 (tX7_noTen q10) (c_v0) rfl rfl rfl ⟨Nat.le_of_ble_eq_true rfl, Nat.le_of_ble_eq_true rfl⟩ (Nat.le_of_ble_eq_true rfl) ⟨rfl, rfl⟩ id ?_
    cases h
    exact V_iret (zdk tbX7_cases_0_ok 18 rfl) rfl rfl
def fX7_cases_b12 (n : Nat) (v0 : Nat) (v1 : Int32) (v2 : Int32) (v3 : Int32) (s0 : Nat) (s1 : Int32) (s2 : Int32) (μ : ZMem) : Option (ZMem × Int32) := (fX7_cases_b17 n v0 v1 v2 v3 s0 s1 s2 (1 : Int32) μ)
theorem tX7_cases_b12 {l : Launch} {fr : Bool} {n : Nat} {z : ZMem × Int32} (v0 : Nat) (v1 : Int32) (v2 : Int32) (v3 : Int32) (s0 : Nat) (s1 : Int32) (s2 : Int32) (μ : ZMem) (c_v0 : isC n 7 v0 = true) (c_s0 : isC n 7 s0 = true) (h : fX7_cases_b12 n v0 v1 v2 v3 s0 s1 s2 μ = some z) : V (zkI l mX7_cases (rmd 4) fr n z) fr 12 [(0, .ref v0), (1, .int v1), (2, .int v2), (3, .int v3)] [.int s2, .int s1, .ref s0] n μ := by
  unfold fX7_cases_b12 at h
  refine V_iconst (v := 1) (zdk tbX7_cases_0_ok 8 rfl) rfl ?_
  refine V_goto (tgt := 17) (zdk tbX7_cases_0_ok 9 rfl) (by decide) ?_
  exact tX7_cases_b17 v0 v1 v2 v3 s0 s1 s2 (1 : Int32) μ c_v0 c_s0 h
def fX7_cases (n : Nat) (v0 : Nat) (v1 : Int32) (v2 : Int32) (v3 : Int32) (μ : ZMem) : Option (ZMem × Int32) := chk (isC n 7 v0) ((if v3 = 0 then (fX7_cases_b12 n v0 v1 v2 v3 v0 v1 v2 μ) else (if v3 = (1 : Int32) then (fX7_cases_b12 n v0 v1 v2 v3 v0 v1 v2 μ) else (fX7_cases_b17 n v0 v1 v2 v3 v0 v1 v2 (0 : Int32) μ))))
theorem tX7_cases {l : Launch} {fr : Bool} {n : Nat} {v0 : Nat} {v1 : Int32} {v2 : Int32} {v3 : Int32} {μ : ZMem} {z : ZMem × Int32} (h : fX7_cases n v0 v1 v2 v3 μ = some z) : ZFn l mX7_cases (rmd 4) [.ref v0, .int v1, .int v2, .int v3] fr n μ (fr, n, z.1, some (.int z.2)) := by
  unfold fX7_cases at h
  obtain ⟨c_v0, h⟩ := chk_some h
  refine ZFn.of (ls := [(0, .ref v0), (1, .int v1), (2, .int v2), (3, .int v3)]) (by decide) (fun ξ => Nat.le_of_ble_eq_true rfl) (fun ξ => rfl) ?_
  refine V_aload_n 0 (zdk tbX7_cases_0_ok 0 rfl) rfl ?_
  refine V_iload_n 1 (zdk tbX7_cases_0_ok 1 rfl) rfl ?_
  refine V_iload_n 2 (zdk tbX7_cases_0_ok 2 rfl) rfl ?_
  refine V_iload_n 3 (zdk tbX7_cases_0_ok 3 rfl) rfl ?_
  refine V_if_eq (tgt := 12) (zdk tbX7_cases_0_ok 4 rfl) (by decide) (fun c1 => ?_) (fun c1 => ?_)
  · replace h := ite_t h c1
    exact tX7_cases_b12 v0 v1 v2 v3 v0 v1 v2 μ c_v0 c_v0 h
  · replace h := ite_f h c1
    refine V_iload_n 3 (zdk tbX7_cases_0_ok 5 rfl) rfl ?_
    refine V_iconst (v := 1) (zdk tbX7_cases_0_ok 6 rfl) rfl ?_
    refine V_icmp_ne (tgt := 16) (zdk tbX7_cases_0_ok 7 rfl) (by decide) (fun c2 => ?_) (fun c2 => ?_)
    · replace h := ite_f h c2
      refine V_iconst (v := 0) (zdk tbX7_cases_0_ok 10 rfl) rfl ?_
      exact tX7_cases_b17 v0 v1 v2 v3 v0 v1 v2 (0 : Int32) μ c_v0 c_v0 h
    · replace h := ite_t h c2
      exact tX7_cases_b12 v0 v1 v2 v3 v0 v1 v2 μ c_v0 c_v0 h

-- WhoComplainsCarriesModel.clash
def tbX7_clash_0 : List (Nat × Instr × Nat) := [(0, .aload_n 0, 1), (1, .iload_n 1, 1), (2, .iload_n 2, 1), (3, .iconst 1, 1), (4, .invokevirtual 226, 3), (7, .istore_n 3, 1), (8, .iload_n 3, 1), (9, .ifCond .eq 11, 3), (12, .aload_n 0, 1), (13, .iload_n 3, 1), (14, .invokevirtual 133, 3), (17, .goto 9, 3), (20, .aload_n 0, 1), (21, .iload_n 1, 1), (22, .iload_n 2, 1), (23, .invokevirtual 230, 3), (26, .ireturn, 1)]
theorem tbX7_clash_0_ok : ∀ q ∈ tbX7_clash_0, decode cX7_clash q.1 = .ok (q.2.1, q.2.2) := by decide +kernel
def fX7_clash_b26 (n : Nat) (s0 : Int32) (μ : ZMem) : Option (ZMem × Int32) := some (μ, s0)
theorem tX7_clash_b26 {l : Launch} {fr : Bool} {n : Nat} {z : ZMem × Int32} (s0 : Int32) (μ : ZMem) (h : fX7_clash_b26 n s0 μ = some z) : V (zkI l mX7_clash (rmd 4) fr n z) fr 26 [] [.int s0] n μ := by
  unfold fX7_clash_b26 at h
  cases h
  exact V_iret (zdk tbX7_clash_0_ok 16 rfl) rfl rfl
def fX7_clash (n : Nat) (v0 : Nat) (v1 : Int32) (v2 : Int32) (μ : ZMem) : Option (ZMem × Int32) := chk (isC n 7 v0) (bd2 (fX7_barsOfCases n v0 v1 v2 (1 : Int32) μ) (fun μ2 r3 => (if r3 = 0 then bd2 (fX7_clashIn n v0 v1 v2 μ2) (fun μ6 r7 => (fX7_clash_b26 n r7 μ6)) else bd2 (fX7_noTen n v0 r3 μ2) (fun μ9 r10 => (fX7_clash_b26 n r10 μ9)))))
theorem tX7_clash {l : Launch} {fr : Bool} {n : Nat} {v0 : Nat} {v1 : Int32} {v2 : Int32} {μ : ZMem} {z : ZMem × Int32} (h : fX7_clash n v0 v1 v2 μ = some z) : ZFn l mX7_clash (rmd 4) [.ref v0, .int v1, .int v2] fr n μ (fr, n, z.1, some (.int z.2)) := by
  unfold fX7_clash at h
  obtain ⟨c_v0, h⟩ := chk_some h
  refine ZFn.of (ls := [(0, .ref v0), (1, .int v1), (2, .int v2)]) (by decide) (fun ξ => Nat.le_of_ble_eq_true rfl) (fun ξ => rfl) ?_
  refine V_aload_n 0 (zdk tbX7_clash_0_ok 0 rfl) rfl ?_
  refine V_iload_n 1 (zdk tbX7_clash_0_ok 1 rfl) rfl ?_
  refine V_iload_n 2 (zdk tbX7_clash_0_ok 2 rfl) rfl ?_
  refine V_iconst (v := 1) (zdk tbX7_clash_0_ok 3 rfl) rfl ?_
  obtain ⟨μ2, r3, q1, h⟩ := bd2_some h
  refine V_callV (R1 := (rmd 3)) (As := [.int v1, .int v2, .int (1 : Int32)]) (r := (some (.int r3))) (zdk tbX7_clash_0_ok 4 rfl) sC7_226 (tX7_barsOfCases q1) (c_v0) rfl rfl rfl ⟨Nat.le_of_ble_eq_true rfl, Nat.le_of_ble_eq_true rfl⟩ (Nat.le_of_ble_eq_true rfl) ⟨rfl, rfl⟩ id ?_
  refine V_istore_n (ls' := [(0, .ref v0), (1, .int v1), (2, .int v2), (3, .int r3)]) [1, 2, 3, 0] (zdk tbX7_clash_0_ok 5 rfl) (Nat.le_of_ble_eq_true rfl) rfl ?_
  refine V_iload_n 3 (zdk tbX7_clash_0_ok 6 rfl) rfl ?_
  refine V_if_eq (tgt := 20) (zdk tbX7_clash_0_ok 7 rfl) (by decide) (fun c4 => ?_) (fun c4 => ?_)
  · replace h := ite_t h c4
    refine V_aload_n 0 (zdk tbX7_clash_0_ok 12 rfl) rfl ?_
    refine V_iload_n 1 (zdk tbX7_clash_0_ok 13 rfl) rfl ?_
    refine V_iload_n 2 (zdk tbX7_clash_0_ok 14 rfl) rfl ?_
    obtain ⟨μ6, r7, q5, h⟩ := bd2_some h
    refine V_callV (R1 := (rmd 2)) (As := [.int v1, .int v2]) (r := (some (.int r7))) (zdk tbX7_clash_0_ok 15 rfl) sC7_230 (tX7_clashIn q5) (c_v0) rfl rfl rfl ⟨Nat.le_of_ble_eq_true rfl, Nat.le_of_ble_eq_true rfl⟩ (Nat.le_of_ble_eq_true rfl) ⟨rfl, rfl⟩ id ?_
    refine V_sub (ls' := []) [] rfl ?_
    exact tX7_clash_b26 r7 μ6  h
  · replace h := ite_f h c4
    refine V_aload_n 0 (zdk tbX7_clash_0_ok 8 rfl) rfl ?_
    refine V_iload_n 3 (zdk tbX7_clash_0_ok 9 rfl) rfl ?_
    obtain ⟨μ9, r10, q8, h⟩ := bd2_some h
    refine V_callV (R1 := (rmd 1)) (As := [.int r3]) (r := (some (.int r10))) (zdk tbX7_clash_0_ok 10 rfl) sC7_133 (tX7_noTen q8) (c_v0) rfl rfl rfl ⟨Nat.le_of_ble_eq_true rfl, Nat.le_of_ble_eq_true rfl⟩ (Nat.le_of_ble_eq_true rfl) ⟨rfl, rfl⟩ id ?_
    refine V_goto (tgt := 26) (zdk tbX7_clash_0_ok 11 rfl) (by decide) ?_
    refine V_sub (ls' := []) [] rfl ?_
    exact tX7_clash_b26 r10 μ9  h

-- WhoComplainsCarriesModel.bearsSo
def tbX7_bearsSo_0 : List (Nat × Instr × Nat) := [(0, .iconst 1, 1), (1, .istore 4, 2), (3, .aload_n 0, 1), (4, .aload_n 0, 1), (5, .getfield 84, 3), (8, .iconst 0, 1), (9, .invokevirtual 182, 3), (12, .aload_n 0, 1), (13, .getfield 130, 3), (16, .istore 5, 2), (18, .aload_n 0, 1), (19, .iload_n 1, 1), (20, .putfield 16, 3), (23, .iconst 0, 1), (24, .istore 6, 2), (26, .iload 6, 2), (28, .iload_n 3, 1), (29, .if_icmp .ge 43, 3), (32, .iload 4, 2), (34, .ifCond .eq 38, 3), (37, .aload_n 0, 1), (38, .iconst 0, 1), (39, .invokevirtual 196, 3), (42, .aload_n 0, 1), (43, .getfield 130, 3), (46, .iload 5, 2), (48, .isub, 1), (49, .aload_n 0, 1), (50, .iload_n 2, 1), (51, .iload 6, 2), (53, .invokevirtual 216, 3), (56, .if_icmp .ne 7, 3), (59, .iconst 1, 1), (60, .goto 4, 3), (63, .iconst 0, 1), (64, .istore 4, 2), (66, .iinc 6 1, 3), (69, .goto (-43), 3), (72, .aload_n 0, 1), (73, .aload_n 0, 1), (74, .getfield 84, 3), (77, .iconst 1, 1), (78, .invokevirtual 182, 3), (81, .iload 4, 2), (83, .ireturn, 1)]
theorem tbX7_bearsSo_0_ok : ∀ q ∈ tbX7_bearsSo_0, decode cX7_bearsSo q.1 = .ok (q.2.1, q.2.2) := by decide +kernel
def fX7_bearsSo_b64 (g26 : Nat → Int32 → Int32 → Int32 → Int32 → Int32 → ZMem → Option (ZMem × Int32)) (n : Nat) (v0 : Nat) (v2 : Int32) (v3 : Int32) (v5 : Int32) (v6 : Int32) (s0 : Int32) (μ : ZMem) : Option (ZMem × Int32) := (g26 v0 v2 v3 s0 v5 (v6 + (1 : Int32)) μ)
theorem tX7_bearsSo_b64 {l : Launch} {fr : Bool} {n : Nat} {z : ZMem × Int32} {g26 : Nat → Int32 → Int32 → Int32 → Int32 → Int32 → ZMem → Option (ZMem × Int32)} (hg26 : ∀ (v0 : Nat) (v2 : Int32) (v3 : Int32) (v4 : Int32) (v5 : Int32) (v6 : Int32) (μ : ZMem), isC n 7 v0 = true → g26 v0 v2 v3 v4 v5 v6 μ = some z → V (zkI l mX7_bearsSo (rmd 4) fr n z) fr 26 [(0, .ref v0), (2, .int v2), (3, .int v3), (4, .int v4), (5, .int v5), (6, .int v6)] [] n μ) (v0 : Nat) (v2 : Int32) (v3 : Int32) (v5 : Int32) (v6 : Int32) (s0 : Int32) (μ : ZMem) (c_v0 : isC n 7 v0 = true) (h : fX7_bearsSo_b64 g26 n v0 v2 v3 v5 v6 s0 μ = some z) : V (zkI l mX7_bearsSo (rmd 4) fr n z) fr 64 [(0, .ref v0), (2, .int v2), (3, .int v3), (5, .int v5), (6, .int v6)] [.int s0] n μ := by
  unfold fX7_bearsSo_b64 at h
  refine V_istore (ls' := [(0, .ref v0), (2, .int v2), (3, .int v3), (4, .int s0), (5, .int v5), (6, .int v6)]) [1, 2, 3, 0, 4, 5] (zdk tbX7_bearsSo_0_ok 35 rfl) (Nat.le_of_ble_eq_true rfl) rfl ?_
  refine V_inc (dx := 1) (ls' := [(0, .ref v0), (2, .int v2), (3, .int v3), (4, .int s0), (5, .int v5), (6, .int (v6 + (1 : Int32)))]) 5 [1, 2, 3, 4, 5, 0] (zdk tbX7_bearsSo_0_ok 36 rfl) rfl (Nat.le_of_ble_eq_true rfl) rfl rfl ?_
  refine V_goto (tgt := 26) (zdk tbX7_bearsSo_0_ok 37 rfl) (by decide) ?_
  exact hg26 v0 v2 v3 s0 v5 (v6 + (1 : Int32)) μ c_v0 h
def fX7_bearsSo_b72 (n : Nat) (v0 : Nat) (v4 : Int32) (μ : ZMem) : Option (ZMem × Int32) := bd1 (zRc n 100 μ v0 32) (fun r1 => bd1 (fX7_all n v0 r1 (1 : Int32) μ) (fun μ4 => chk (b01 v4) (some (μ4, v4))))
theorem tX7_bearsSo_b72 {l : Launch} {fr : Bool} {n : Nat} {z : ZMem × Int32} (v0 : Nat) (v4 : Int32) (μ : ZMem) (c_v0 : isC n 7 v0 = true) (h : fX7_bearsSo_b72 n v0 v4 μ = some z) : V (zkI l mX7_bearsSo (rmd 4) fr n z) fr 72 [(0, .ref v0), (4, .int v4)] [] n μ := by
  unfold fX7_bearsSo_b72 at h
  refine V_aload_n 0 (zdk tbX7_bearsSo_0_ok 38 rfl) rfl ?_
  refine V_aload_n 0 (zdk tbX7_bearsSo_0_ok 39 rfl) rfl ?_
  obtain ⟨r1, q2, h⟩ := bd1_some h
  obtain ⟨q2, c_r1⟩ := zRc_some q2
  refine V_getR (zdk tbX7_bearsSo_0_ok 40 rfl) c_v0 fF7_84 rfl q2 ?_
  refine V_iconst (v := 1) (zdk tbX7_bearsSo_0_ok 41 rfl) rfl ?_
  obtain ⟨μ4, q3, h⟩ := bd1_some h
  refine V_callV (R1 := (rmd 2)) (As := [.ref r1, .int (1 : Int32)]) (r := none) (zdk tbX7_bearsSo_0_ok 42 rfl) sC7_182 (tX7_all q3) (c_v0) rfl rfl rfl ⟨Nat.le_of_ble_eq_true rfl, Nat.le_of_ble_eq_true rfl⟩ (Nat.le_of_ble_eq_true rfl) ⟨rfl, rfl⟩ id ?_
  refine V_iload 1 (zdk tbX7_bearsSo_0_ok 43 rfl) rfl ?_
  obtain ⟨b5, h⟩ := chk_some h
  cases h
  exact V_zret (zdk tbX7_bearsSo_0_ok 44 rfl) rfl (b01_n b5) rfl
def fX7_bearsSo_b26 (n : Nat) : Nat → Nat → Int32 → Int32 → Int32 → Int32 → Int32 → ZMem → Option (ZMem × Int32)
  | 0, _, _, _, _, _, _, _ => none
  | k + 1, v0, v2, v3, v4, v5, v6, μ => (if v3 ≤ v6 then (fX7_bearsSo_b72 n v0 v4 μ) else (if v4 = 0 then (fX7_bearsSo_b72 n v0 v4 μ) else bd1 (fX7_step n v0 (0 : Int32) μ) (fun μ4 => bd2 (fX7_intAt n v0 v2 v6 μ4) (fun μ6 r7 => (if ((zI μ4 v0 3) - v5) = r7 then (fX7_bearsSo_b64 (fX7_bearsSo_b26 n k) n v0 v2 v3 v5 v6 (1 : Int32) μ6) else (fX7_bearsSo_b64 (fX7_bearsSo_b26 n k) n v0 v2 v3 v5 v6 (0 : Int32) μ6))))))
theorem tX7_bearsSo_b26 {l : Launch} {fr : Bool} {n : Nat} {z : ZMem × Int32} : ∀ (k : Nat) (v0 : Nat) (v2 : Int32) (v3 : Int32) (v4 : Int32) (v5 : Int32) (v6 : Int32) (μ : ZMem) (c_v0 : isC n 7 v0 = true), fX7_bearsSo_b26 n k v0 v2 v3 v4 v5 v6 μ = some z → V (zkI l mX7_bearsSo (rmd 4) fr n z) fr 26 [(0, .ref v0), (2, .int v2), (3, .int v3), (4, .int v4), (5, .int v5), (6, .int v6)] [] n μ := by
  intro k
  induction k with
  | zero =>
    intro v0 v2 v3 v4 v5 v6 μ c_v0 h
    unfold fX7_bearsSo_b26 at h
    cases h
  | succ k ih =>
    intro v0 v2 v3 v4 v5 v6 μ c_v0 h
    unfold fX7_bearsSo_b26 at h
    refine V_iload 5 (zdk tbX7_bearsSo_0_ok 15 rfl) rfl ?_
    refine V_iload_n 2 (zdk tbX7_bearsSo_0_ok 16 rfl) rfl ?_
    refine V_icmp_ge (tgt := 72) (zdk tbX7_bearsSo_0_ok 17 rfl) (by decide) (fun c1 => ?_) (fun c1 => ?_)
    · replace h := ite_t h c1
      refine V_sub (ls' := [(0, .ref v0), (4, .int v4)]) [0, 3] rfl ?_
      exact tX7_bearsSo_b72 v0 v4 μ c_v0 h
    · replace h := ite_f h c1
      refine V_iload 3 (zdk tbX7_bearsSo_0_ok 18 rfl) rfl ?_
      refine V_if_eq (tgt := 72) (zdk tbX7_bearsSo_0_ok 19 rfl) (by decide) (fun c2 => ?_) (fun c2 => ?_)
      · replace h := ite_t h c2
        refine V_sub (ls' := [(0, .ref v0), (4, .int v4)]) [0, 3] rfl ?_
        exact tX7_bearsSo_b72 v0 v4 μ c_v0 h
      · replace h := ite_f h c2
        refine V_aload_n 0 (zdk tbX7_bearsSo_0_ok 20 rfl) rfl ?_
        refine V_iconst (v := 0) (zdk tbX7_bearsSo_0_ok 21 rfl) rfl ?_
        obtain ⟨μ4, q3, h⟩ := bd1_some h
        refine V_callV (R1 := (rmd 3)) (As := [.int (0 : Int32)]) (r := none) (zdk tbX7_bearsSo_0_ok 22 rfl) sC7_196 (tX7_step q3) (c_v0) rfl rfl rfl ⟨Nat.le_of_ble_eq_true rfl, Nat.le_of_ble_eq_true rfl⟩ (Nat.le_of_ble_eq_true rfl) ⟨rfl, rfl⟩ id ?_
        refine V_aload_n 0 (zdk tbX7_bearsSo_0_ok 23 rfl) rfl ?_
        refine V_getI (zdk tbX7_bearsSo_0_ok 24 rfl) c_v0 fF7_130 rfl ?_
        refine V_iload 4 (zdk tbX7_bearsSo_0_ok 25 rfl) rfl ?_
        refine V_isub (zdk tbX7_bearsSo_0_ok 26 rfl) ?_
        refine V_aload_n 0 (zdk tbX7_bearsSo_0_ok 27 rfl) rfl ?_
        refine V_iload_n 1 (zdk tbX7_bearsSo_0_ok 28 rfl) rfl ?_
        refine V_iload 5 (zdk tbX7_bearsSo_0_ok 29 rfl) rfl ?_
        obtain ⟨μ6, r7, q5, h⟩ := bd2_some h
        refine V_callV (R1 := (rmd 1)) (As := [.int v2, .int v6]) (r := (some (.int r7))) (zdk tbX7_bearsSo_0_ok 30 rfl) sC7_216 (tX7_intAt q5) (c_v0) rfl rfl rfl ⟨Nat.le_of_ble_eq_true rfl, Nat.le_of_ble_eq_true rfl⟩ (Nat.le_of_ble_eq_true rfl) ⟨rfl, rfl⟩ id ?_
        refine V_icmp_ne (tgt := 63) (zdk tbX7_bearsSo_0_ok 31 rfl) (by decide) (fun c8 => ?_) (fun c8 => ?_)
        · replace h := ite_f h c8
          refine V_iconst (v := 0) (zdk tbX7_bearsSo_0_ok 34 rfl) rfl ?_
          refine V_sub (ls' := [(0, .ref v0), (2, .int v2), (3, .int v3), (5, .int v5), (6, .int v6)]) [0, 1, 2, 4, 5] rfl ?_
          exact tX7_bearsSo_b64 (fun v0 v2 v3 v4 v5 v6 μ y0 h => ih v0 v2 v3 v4 v5 v6 μ y0 h) v0 v2 v3 v5 v6 (0 : Int32) μ6 c_v0 h
        · replace h := ite_t h c8
          refine V_iconst (v := 1) (zdk tbX7_bearsSo_0_ok 32 rfl) rfl ?_
          refine V_goto (tgt := 64) (zdk tbX7_bearsSo_0_ok 33 rfl) (by decide) ?_
          refine V_sub (ls' := [(0, .ref v0), (2, .int v2), (3, .int v3), (5, .int v5), (6, .int v6)]) [0, 1, 2, 4, 5] rfl ?_
          exact tX7_bearsSo_b64 (fun v0 v2 v3 v4 v5 v6 μ y0 h => ih v0 v2 v3 v4 v5 v6 μ y0 h) v0 v2 v3 v5 v6 (1 : Int32) μ6 c_v0 h
def fX7_bearsSo (n : Nat) (v0 : Nat) (v1 : Int32) (v2 : Int32) (v3 : Int32) (μ : ZMem) : Option (ZMem × Int32) := chk (isC n 7 v0) (bd1 (zRc n 100 μ v0 32) (fun r1 => bd1 (fX7_all n v0 r1 (0 : Int32) μ) (fun μ4 => lt (zpI μ4 v0 4 v1) (fun μ5 => (fX7_bearsSo_b26 n FU v0 v2 v3 (1 : Int32) (zI μ4 v0 3) (0 : Int32) μ5)))))
theorem tX7_bearsSo {l : Launch} {fr : Bool} {n : Nat} {v0 : Nat} {v1 : Int32} {v2 : Int32} {v3 : Int32} {μ : ZMem} {z : ZMem × Int32} (h : fX7_bearsSo n v0 v1 v2 v3 μ = some z) : ZFn l mX7_bearsSo (rmd 4) [.ref v0, .int v1, .int v2, .int v3] fr n μ (fr, n, z.1, some (.int z.2)) := by
  unfold fX7_bearsSo at h
  obtain ⟨c_v0, h⟩ := chk_some h
  refine ZFn.of (ls := [(0, .ref v0), (1, .int v1), (2, .int v2), (3, .int v3)]) (by decide) (fun ξ => Nat.le_of_ble_eq_true rfl) (fun ξ => rfl) ?_
  refine V_iconst (v := 1) (zdk tbX7_bearsSo_0_ok 0 rfl) rfl ?_
  refine V_istore (ls' := [(0, .ref v0), (1, .int v1), (2, .int v2), (3, .int v3), (4, .int (1 : Int32))]) [1, 2, 3, 4, 0] (zdk tbX7_bearsSo_0_ok 1 rfl) (Nat.le_of_ble_eq_true rfl) rfl ?_
  refine V_aload_n 0 (zdk tbX7_bearsSo_0_ok 2 rfl) rfl ?_
  refine V_aload_n 0 (zdk tbX7_bearsSo_0_ok 3 rfl) rfl ?_
  obtain ⟨r1, q2, h⟩ := bd1_some h
  obtain ⟨q2, c_r1⟩ := zRc_some q2
  refine V_getR (zdk tbX7_bearsSo_0_ok 4 rfl) c_v0 fF7_84 rfl q2 ?_
  refine V_iconst (v := 0) (zdk tbX7_bearsSo_0_ok 5 rfl) rfl ?_
  obtain ⟨μ4, q3, h⟩ := bd1_some h
  refine V_callV (R1 := (rmd 2)) (As := [.ref r1, .int (0 : Int32)]) (r := none) (zdk tbX7_bearsSo_0_ok 6 rfl) sC7_182 (tX7_all q3) (c_v0) rfl rfl rfl ⟨Nat.le_of_ble_eq_true rfl, Nat.le_of_ble_eq_true rfl⟩ (Nat.le_of_ble_eq_true rfl) ⟨rfl, rfl⟩ id ?_
  refine V_aload_n 0 (zdk tbX7_bearsSo_0_ok 7 rfl) rfl ?_
  refine V_getI (zdk tbX7_bearsSo_0_ok 8 rfl) c_v0 fF7_130 rfl ?_
  refine V_istore (ls' := [(0, .ref v0), (1, .int v1), (2, .int v2), (3, .int v3), (4, .int (1 : Int32)), (5, .int (zI μ4 v0 3))]) [1, 2, 3, 4, 5, 0] (zdk tbX7_bearsSo_0_ok 9 rfl) (Nat.le_of_ble_eq_true rfl) rfl ?_
  refine V_aload_n 0 (zdk tbX7_bearsSo_0_ok 10 rfl) rfl ?_
  refine V_iload_n 1 (zdk tbX7_bearsSo_0_ok 11 rfl) rfl ?_
  obtain ⟨μ5, e6, h⟩ := lt_some h
  refine V_putI (zdk tbX7_bearsSo_0_ok 12 rfl) c_v0 fF7_16 rfl rfl rfl e6 ?_
  refine V_iconst (v := 0) (zdk tbX7_bearsSo_0_ok 13 rfl) rfl ?_
  refine V_istore (ls' := [(0, .ref v0), (2, .int v2), (3, .int v3), (4, .int (1 : Int32)), (5, .int (zI μ4 v0 3)), (6, .int (0 : Int32))]) [1, 3, 4, 5, 6, 0] (zdk tbX7_bearsSo_0_ok 14 rfl) (Nat.le_of_ble_eq_true rfl) rfl ?_
  exact tX7_bearsSo_b26 FU v0 v2 v3 (1 : Int32) (zI μ4 v0 3) (0 : Int32) μ5 c_v0 h

-- WhoComplainsCarriesModel.borne
def tbX7_borne_0 : List (Nat × Instr × Nat) := [(0, .aload_n 0, 1), (1, .iload_n 1, 1), (2, .invokevirtual 179, 3), (5, .istore_n 3, 1), (6, .iload_n 3, 1), (7, .ifCond .ne 45, 3), (10, .iload_n 2, 1), (11, .ifCond .ge 8, 3), (14, .bipush (-4), 2), (16, .goto 35, 3), (19, .iload_n 2, 1), (20, .aload_n 0, 1), (21, .getfield 53, 3), (24, .iload_n 1, 1), (25, .iaload, 1), (26, .if_icmp .le 8, 3), (29, .bipush (-5), 2), (31, .goto 20, 3), (34, .aload_n 0, 1), (35, .iload_n 2, 1), (36, .iconst 1, 1), (37, .bipush 40, 2), (39, .invokevirtual 122, 3), (42, .ifCond .ne 8, 3), (45, .bipush (-6), 2), (47, .goto 4, 3), (50, .iconst 0, 1), (51, .istore_n 3, 1), (52, .iload_n 3, 1), (53, .ifCond .eq 9, 3), (56, .aload_n 0, 1), (57, .iload_n 3, 1), (58, .invokevirtual 106, 3), (61, .ireturn, 1), (62, .aload_n 0, 1), (63, .iconst (-1), 1), (64, .iload_n 1, 1), (65, .iload_n 2, 1), (66, .invokevirtual 233, 3), (69, .ifCond .eq 12, 3), (72, .iconst 1, 1), (73, .aload_n 0, 1), (74, .getfield 99, 3), (77, .ishl, 1), (78, .goto 4, 3), (81, .iconst 0, 1), (82, .istore 4, 2), (84, .iconst 0, 1), (85, .istore 5, 2), (87, .iload 5, 2)]
theorem tbX7_borne_0_ok : ∀ q ∈ tbX7_borne_0, decode cX7_borne q.1 = .ok (q.2.1, q.2.2) := by decide +kernel
def tbX7_borne_1 : List (Nat × Instr × Nat) := [(89, .aload_n 0, 1), (90, .getfield 99, 3), (93, .if_icmp .ge 29, 3), (96, .aload_n 0, 1), (97, .iload 5, 2), (99, .iload_n 1, 1), (100, .iload_n 2, 1), (101, .invokevirtual 233, 3), (104, .ifCond .eq 12, 3), (107, .iload 4, 2), (109, .iconst 1, 1), (110, .iload 5, 2), (112, .ishl, 1), (113, .iadd, 1), (114, .istore 4, 2), (116, .iinc 5 1, 3), (119, .goto (-32), 3), (122, .iload 4, 2), (124, .ireturn, 1)]
theorem tbX7_borne_1_ok : ∀ q ∈ tbX7_borne_1, decode cX7_borne q.1 = .ok (q.2.1, q.2.2) := by decide +kernel
theorem wCX7_bearsSo : zCW mX7_bearsSo 3 := ⟨zin (i := 8) (by decide +kernel) rfl, zin (i := 1159) (by decide +kernel) rfl, by decide +kernel, by decide +kernel, by decide +kernel⟩
theorem sC7_233 : zCV RX7 233 mX7_bearsSo 3 := ⟨zin (i := 1156) (by decide +kernel) rfl, zin (i := 1158) (by decide +kernel) rfl, zinP (i := 58) (q := (yX7_bearsSo, 42)) (by decide +kernel) rfl, wCX7_bearsSo⟩
def fX7_borne_b116 (g87 : Nat → Int32 → Int32 → Int32 → Int32 → ZMem → Option (ZMem × Int32)) (n : Nat) (v0 : Nat) (v1 : Int32) (v2 : Int32) (v4 : Int32) (v5 : Int32) (μ : ZMem) : Option (ZMem × Int32) := (g87 v0 v1 v2 v4 (v5 + (1 : Int32)) μ)
theorem tX7_borne_b116 {l : Launch} {fr : Bool} {n : Nat} {z : ZMem × Int32} {g87 : Nat → Int32 → Int32 → Int32 → Int32 → ZMem → Option (ZMem × Int32)} (hg87 : ∀ (v0 : Nat) (v1 : Int32) (v2 : Int32) (v4 : Int32) (v5 : Int32) (μ : ZMem), isC n 7 v0 = true → g87 v0 v1 v2 v4 v5 μ = some z → V (zkI l mX7_borne (rmd 5) fr n z) fr 87 [(0, .ref v0), (1, .int v1), (2, .int v2), (4, .int v4), (5, .int v5)] [] n μ) (v0 : Nat) (v1 : Int32) (v2 : Int32) (v4 : Int32) (v5 : Int32) (μ : ZMem) (c_v0 : isC n 7 v0 = true) (h : fX7_borne_b116 g87 n v0 v1 v2 v4 v5 μ = some z) : V (zkI l mX7_borne (rmd 5) fr n z) fr 116 [(0, .ref v0), (1, .int v1), (2, .int v2), (4, .int v4), (5, .int v5)] [] n μ := by
  unfold fX7_borne_b116 at h
  refine V_inc (dx := 1) (ls' := [(0, .ref v0), (1, .int v1), (2, .int v2), (4, .int v4), (5, .int (v5 + (1 : Int32)))]) 4 [1, 2, 3, 4, 0] (zdk tbX7_borne_1_ok 15 rfl) rfl (Nat.le_of_ble_eq_true rfl) rfl rfl ?_
  refine V_goto (tgt := 87) (zdk tbX7_borne_1_ok 16 rfl) (by decide) ?_
  exact hg87 v0 v1 v2 v4 (v5 + (1 : Int32)) μ c_v0 h
def fX7_borne_b87 (n : Nat) : Nat → Nat → Int32 → Int32 → Int32 → Int32 → ZMem → Option (ZMem × Int32)
  | 0, _, _, _, _, _, _ => none
  | k + 1, v0, v1, v2, v4, v5, μ => (if (zI μ v0 0) ≤ v5 then some (μ, v4) else bd2 (fX7_bearsSo n v0 v5 v1 v2 μ) (fun μ3 r4 => (if r4 = 0 then (fX7_borne_b116 (fX7_borne_b87 n k) n v0 v1 v2 v4 v5 μ3) else (fX7_borne_b116 (fX7_borne_b87 n k) n v0 v1 v2 (v4 + ((1 : Int32) <<< (v5 &&& 31))) v5 μ3))))
theorem tX7_borne_b87 {l : Launch} {fr : Bool} {n : Nat} {z : ZMem × Int32} : ∀ (k : Nat) (v0 : Nat) (v1 : Int32) (v2 : Int32) (v4 : Int32) (v5 : Int32) (μ : ZMem) (c_v0 : isC n 7 v0 = true), fX7_borne_b87 n k v0 v1 v2 v4 v5 μ = some z → V (zkI l mX7_borne (rmd 5) fr n z) fr 87 [(0, .ref v0), (1, .int v1), (2, .int v2), (4, .int v4), (5, .int v5)] [] n μ := by
  intro k
  induction k with
  | zero =>
    intro v0 v1 v2 v4 v5 μ c_v0 h
    unfold fX7_borne_b87 at h
    cases h
  | succ k ih =>
    intro v0 v1 v2 v4 v5 μ c_v0 h
    unfold fX7_borne_b87 at h
    refine V_iload 4 (zdk tbX7_borne_0_ok 49 rfl) rfl ?_
    refine V_aload_n 0 (zdk tbX7_borne_1_ok 0 rfl) rfl ?_
    refine V_getI (zdk tbX7_borne_1_ok 1 rfl) c_v0 fF7_99 rfl ?_
    refine V_icmp_ge (tgt := 122) (zdk tbX7_borne_1_ok 2 rfl) (by decide) (fun c1 => ?_) (fun c1 => ?_)
    · replace h := ite_t h c1
      refine V_iload 3 (zdk tbX7_borne_1_ok 17 rfl) rfl ?_
      cases h
      exact V_iret (zdk tbX7_borne_1_ok 18 rfl) rfl rfl
    · replace h := ite_f h c1
      refine V_aload_n 0 (zdk tbX7_borne_1_ok 3 rfl) rfl ?_
      refine V_iload 4 (zdk tbX7_borne_1_ok 4 rfl) rfl ?_
      refine V_iload_n 1 (zdk tbX7_borne_1_ok 5 rfl) rfl ?_
      refine V_iload_n 2 (zdk tbX7_borne_1_ok 6 rfl) rfl ?_
      obtain ⟨μ3, r4, q2, h⟩ := bd2_some h
      refine V_callV (R1 := (rmd 4)) (As := [.int v5, .int v1, .int v2]) (r := (some (.int r4))) (zdk tbX7_borne_1_ok 7 rfl) sC7_233 (tX7_bearsSo q2) (c_v0) rfl rfl rfl ⟨Nat.le_of_ble_eq_true rfl, Nat.le_of_ble_eq_true rfl⟩ (Nat.le_of_ble_eq_true rfl) ⟨rfl, rfl⟩ id ?_
      refine V_if_eq (tgt := 116) (zdk tbX7_borne_1_ok 8 rfl) (by decide) (fun c5 => ?_) (fun c5 => ?_)
      · replace h := ite_t h c5
        exact tX7_borne_b116 (fun v0 v1 v2 v4 v5 μ y0 h => ih v0 v1 v2 v4 v5 μ y0 h) v0 v1 v2 v4 v5 μ3 c_v0 h
      · replace h := ite_f h c5
        refine V_iload 3 (zdk tbX7_borne_1_ok 9 rfl) rfl ?_
        refine V_iconst (v := 1) (zdk tbX7_borne_1_ok 10 rfl) rfl ?_
        refine V_iload 4 (zdk tbX7_borne_1_ok 11 rfl) rfl ?_
        refine V_ishl (zdk tbX7_borne_1_ok 12 rfl) ?_
        refine V_iadd (zdk tbX7_borne_1_ok 13 rfl) ?_
        refine V_istore (ls' := [(0, .ref v0), (1, .int v1), (2, .int v2), (4, .int (v4 + ((1 : Int32) <<< (v5 &&& 31)))), (5, .int v5)]) [1, 2, 3, 0, 4] (zdk tbX7_borne_1_ok 14 rfl) (Nat.le_of_ble_eq_true rfl) rfl ?_
        exact tX7_borne_b116 (fun v0 v1 v2 v4 v5 μ y0 h => ih v0 v1 v2 v4 v5 μ y0 h) v0 v1 v2 (v4 + ((1 : Int32) <<< (v5 &&& 31))) v5 μ3 c_v0 h
def fX7_borne_b82 (n : Nat) (v0 : Nat) (v1 : Int32) (v2 : Int32) (s0 : Int32) (μ : ZMem) : Option (ZMem × Int32) := (fX7_borne_b87 n FU v0 v1 v2 s0 (0 : Int32) μ)
theorem tX7_borne_b82 {l : Launch} {fr : Bool} {n : Nat} {z : ZMem × Int32} (v0 : Nat) (v1 : Int32) (v2 : Int32) (s0 : Int32) (μ : ZMem) (c_v0 : isC n 7 v0 = true) (h : fX7_borne_b82 n v0 v1 v2 s0 μ = some z) : V (zkI l mX7_borne (rmd 5) fr n z) fr 82 [(0, .ref v0), (1, .int v1), (2, .int v2)] [.int s0] n μ := by
  unfold fX7_borne_b82 at h
  refine V_istore (ls' := [(0, .ref v0), (1, .int v1), (2, .int v2), (4, .int s0)]) [1, 2, 3, 0] (zdk tbX7_borne_0_ok 46 rfl) (Nat.le_of_ble_eq_true rfl) rfl ?_
  refine V_iconst (v := 0) (zdk tbX7_borne_0_ok 47 rfl) rfl ?_
  refine V_istore (ls' := [(0, .ref v0), (1, .int v1), (2, .int v2), (4, .int s0), (5, .int (0 : Int32))]) [1, 2, 3, 4, 0] (zdk tbX7_borne_0_ok 48 rfl) (Nat.le_of_ble_eq_true rfl) rfl ?_
  exact tX7_borne_b87 FU v0 v1 v2 s0 (0 : Int32) μ c_v0 h
def fX7_borne_b52 (n : Nat) (v0 : Nat) (v1 : Int32) (v2 : Int32) (v3 : Int32) (μ : ZMem) : Option (ZMem × Int32) := (if v3 = 0 then bd2 (fX7_bearsSo n v0 (-1 : Int32) v1 v2 μ) (fun μ3 r4 => (if r4 = 0 then (fX7_borne_b82 n v0 v1 v2 (0 : Int32) μ3) else (fX7_borne_b82 n v0 v1 v2 ((1 : Int32) <<< ((zI μ3 v0 0) &&& 31)) μ3))) else bd2 (fX7_no n v0 v3 μ) (fun μ7 r8 => some (μ7, r8)))
theorem tX7_borne_b52 {l : Launch} {fr : Bool} {n : Nat} {z : ZMem × Int32} (v0 : Nat) (v1 : Int32) (v2 : Int32) (v3 : Int32) (μ : ZMem) (c_v0 : isC n 7 v0 = true) (h : fX7_borne_b52 n v0 v1 v2 v3 μ = some z) : V (zkI l mX7_borne (rmd 5) fr n z) fr 52 [(0, .ref v0), (1, .int v1), (2, .int v2), (3, .int v3)] [] n μ := by
  unfold fX7_borne_b52 at h
  refine V_iload_n 3 (zdk tbX7_borne_0_ok 28 rfl) rfl ?_
  refine V_if_eq (tgt := 62) (zdk tbX7_borne_0_ok 29 rfl) (by decide) (fun c1 => ?_) (fun c1 => ?_)
  · replace h := ite_t h c1
    refine V_aload_n 0 (zdk tbX7_borne_0_ok 34 rfl) rfl ?_
    refine V_iconst (v := (-1)) (zdk tbX7_borne_0_ok 35 rfl) rfl ?_
    refine V_iload_n 1 (zdk tbX7_borne_0_ok 36 rfl) rfl ?_
    refine V_iload_n 2 (zdk tbX7_borne_0_ok 37 rfl) rfl ?_
    obtain ⟨μ3, r4, q2, h⟩ := bd2_some h
    refine V_callV (R1 := (rmd 4)) (As := [.int (-1 : Int32), .int v1, .int v2]) (r := (some (.int r4))) (zdk tbX7_borne_0_ok 38 rfl) sC7_233 (tX7_bearsSo q2) (c_v0) rfl rfl rfl ⟨Nat.le_of_ble_eq_true rfl, Nat.le_of_ble_eq_true rfl⟩ (Nat.le_of_ble_eq_true rfl) ⟨rfl, rfl⟩ id ?_
    refine V_if_eq (tgt := 81) (zdk tbX7_borne_0_ok 39 rfl) (by decide) (fun c5 => ?_) (fun c5 => ?_)
    · replace h := ite_t h c5
      refine V_iconst (v := 0) (zdk tbX7_borne_0_ok 45 rfl) rfl ?_
      refine V_sub (ls' := [(0, .ref v0), (1, .int v1), (2, .int v2)]) [0, 1, 2] rfl ?_
      exact tX7_borne_b82 v0 v1 v2 (0 : Int32) μ3 c_v0 h
    · replace h := ite_f h c5
      refine V_iconst (v := 1) (zdk tbX7_borne_0_ok 40 rfl) rfl ?_
      refine V_aload_n 0 (zdk tbX7_borne_0_ok 41 rfl) rfl ?_
      refine V_getI (zdk tbX7_borne_0_ok 42 rfl) c_v0 fF7_99 rfl ?_
      refine V_ishl (zdk tbX7_borne_0_ok 43 rfl) ?_
      refine V_goto (tgt := 82) (zdk tbX7_borne_0_ok 44 rfl) (by decide) ?_
      refine V_sub (ls' := [(0, .ref v0), (1, .int v1), (2, .int v2)]) [0, 1, 2] rfl ?_
      exact tX7_borne_b82 v0 v1 v2 ((1 : Int32) <<< ((zI μ3 v0 0) &&& 31)) μ3 c_v0 h
  · replace h := ite_f h c1
    refine V_aload_n 0 (zdk tbX7_borne_0_ok 30 rfl) rfl ?_
    refine V_iload_n 3 (zdk tbX7_borne_0_ok 31 rfl) rfl ?_
    obtain ⟨μ7, r8, q6, h⟩ := bd2_some h
    refine V_callV (R1 := (rmd 1)) (As := [.int v3]) (r := (some (.int r8))) (zdk tbX7_borne_0_ok 32 rfl) sC7_106 (tX7_no q6) (c_v0) rfl rfl rfl ⟨Nat.le_of_ble_eq_true rfl, Nat.le_of_ble_eq_true rfl⟩ (Nat.le_of_ble_eq_true rfl) ⟨rfl, rfl⟩ id ?_
    cases h
    exact V_iret (zdk tbX7_borne_0_ok 33 rfl) rfl rfl
def fX7_borne_b51 (n : Nat) (v0 : Nat) (v1 : Int32) (v2 : Int32) (s0 : Int32) (μ : ZMem) : Option (ZMem × Int32) := (fX7_borne_b52 n v0 v1 v2 s0 μ)
theorem tX7_borne_b51 {l : Launch} {fr : Bool} {n : Nat} {z : ZMem × Int32} (v0 : Nat) (v1 : Int32) (v2 : Int32) (s0 : Int32) (μ : ZMem) (c_v0 : isC n 7 v0 = true) (h : fX7_borne_b51 n v0 v1 v2 s0 μ = some z) : V (zkI l mX7_borne (rmd 5) fr n z) fr 51 [(0, .ref v0), (1, .int v1), (2, .int v2)] [.int s0] n μ := by
  unfold fX7_borne_b51 at h
  refine V_istore_n (ls' := [(0, .ref v0), (1, .int v1), (2, .int v2), (3, .int s0)]) [1, 2, 3, 0] (zdk tbX7_borne_0_ok 27 rfl) (Nat.le_of_ble_eq_true rfl) rfl ?_
  exact tX7_borne_b52 v0 v1 v2 s0 μ c_v0 h
def fX7_borne (n : Nat) (v0 : Nat) (v1 : Int32) (v2 : Int32) (μ : ZMem) : Option (ZMem × Int32) := chk (isC n 7 v0) (bd2 (fX7_wanted n v0 v1 μ) (fun μ2 r3 => (if r3 = 0 then (if 0 ≤ v2 then bd1 (zRc n 100 μ2 v0 17) (fun r6 => chk (inb v1 r6) ((if v2 ≤ (zI μ2 r6 v1.toNatClampNeg) then bd2 (fX7_isFrom n v0 v2 (1 : Int32) (40 : Int32) μ2) (fun μ11 r12 => (if r12 = 0 then (fX7_borne_b51 n v0 v1 v2 (-6 : Int32) μ11) else (fX7_borne_b51 n v0 v1 v2 (0 : Int32) μ11))) else (fX7_borne_b51 n v0 v1 v2 (-5 : Int32) μ2)))) else (fX7_borne_b51 n v0 v1 v2 (-4 : Int32) μ2)) else (fX7_borne_b52 n v0 v1 v2 r3 μ2))))
theorem tX7_borne {l : Launch} {fr : Bool} {n : Nat} {v0 : Nat} {v1 : Int32} {v2 : Int32} {μ : ZMem} {z : ZMem × Int32} (h : fX7_borne n v0 v1 v2 μ = some z) : ZFn l mX7_borne (rmd 5) [.ref v0, .int v1, .int v2] fr n μ (fr, n, z.1, some (.int z.2)) := by
  unfold fX7_borne at h
  obtain ⟨c_v0, h⟩ := chk_some h
  refine ZFn.of (ls := [(0, .ref v0), (1, .int v1), (2, .int v2)]) (by decide) (fun ξ => Nat.le_of_ble_eq_true rfl) (fun ξ => rfl) ?_
  refine V_aload_n 0 (zdk tbX7_borne_0_ok 0 rfl) rfl ?_
  refine V_iload_n 1 (zdk tbX7_borne_0_ok 1 rfl) rfl ?_
  obtain ⟨μ2, r3, q1, h⟩ := bd2_some h
  refine V_callV (R1 := (rmd 2)) (As := [.int v1]) (r := (some (.int r3))) (zdk tbX7_borne_0_ok 2 rfl) sC7_179 (tX7_wanted q1) (c_v0) rfl rfl rfl ⟨Nat.le_of_ble_eq_true rfl, Nat.le_of_ble_eq_true rfl⟩ (Nat.le_of_ble_eq_true rfl) ⟨rfl, rfl⟩ id ?_
  refine V_istore_n (ls' := [(0, .ref v0), (1, .int v1), (2, .int v2), (3, .int r3)]) [1, 2, 3, 0] (zdk tbX7_borne_0_ok 3 rfl) (Nat.le_of_ble_eq_true rfl) rfl ?_
  refine V_iload_n 3 (zdk tbX7_borne_0_ok 4 rfl) rfl ?_
  refine V_if_ne (tgt := 52) (zdk tbX7_borne_0_ok 5 rfl) (by decide) (fun c4 => ?_) (fun c4 => ?_)
  · replace h := ite_f h c4
    exact tX7_borne_b52 v0 v1 v2 r3 μ2 c_v0 h
  · replace h := ite_t h c4
    refine V_iload_n 2 (zdk tbX7_borne_0_ok 6 rfl) rfl ?_
    refine V_if_ge (tgt := 19) (zdk tbX7_borne_0_ok 7 rfl) (by decide) (fun c5 => ?_) (fun c5 => ?_)
    · replace h := ite_t h c5
      refine V_iload_n 2 (zdk tbX7_borne_0_ok 10 rfl) rfl ?_
      refine V_aload_n 0 (zdk tbX7_borne_0_ok 11 rfl) rfl ?_
      obtain ⟨r6, q7, h⟩ := bd1_some h
      obtain ⟨q7, c_r6⟩ := zRc_some q7
      refine V_getR (zdk tbX7_borne_0_ok 12 rfl) c_v0 fF7_53 rfl q7 ?_
      refine V_iload_n 1 (zdk tbX7_borne_0_ok 13 rfl) rfl ?_
      obtain ⟨b8, h⟩ := chk_some h
      refine V_iald (zdk tbX7_borne_0_ok 14 rfl) c_r6 b8 ?_
      refine V_icmp_le (tgt := 34) (zdk tbX7_borne_0_ok 15 rfl) (by decide) (fun c9 => ?_) (fun c9 => ?_)
      · replace h := ite_t h c9
        refine V_aload_n 0 (zdk tbX7_borne_0_ok 18 rfl) rfl ?_
        refine V_iload_n 2 (zdk tbX7_borne_0_ok 19 rfl) rfl ?_
        refine V_iconst (v := 1) (zdk tbX7_borne_0_ok 20 rfl) rfl ?_
        refine V_bipush (v := 40) (zdk tbX7_borne_0_ok 21 rfl) rfl ?_
        obtain ⟨μ11, r12, q10, h⟩ := bd2_some h
        refine V_callV (R1 := (rmd 1)) (As := [.int v2, .int (1 : Int32), .int (40 : Int32)]) (r := (some (.int r12))) (zdk tbX7_borne_0_ok 22 rfl) sC7_122 (tX7_isFrom q10) (c_v0) rfl rfl rfl ⟨Nat.le_of_ble_eq_true rfl, Nat.le_of_ble_eq_true rfl⟩ (Nat.le_of_ble_eq_true rfl) ⟨rfl, rfl⟩ id ?_
        refine V_if_ne (tgt := 50) (zdk tbX7_borne_0_ok 23 rfl) (by decide) (fun c13 => ?_) (fun c13 => ?_)
        · replace h := ite_f h c13
          refine V_iconst (v := 0) (zdk tbX7_borne_0_ok 26 rfl) rfl ?_
          refine V_sub (ls' := [(0, .ref v0), (1, .int v1), (2, .int v2)]) [0, 1, 2] rfl ?_
          exact tX7_borne_b51 v0 v1 v2 (0 : Int32) μ11 c_v0 h
        · replace h := ite_t h c13
          refine V_bipush (v := (-6)) (zdk tbX7_borne_0_ok 24 rfl) rfl ?_
          refine V_goto (tgt := 51) (zdk tbX7_borne_0_ok 25 rfl) (by decide) ?_
          refine V_sub (ls' := [(0, .ref v0), (1, .int v1), (2, .int v2)]) [0, 1, 2] rfl ?_
          exact tX7_borne_b51 v0 v1 v2 (-6 : Int32) μ11 c_v0 h
      · replace h := ite_f h c9
        refine V_bipush (v := (-5)) (zdk tbX7_borne_0_ok 16 rfl) rfl ?_
        refine V_goto (tgt := 51) (zdk tbX7_borne_0_ok 17 rfl) (by decide) ?_
        refine V_sub (ls' := [(0, .ref v0), (1, .int v1), (2, .int v2)]) [0, 1, 2] rfl ?_
        exact tX7_borne_b51 v0 v1 v2 (-5 : Int32) μ2 c_v0 h
    · replace h := ite_f h c5
      refine V_bipush (v := (-4)) (zdk tbX7_borne_0_ok 8 rfl) rfl ?_
      refine V_goto (tgt := 51) (zdk tbX7_borne_0_ok 9 rfl) (by decide) ?_
      refine V_sub (ls' := [(0, .ref v0), (1, .int v1), (2, .int v2)]) [0, 1, 2] rfl ?_
      exact tX7_borne_b51 v0 v1 v2 (-4 : Int32) μ2 c_v0 h

-- WhoComplainsCarriesModel.overWithout
def tbX7_overWithout_0 : List (Nat × Instr × Nat) := [(0, .aload_n 0, 1), (1, .getfield 16, 3), (4, .istore_n 2, 1), (5, .aload_n 0, 1), (6, .iload_n 1, 1), (7, .putfield 87, 3), (10, .aload_n 0, 1), (11, .getfield 16, 3), (14, .iload_n 1, 1), (15, .if_icmp .ne 8, 3), (18, .aload_n 0, 1), (19, .iconst (-1), 1), (20, .putfield 16, 3), (23, .aload_n 0, 1), (24, .invokevirtual 200, 3), (27, .istore_n 3, 1), (28, .aload_n 0, 1), (29, .iload_n 2, 1), (30, .putfield 16, 3), (33, .aload_n 0, 1), (34, .iconst (-1), 1), (35, .putfield 87, 3), (38, .iload_n 3, 1), (39, .iconst (-1), 1), (40, .if_icmp .ne 9, 3), (43, .sipush 1000, 3), (46, .goto 4, 3), (49, .iload_n 3, 1), (50, .ireturn, 1)]
theorem tbX7_overWithout_0_ok : ∀ q ∈ tbX7_overWithout_0, decode cX7_overWithout q.1 = .ok (q.2.1, q.2.2) := by decide +kernel
def fX7_overWithout_b50 (n : Nat) (s0 : Int32) (μ : ZMem) : Option (ZMem × Int32) := some (μ, s0)
theorem tX7_overWithout_b50 {l : Launch} {fr : Bool} {n : Nat} {z : ZMem × Int32} (s0 : Int32) (μ : ZMem) (h : fX7_overWithout_b50 n s0 μ = some z) : V (zkI l mX7_overWithout (rmd 5) fr n z) fr 50 [] [.int s0] n μ := by
  unfold fX7_overWithout_b50 at h
  cases h
  exact V_iret (zdk tbX7_overWithout_0_ok 28 rfl) rfl rfl
def fX7_overWithout_b23 (n : Nat) (v0 : Nat) (v2 : Int32) (μ : ZMem) : Option (ZMem × Int32) := bd2 (fX7_isOver n v0 μ) (fun μ2 r3 => lt (zpI μ2 v0 4 v2) (fun μ4 => lt (zpI μ4 v0 33 (-1 : Int32)) (fun μ6 => (if r3 = (-1 : Int32) then (fX7_overWithout_b50 n (1000 : Int32) μ6) else (fX7_overWithout_b50 n r3 μ6)))))
theorem tX7_overWithout_b23 {l : Launch} {fr : Bool} {n : Nat} {z : ZMem × Int32} (v0 : Nat) (v2 : Int32) (μ : ZMem) (c_v0 : isC n 7 v0 = true) (h : fX7_overWithout_b23 n v0 v2 μ = some z) : V (zkI l mX7_overWithout (rmd 5) fr n z) fr 23 [(0, .ref v0), (2, .int v2)] [] n μ := by
  unfold fX7_overWithout_b23 at h
  refine V_aload_n 0 (zdk tbX7_overWithout_0_ok 13 rfl) rfl ?_
  obtain ⟨μ2, r3, q1, h⟩ := bd2_some h
  refine V_callV (R1 := (rmd 4)) (As := []) (r := (some (.int r3))) (zdk tbX7_overWithout_0_ok 14 rfl) sC7_200 (tX7_isOver q1) (c_v0) rfl rfl rfl ⟨Nat.le_of_ble_eq_true rfl, Nat.le_of_ble_eq_true rfl⟩ (Nat.le_of_ble_eq_true rfl) ⟨rfl, rfl⟩ id ?_
  refine V_istore_n (ls' := [(0, .ref v0), (2, .int v2), (3, .int r3)]) [1, 2, 0] (zdk tbX7_overWithout_0_ok 15 rfl) (Nat.le_of_ble_eq_true rfl) rfl ?_
  refine V_aload_n 0 (zdk tbX7_overWithout_0_ok 16 rfl) rfl ?_
  refine V_iload_n 1 (zdk tbX7_overWithout_0_ok 17 rfl) rfl ?_
  obtain ⟨μ4, e5, h⟩ := lt_some h
  refine V_putI (zdk tbX7_overWithout_0_ok 18 rfl) c_v0 fF7_16 rfl rfl rfl e5 ?_
  refine V_aload_n 0 (zdk tbX7_overWithout_0_ok 19 rfl) rfl ?_
  refine V_iconst (v := (-1)) (zdk tbX7_overWithout_0_ok 20 rfl) rfl ?_
  obtain ⟨μ6, e7, h⟩ := lt_some h
  refine V_putI (zdk tbX7_overWithout_0_ok 21 rfl) c_v0 fF7_87 rfl rfl rfl e7 ?_
  refine V_iload_n 2 (zdk tbX7_overWithout_0_ok 22 rfl) rfl ?_
  refine V_iconst (v := (-1)) (zdk tbX7_overWithout_0_ok 23 rfl) rfl ?_
  refine V_icmp_ne (tgt := 49) (zdk tbX7_overWithout_0_ok 24 rfl) (by decide) (fun c8 => ?_) (fun c8 => ?_)
  · replace h := ite_f h c8
    refine V_iload_n 2 (zdk tbX7_overWithout_0_ok 27 rfl) rfl ?_
    refine V_sub (ls' := []) [] rfl ?_
    exact tX7_overWithout_b50 r3 μ6  h
  · replace h := ite_t h c8
    refine V_sipush (v := 1000) (zdk tbX7_overWithout_0_ok 25 rfl) rfl ?_
    refine V_goto (tgt := 50) (zdk tbX7_overWithout_0_ok 26 rfl) (by decide) ?_
    refine V_sub (ls' := []) [] rfl ?_
    exact tX7_overWithout_b50 (1000 : Int32) μ6  h
def fX7_overWithout (n : Nat) (v0 : Nat) (v1 : Int32) (μ : ZMem) : Option (ZMem × Int32) := chk (isC n 7 v0) (lt (zpI μ v0 33 v1) (fun μ1 => (if (zI μ1 v0 4) = v1 then lt (zpI μ1 v0 4 (-1 : Int32)) (fun μ4 => (fX7_overWithout_b23 n v0 (zI μ v0 4) μ4)) else (fX7_overWithout_b23 n v0 (zI μ v0 4) μ1))))
theorem tX7_overWithout {l : Launch} {fr : Bool} {n : Nat} {v0 : Nat} {v1 : Int32} {μ : ZMem} {z : ZMem × Int32} (h : fX7_overWithout n v0 v1 μ = some z) : ZFn l mX7_overWithout (rmd 5) [.ref v0, .int v1] fr n μ (fr, n, z.1, some (.int z.2)) := by
  unfold fX7_overWithout at h
  obtain ⟨c_v0, h⟩ := chk_some h
  refine ZFn.of (ls := [(0, .ref v0), (1, .int v1)]) (by decide) (fun ξ => Nat.le_of_ble_eq_true rfl) (fun ξ => rfl) ?_
  refine V_aload_n 0 (zdk tbX7_overWithout_0_ok 0 rfl) rfl ?_
  refine V_getI (zdk tbX7_overWithout_0_ok 1 rfl) c_v0 fF7_16 rfl ?_
  refine V_istore_n (ls' := [(0, .ref v0), (1, .int v1), (2, .int (zI μ v0 4))]) [1, 2, 0] (zdk tbX7_overWithout_0_ok 2 rfl) (Nat.le_of_ble_eq_true rfl) rfl ?_
  refine V_aload_n 0 (zdk tbX7_overWithout_0_ok 3 rfl) rfl ?_
  refine V_iload_n 1 (zdk tbX7_overWithout_0_ok 4 rfl) rfl ?_
  obtain ⟨μ1, e2, h⟩ := lt_some h
  refine V_putI (zdk tbX7_overWithout_0_ok 5 rfl) c_v0 fF7_87 rfl rfl rfl e2 ?_
  refine V_aload_n 0 (zdk tbX7_overWithout_0_ok 6 rfl) rfl ?_
  refine V_getI (zdk tbX7_overWithout_0_ok 7 rfl) c_v0 fF7_16 rfl ?_
  refine V_iload_n 1 (zdk tbX7_overWithout_0_ok 8 rfl) rfl ?_
  refine V_icmp_ne (tgt := 23) (zdk tbX7_overWithout_0_ok 9 rfl) (by decide) (fun c3 => ?_) (fun c3 => ?_)
  · replace h := ite_f h c3
    refine V_sub (ls' := [(0, .ref v0), (2, .int (zI μ v0 4))]) [0, 2] rfl ?_
    exact tX7_overWithout_b23 v0 (zI μ v0 4) μ1 c_v0 h
  · replace h := ite_t h c3
    refine V_aload_n 0 (zdk tbX7_overWithout_0_ok 10 rfl) rfl ?_
    refine V_iconst (v := (-1)) (zdk tbX7_overWithout_0_ok 11 rfl) rfl ?_
    obtain ⟨μ4, e5, h⟩ := lt_some h
    refine V_putI (zdk tbX7_overWithout_0_ok 12 rfl) c_v0 fF7_16 rfl rfl rfl e5 ?_
    refine V_sub (ls' := [(0, .ref v0), (2, .int (zI μ v0 4))]) [0, 2] rfl ?_
    exact tX7_overWithout_b23 v0 (zI μ v0 4) μ4 c_v0 h

-- WhoComplainsCarriesModel.without
def tbX7_without_0 : List (Nat × Instr × Nat) := [(0, .aload_n 0, 1), (1, .getfield 99, 3), (4, .ifCond .ne 10, 3), (7, .aload_n 0, 1), (8, .bipush (-5), 2), (10, .invokevirtual 106, 3), (13, .ireturn, 1), (14, .iconst (-1), 1), (15, .istore_n 1, 1), (16, .iconst 0, 1), (17, .istore_n 2, 1), (18, .iconst 0, 1), (19, .istore_n 3, 1), (20, .iload_n 3, 1), (21, .aload_n 0, 1), (22, .getfield 99, 3), (25, .if_icmp .ge 35, 3), (28, .aload_n 0, 1), (29, .iload_n 3, 1), (30, .invokevirtual 236, 3), (33, .istore 4, 2), (35, .iload_n 1, 1), (36, .iconst (-1), 1), (37, .if_icmp .eq 12, 3), (40, .iload 4, 2), (42, .iload_n 2, 1), (43, .if_icmp .lt 6, 3), (46, .goto 8, 3), (49, .iload_n 3, 1), (50, .istore_n 1, 1), (51, .iload 4, 2), (53, .istore_n 2, 1), (54, .iinc 3 1, 3), (57, .goto (-37), 3), (60, .iload_n 1, 1), (61, .ireturn, 1)]
theorem tbX7_without_0_ok : ∀ q ∈ tbX7_without_0, decode cX7_without q.1 = .ok (q.2.1, q.2.2) := by decide +kernel
theorem wCX7_overWithout : zCW mX7_overWithout 1 := ⟨zin (i := 8) (by decide +kernel) rfl, zin (i := 1167) (by decide +kernel) rfl, by decide +kernel, by decide +kernel, by decide +kernel⟩
theorem sC7_236 : zCV RX7 236 mX7_overWithout 1 := ⟨zin (i := 1164) (by decide +kernel) rfl, zin (i := 1166) (by decide +kernel) rfl, zinP (i := 59) (q := (yX7_overWithout, 42)) (by decide +kernel) rfl, wCX7_overWithout⟩
def fX7_without_b54 (g20 : Nat → Int32 → Int32 → Int32 → ZMem → Option (ZMem × Int32)) (n : Nat) (v0 : Nat) (v1 : Int32) (v2 : Int32) (v3 : Int32) (μ : ZMem) : Option (ZMem × Int32) := (g20 v0 v1 v2 (v3 + (1 : Int32)) μ)
theorem tX7_without_b54 {l : Launch} {fr : Bool} {n : Nat} {z : ZMem × Int32} {g20 : Nat → Int32 → Int32 → Int32 → ZMem → Option (ZMem × Int32)} (hg20 : ∀ (v0 : Nat) (v1 : Int32) (v2 : Int32) (v3 : Int32) (μ : ZMem), isC n 7 v0 = true → g20 v0 v1 v2 v3 μ = some z → V (zkI l mX7_without (rmd 6) fr n z) fr 20 [(0, .ref v0), (1, .int v1), (2, .int v2), (3, .int v3)] [] n μ) (v0 : Nat) (v1 : Int32) (v2 : Int32) (v3 : Int32) (μ : ZMem) (c_v0 : isC n 7 v0 = true) (h : fX7_without_b54 g20 n v0 v1 v2 v3 μ = some z) : V (zkI l mX7_without (rmd 6) fr n z) fr 54 [(0, .ref v0), (1, .int v1), (2, .int v2), (3, .int v3)] [] n μ := by
  unfold fX7_without_b54 at h
  refine V_inc (dx := 1) (ls' := [(0, .ref v0), (1, .int v1), (2, .int v2), (3, .int (v3 + (1 : Int32)))]) 3 [1, 2, 3, 0] (zdk tbX7_without_0_ok 32 rfl) rfl (Nat.le_of_ble_eq_true rfl) rfl rfl ?_
  refine V_goto (tgt := 20) (zdk tbX7_without_0_ok 33 rfl) (by decide) ?_
  exact hg20 v0 v1 v2 (v3 + (1 : Int32)) μ c_v0 h
def fX7_without_b49 (g20 : Nat → Int32 → Int32 → Int32 → ZMem → Option (ZMem × Int32)) (n : Nat) (v0 : Nat) (v3 : Int32) (v4 : Int32) (μ : ZMem) : Option (ZMem × Int32) := (fX7_without_b54 g20 n v0 v3 v4 v3 μ)
theorem tX7_without_b49 {l : Launch} {fr : Bool} {n : Nat} {z : ZMem × Int32} {g20 : Nat → Int32 → Int32 → Int32 → ZMem → Option (ZMem × Int32)} (hg20 : ∀ (v0 : Nat) (v1 : Int32) (v2 : Int32) (v3 : Int32) (μ : ZMem), isC n 7 v0 = true → g20 v0 v1 v2 v3 μ = some z → V (zkI l mX7_without (rmd 6) fr n z) fr 20 [(0, .ref v0), (1, .int v1), (2, .int v2), (3, .int v3)] [] n μ) (v0 : Nat) (v3 : Int32) (v4 : Int32) (μ : ZMem) (c_v0 : isC n 7 v0 = true) (h : fX7_without_b49 g20 n v0 v3 v4 μ = some z) : V (zkI l mX7_without (rmd 6) fr n z) fr 49 [(0, .ref v0), (3, .int v3), (4, .int v4)] [] n μ := by
  unfold fX7_without_b49 at h
  refine V_iload_n 1 (zdk tbX7_without_0_ok 28 rfl) rfl ?_
  refine V_istore_n (ls' := [(0, .ref v0), (1, .int v3), (3, .int v3), (4, .int v4)]) [1, 0, 2, 3] (zdk tbX7_without_0_ok 29 rfl) (Nat.le_of_ble_eq_true rfl) rfl ?_
  refine V_iload 3 (zdk tbX7_without_0_ok 30 rfl) rfl ?_
  refine V_istore_n (ls' := [(0, .ref v0), (1, .int v3), (2, .int v4), (3, .int v3)]) [1, 2, 0, 3] (zdk tbX7_without_0_ok 31 rfl) (Nat.le_of_ble_eq_true rfl) rfl ?_
  exact tX7_without_b54 hg20 v0 v3 v4 v3 μ c_v0 h
def fX7_without_b20 (n : Nat) : Nat → Nat → Int32 → Int32 → Int32 → ZMem → Option (ZMem × Int32)
  | 0, _, _, _, _, _ => none
  | k + 1, v0, v1, v2, v3, μ => (if (zI μ v0 0) ≤ v3 then some (μ, v1) else bd2 (fX7_overWithout n v0 v3 μ) (fun μ3 r4 => (if v1 = (-1 : Int32) then (fX7_without_b49 (fX7_without_b20 n k) n v0 v3 r4 μ3) else (if r4 < v2 then (fX7_without_b49 (fX7_without_b20 n k) n v0 v3 r4 μ3) else (fX7_without_b54 (fX7_without_b20 n k) n v0 v1 v2 v3 μ3)))))
theorem tX7_without_b20 {l : Launch} {fr : Bool} {n : Nat} {z : ZMem × Int32} : ∀ (k : Nat) (v0 : Nat) (v1 : Int32) (v2 : Int32) (v3 : Int32) (μ : ZMem) (c_v0 : isC n 7 v0 = true), fX7_without_b20 n k v0 v1 v2 v3 μ = some z → V (zkI l mX7_without (rmd 6) fr n z) fr 20 [(0, .ref v0), (1, .int v1), (2, .int v2), (3, .int v3)] [] n μ := by
  intro k
  induction k with
  | zero =>
    intro v0 v1 v2 v3 μ c_v0 h
    unfold fX7_without_b20 at h
    cases h
  | succ k ih =>
    intro v0 v1 v2 v3 μ c_v0 h
    unfold fX7_without_b20 at h
    refine V_iload_n 3 (zdk tbX7_without_0_ok 13 rfl) rfl ?_
    refine V_aload_n 0 (zdk tbX7_without_0_ok 14 rfl) rfl ?_
    refine V_getI (zdk tbX7_without_0_ok 15 rfl) c_v0 fF7_99 rfl ?_
    refine V_icmp_ge (tgt := 60) (zdk tbX7_without_0_ok 16 rfl) (by decide) (fun c1 => ?_) (fun c1 => ?_)
    · replace h := ite_t h c1
      refine V_iload_n 1 (zdk tbX7_without_0_ok 34 rfl) rfl ?_
      cases h
      exact V_iret (zdk tbX7_without_0_ok 35 rfl) rfl rfl
    · replace h := ite_f h c1
      refine V_aload_n 0 (zdk tbX7_without_0_ok 17 rfl) rfl ?_
      refine V_iload_n 3 (zdk tbX7_without_0_ok 18 rfl) rfl ?_
      obtain ⟨μ3, r4, q2, h⟩ := bd2_some h
      refine V_callV (R1 := (rmd 5)) (As := [.int v3]) (r := (some (.int r4))) (zdk tbX7_without_0_ok 19 rfl) sC7_236 (tX7_overWithout q2) (c_v0) rfl rfl rfl ⟨Nat.le_of_ble_eq_true rfl, Nat.le_of_ble_eq_true rfl⟩ (Nat.le_of_ble_eq_true rfl) ⟨rfl, rfl⟩ id ?_
      refine V_istore (ls' := [(0, .ref v0), (1, .int v1), (2, .int v2), (3, .int v3), (4, .int r4)]) [1, 2, 3, 4, 0] (zdk tbX7_without_0_ok 20 rfl) (Nat.le_of_ble_eq_true rfl) rfl ?_
      refine V_iload_n 1 (zdk tbX7_without_0_ok 21 rfl) rfl ?_
      refine V_iconst (v := (-1)) (zdk tbX7_without_0_ok 22 rfl) rfl ?_
      refine V_icmp_eq (tgt := 49) (zdk tbX7_without_0_ok 23 rfl) (by decide) (fun c5 => ?_) (fun c5 => ?_)
      · replace h := ite_t h c5
        refine V_sub (ls' := [(0, .ref v0), (3, .int v3), (4, .int r4)]) [0, 3, 4] rfl ?_
        exact tX7_without_b49 (fun v0 v1 v2 v3 μ y0 h => ih v0 v1 v2 v3 μ y0 h) v0 v3 r4 μ3 c_v0 h
      · replace h := ite_f h c5
        refine V_iload 4 (zdk tbX7_without_0_ok 24 rfl) rfl ?_
        refine V_iload_n 2 (zdk tbX7_without_0_ok 25 rfl) rfl ?_
        refine V_icmp_lt (tgt := 49) (zdk tbX7_without_0_ok 26 rfl) (by decide) (fun c6 => ?_) (fun c6 => ?_)
        · replace h := ite_t h c6
          refine V_sub (ls' := [(0, .ref v0), (3, .int v3), (4, .int r4)]) [0, 3, 4] rfl ?_
          exact tX7_without_b49 (fun v0 v1 v2 v3 μ y0 h => ih v0 v1 v2 v3 μ y0 h) v0 v3 r4 μ3 c_v0 h
        · replace h := ite_f h c6
          refine V_goto (tgt := 54) (zdk tbX7_without_0_ok 27 rfl) (by decide) ?_
          refine V_sub (ls' := [(0, .ref v0), (1, .int v1), (2, .int v2), (3, .int v3)]) [0, 1, 2, 3] rfl ?_
          exact tX7_without_b54 (fun v0 v1 v2 v3 μ y0 h => ih v0 v1 v2 v3 μ y0 h) v0 v1 v2 v3 μ3 c_v0 h
def fX7_without (n : Nat) (v0 : Nat) (μ : ZMem) : Option (ZMem × Int32) := chk (isC n 7 v0) ((if (zI μ v0 0) = 0 then bd2 (fX7_no n v0 (-5 : Int32) μ) (fun μ3 r4 => some (μ3, r4)) else (fX7_without_b20 n FU v0 (-1 : Int32) (0 : Int32) (0 : Int32) μ)))
theorem tX7_without {l : Launch} {fr : Bool} {n : Nat} {v0 : Nat} {μ : ZMem} {z : ZMem × Int32} (h : fX7_without n v0 μ = some z) : ZFn l mX7_without (rmd 6) [.ref v0] fr n μ (fr, n, z.1, some (.int z.2)) := by
  unfold fX7_without at h
  obtain ⟨c_v0, h⟩ := chk_some h
  refine ZFn.of (ls := [(0, .ref v0)]) (by decide) (fun ξ => Nat.le_of_ble_eq_true rfl) (fun ξ => rfl) ?_
  refine V_aload_n 0 (zdk tbX7_without_0_ok 0 rfl) rfl ?_
  refine V_getI (zdk tbX7_without_0_ok 1 rfl) c_v0 fF7_99 rfl ?_
  refine V_if_ne (tgt := 14) (zdk tbX7_without_0_ok 2 rfl) (by decide) (fun c1 => ?_) (fun c1 => ?_)
  · replace h := ite_f h c1
    refine V_iconst (v := (-1)) (zdk tbX7_without_0_ok 7 rfl) rfl ?_
    refine V_istore_n (ls' := [(0, .ref v0), (1, .int (-1 : Int32))]) [1, 0] (zdk tbX7_without_0_ok 8 rfl) (Nat.le_of_ble_eq_true rfl) rfl ?_
    refine V_iconst (v := 0) (zdk tbX7_without_0_ok 9 rfl) rfl ?_
    refine V_istore_n (ls' := [(0, .ref v0), (1, .int (-1 : Int32)), (2, .int (0 : Int32))]) [1, 2, 0] (zdk tbX7_without_0_ok 10 rfl) (Nat.le_of_ble_eq_true rfl) rfl ?_
    refine V_iconst (v := 0) (zdk tbX7_without_0_ok 11 rfl) rfl ?_
    refine V_istore_n (ls' := [(0, .ref v0), (1, .int (-1 : Int32)), (2, .int (0 : Int32)), (3, .int (0 : Int32))]) [1, 2, 3, 0] (zdk tbX7_without_0_ok 12 rfl) (Nat.le_of_ble_eq_true rfl) rfl ?_
    exact tX7_without_b20 FU v0 (-1 : Int32) (0 : Int32) (0 : Int32) μ c_v0 h
  · replace h := ite_t h c1
    refine V_aload_n 0 (zdk tbX7_without_0_ok 3 rfl) rfl ?_
    refine V_bipush (v := (-5)) (zdk tbX7_without_0_ok 4 rfl) rfl ?_
    obtain ⟨μ3, r4, q2, h⟩ := bd2_some h
    refine V_callV (R1 := (rmd 1)) (As := [.int (-5 : Int32)]) (r := (some (.int r4))) (zdk tbX7_without_0_ok 5 rfl) sC7_106 (tX7_no q2) (c_v0) rfl rfl rfl ⟨Nat.le_of_ble_eq_true rfl, Nat.le_of_ble_eq_true rfl⟩ (Nat.le_of_ble_eq_true rfl) ⟨rfl, rfl⟩ id ?_
    cases h
    exact V_iret (zdk tbX7_without_0_ok 6 rfl) rfl rfl

-- WhoComplainsCarriesModel.overBy
def tbX7_overBy_0 : List (Nat × Instr × Nat) := [(0, .aload_n 0, 1), (1, .getfield 7, 3), (4, .istore_n 2, 1), (5, .aload_n 0, 1), (6, .iload_n 1, 1), (7, .putfield 7, 3), (10, .aload_n 0, 1), (11, .invokevirtual 200, 3), (14, .istore_n 3, 1), (15, .aload_n 0, 1), (16, .iload_n 2, 1), (17, .putfield 7, 3), (20, .iload_n 3, 1), (21, .ireturn, 1)]
theorem tbX7_overBy_0_ok : ∀ q ∈ tbX7_overBy_0, decode cX7_overBy q.1 = .ok (q.2.1, q.2.2) := by decide +kernel
def fX7_overBy (n : Nat) (v0 : Nat) (v1 : Int32) (μ : ZMem) : Option (ZMem × Int32) := chk (isC n 7 v0) (lt (zpI μ v0 1 v1) (fun μ1 => bd2 (fX7_isOver n v0 μ1) (fun μ4 r5 => lt (zpI μ4 v0 1 (zI μ v0 1)) (fun μ6 => some (μ6, r5)))))
theorem tX7_overBy {l : Launch} {fr : Bool} {n : Nat} {v0 : Nat} {v1 : Int32} {μ : ZMem} {z : ZMem × Int32} (h : fX7_overBy n v0 v1 μ = some z) : ZFn l mX7_overBy (rmd 5) [.ref v0, .int v1] fr n μ (fr, n, z.1, some (.int z.2)) := by
  unfold fX7_overBy at h
  obtain ⟨c_v0, h⟩ := chk_some h
  refine ZFn.of (ls := [(0, .ref v0), (1, .int v1)]) (by decide) (fun ξ => Nat.le_of_ble_eq_true rfl) (fun ξ => rfl) ?_
  refine V_aload_n 0 (zdk tbX7_overBy_0_ok 0 rfl) rfl ?_
  refine V_getI (zdk tbX7_overBy_0_ok 1 rfl) c_v0 fF7_7 rfl ?_
  refine V_istore_n (ls' := [(0, .ref v0), (1, .int v1), (2, .int (zI μ v0 1))]) [1, 2, 0] (zdk tbX7_overBy_0_ok 2 rfl) (Nat.le_of_ble_eq_true rfl) rfl ?_
  refine V_aload_n 0 (zdk tbX7_overBy_0_ok 3 rfl) rfl ?_
  refine V_iload_n 1 (zdk tbX7_overBy_0_ok 4 rfl) rfl ?_
  obtain ⟨μ1, e2, h⟩ := lt_some h
  refine V_putI (zdk tbX7_overBy_0_ok 5 rfl) c_v0 fF7_7 rfl rfl rfl e2 ?_
  refine V_aload_n 0 (zdk tbX7_overBy_0_ok 6 rfl) rfl ?_
  obtain ⟨μ4, r5, q3, h⟩ := bd2_some h
  refine V_callV (R1 := (rmd 4)) (As := []) (r := (some (.int r5))) (zdk tbX7_overBy_0_ok 7 rfl) sC7_200 (tX7_isOver q3) (c_v0) rfl rfl rfl ⟨Nat.le_of_ble_eq_true rfl, Nat.le_of_ble_eq_true rfl⟩ (Nat.le_of_ble_eq_true rfl) ⟨rfl, rfl⟩ id ?_
  refine V_istore_n (ls' := [(0, .ref v0), (2, .int (zI μ v0 1)), (3, .int r5)]) [1, 3, 0] (zdk tbX7_overBy_0_ok 8 rfl) (Nat.le_of_ble_eq_true rfl) rfl ?_
  refine V_aload_n 0 (zdk tbX7_overBy_0_ok 9 rfl) rfl ?_
  refine V_iload_n 1 (zdk tbX7_overBy_0_ok 10 rfl) rfl ?_
  obtain ⟨μ6, e7, h⟩ := lt_some h
  refine V_putI (zdk tbX7_overBy_0_ok 11 rfl) c_v0 fF7_7 rfl rfl rfl e7 ?_
  refine V_iload_n 2 (zdk tbX7_overBy_0_ok 12 rfl) rfl ?_
  cases h
  exact V_iret (zdk tbX7_overBy_0_ok 13 rfl) rfl rfl

-- WhoComplainsCarriesModel.weights
def tbX7_weights_0 : List (Nat × Instr × Nat) := [(0, .iload_n 2, 1), (1, .ifCond .lt 8, 3), (4, .iload_n 2, 1), (5, .iconst 1, 1), (6, .if_icmp .le 10, 3), (9, .aload_n 0, 1), (10, .bipush (-5), 2), (12, .invokevirtual 133, 3), (15, .ireturn, 1), (16, .aload_n 0, 1), (17, .iload_n 1, 1), (18, .iconst 0, 1), (19, .sipush 200, 3), (22, .invokevirtual 122, 3), (25, .ifCond .ne 10, 3), (28, .aload_n 0, 1), (29, .bipush (-6), 2), (31, .invokevirtual 133, 3), (34, .ireturn, 1), (35, .iconst 0, 1), (36, .istore_n 3, 1), (37, .iconst (-1), 1), (38, .istore 4, 2), (40, .bipush 99, 2), (42, .istore 5, 2), (44, .iload 5, 2), (46, .iconst 1, 1), (47, .if_icmp .lt 29, 3), (50, .aload_n 0, 1), (51, .iload 5, 2), (53, .invokevirtual 239, 3), (56, .iload_n 1, 1), (57, .if_icmp .eq 6, 3), (60, .goto 10, 3), (63, .iinc 3 1, 3), (66, .iload 5, 2), (68, .istore 4, 2), (70, .iinc 5 (-1), 3), (73, .goto (-29), 3), (76, .iload_n 2, 1), (77, .ifCond .ne 7, 3), (80, .iload_n 3, 1), (81, .goto 5, 3), (84, .iload 4, 2), (86, .ireturn, 1)]
theorem tbX7_weights_0_ok : ∀ q ∈ tbX7_weights_0, decode cX7_weights q.1 = .ok (q.2.1, q.2.2) := by decide +kernel
theorem wCX7_overBy : zCW mX7_overBy 1 := ⟨zin (i := 8) (by decide +kernel) rfl, zin (i := 1175) (by decide +kernel) rfl, by decide +kernel, by decide +kernel, by decide +kernel⟩
theorem sC7_239 : zCV RX7 239 mX7_overBy 1 := ⟨zin (i := 1172) (by decide +kernel) rfl, zin (i := 1174) (by decide +kernel) rfl, zinP (i := 60) (q := (yX7_overBy, 42)) (by decide +kernel) rfl, wCX7_overBy⟩
def fX7_weights_b9 (n : Nat) (v0 : Nat) (μ : ZMem) : Option (ZMem × Int32) := bd2 (fX7_noTen n v0 (-5 : Int32) μ) (fun μ2 r3 => some (μ2, r3))
theorem tX7_weights_b9 {l : Launch} {fr : Bool} {n : Nat} {z : ZMem × Int32} (v0 : Nat) (μ : ZMem) (c_v0 : isC n 7 v0 = true) (h : fX7_weights_b9 n v0 μ = some z) : V (zkI l mX7_weights (rmd 6) fr n z) fr 9 [(0, .ref v0)] [] n μ := by
  unfold fX7_weights_b9 at h
  refine V_aload_n 0 (zdk tbX7_weights_0_ok 5 rfl) rfl ?_
  refine V_bipush (v := (-5)) (zdk tbX7_weights_0_ok 6 rfl) rfl ?_
  obtain ⟨μ2, r3, q1, h⟩ := bd2_some h
  refine V_callV (R1 := (rmd 1)) (As := [.int (-5 : Int32)]) (r := (some (.int r3))) (zdk tbX7_weights_0_ok 7 rfl) sC7_133 (tX7_noTen q1) (c_v0) rfl rfl rfl ⟨Nat.le_of_ble_eq_true rfl, Nat.le_of_ble_eq_true rfl⟩ (Nat.le_of_ble_eq_true rfl) ⟨rfl, rfl⟩ id ?_
  cases h
  exact V_iret (zdk tbX7_weights_0_ok 8 rfl) rfl rfl
def fX7_weights_b70 (g44 : Nat → Int32 → Int32 → Int32 → Int32 → Int32 → ZMem → Option (ZMem × Int32)) (n : Nat) (v0 : Nat) (v1 : Int32) (v2 : Int32) (v3 : Int32) (v4 : Int32) (v5 : Int32) (μ : ZMem) : Option (ZMem × Int32) := (g44 v0 v1 v2 v3 v4 (v5 + (-1 : Int32)) μ)
theorem tX7_weights_b70 {l : Launch} {fr : Bool} {n : Nat} {z : ZMem × Int32} {g44 : Nat → Int32 → Int32 → Int32 → Int32 → Int32 → ZMem → Option (ZMem × Int32)} (hg44 : ∀ (v0 : Nat) (v1 : Int32) (v2 : Int32) (v3 : Int32) (v4 : Int32) (v5 : Int32) (μ : ZMem), isC n 7 v0 = true → g44 v0 v1 v2 v3 v4 v5 μ = some z → V (zkI l mX7_weights (rmd 6) fr n z) fr 44 [(0, .ref v0), (1, .int v1), (2, .int v2), (3, .int v3), (4, .int v4), (5, .int v5)] [] n μ) (v0 : Nat) (v1 : Int32) (v2 : Int32) (v3 : Int32) (v4 : Int32) (v5 : Int32) (μ : ZMem) (c_v0 : isC n 7 v0 = true) (h : fX7_weights_b70 g44 n v0 v1 v2 v3 v4 v5 μ = some z) : V (zkI l mX7_weights (rmd 6) fr n z) fr 70 [(0, .ref v0), (1, .int v1), (2, .int v2), (3, .int v3), (4, .int v4), (5, .int v5)] [] n μ := by
  unfold fX7_weights_b70 at h
  refine V_inc (dx := (-1)) (ls' := [(0, .ref v0), (1, .int v1), (2, .int v2), (3, .int v3), (4, .int v4), (5, .int (v5 + (-1 : Int32)))]) 5 [1, 2, 3, 4, 5, 0] (zdk tbX7_weights_0_ok 37 rfl) rfl (Nat.le_of_ble_eq_true rfl) rfl rfl ?_
  refine V_goto (tgt := 44) (zdk tbX7_weights_0_ok 38 rfl) (by decide) ?_
  exact hg44 v0 v1 v2 v3 v4 (v5 + (-1 : Int32)) μ c_v0 h
def fX7_weights_b86 (n : Nat) (s0 : Int32) (μ : ZMem) : Option (ZMem × Int32) := some (μ, s0)
theorem tX7_weights_b86 {l : Launch} {fr : Bool} {n : Nat} {z : ZMem × Int32} (s0 : Int32) (μ : ZMem) (h : fX7_weights_b86 n s0 μ = some z) : V (zkI l mX7_weights (rmd 6) fr n z) fr 86 [] [.int s0] n μ := by
  unfold fX7_weights_b86 at h
  cases h
  exact V_iret (zdk tbX7_weights_0_ok 44 rfl) rfl rfl
def fX7_weights_b44 (n : Nat) : Nat → Nat → Int32 → Int32 → Int32 → Int32 → Int32 → ZMem → Option (ZMem × Int32)
  | 0, _, _, _, _, _, _, _ => none
  | k + 1, v0, v1, v2, v3, v4, v5, μ => (if v5 < (1 : Int32) then (if v2 = 0 then (fX7_weights_b86 n v3 μ) else (fX7_weights_b86 n v4 μ)) else bd2 (fX7_overBy n v0 v5 μ) (fun μ4 r5 => (if r5 = v1 then (fX7_weights_b70 (fX7_weights_b44 n k) n v0 v1 v2 (v3 + (1 : Int32)) v5 v5 μ4) else (fX7_weights_b70 (fX7_weights_b44 n k) n v0 v1 v2 v3 v4 v5 μ4))))
theorem tX7_weights_b44 {l : Launch} {fr : Bool} {n : Nat} {z : ZMem × Int32} : ∀ (k : Nat) (v0 : Nat) (v1 : Int32) (v2 : Int32) (v3 : Int32) (v4 : Int32) (v5 : Int32) (μ : ZMem) (c_v0 : isC n 7 v0 = true), fX7_weights_b44 n k v0 v1 v2 v3 v4 v5 μ = some z → V (zkI l mX7_weights (rmd 6) fr n z) fr 44 [(0, .ref v0), (1, .int v1), (2, .int v2), (3, .int v3), (4, .int v4), (5, .int v5)] [] n μ := by
  intro k
  induction k with
  | zero =>
    intro v0 v1 v2 v3 v4 v5 μ c_v0 h
    unfold fX7_weights_b44 at h
    cases h
  | succ k ih =>
    intro v0 v1 v2 v3 v4 v5 μ c_v0 h
    unfold fX7_weights_b44 at h
    refine V_iload 5 (zdk tbX7_weights_0_ok 25 rfl) rfl ?_
    refine V_iconst (v := 1) (zdk tbX7_weights_0_ok 26 rfl) rfl ?_
    refine V_icmp_lt (tgt := 76) (zdk tbX7_weights_0_ok 27 rfl) (by decide) (fun c1 => ?_) (fun c1 => ?_)
    · replace h := ite_t h c1
      refine V_iload_n 2 (zdk tbX7_weights_0_ok 39 rfl) rfl ?_
      refine V_if_ne (tgt := 84) (zdk tbX7_weights_0_ok 40 rfl) (by decide) (fun c2 => ?_) (fun c2 => ?_)
      · replace h := ite_f h c2
        refine V_iload 4 (zdk tbX7_weights_0_ok 43 rfl) rfl ?_
        refine V_sub (ls' := []) [] rfl ?_
        exact tX7_weights_b86 v4 μ  h
      · replace h := ite_t h c2
        refine V_iload_n 3 (zdk tbX7_weights_0_ok 41 rfl) rfl ?_
        refine V_goto (tgt := 86) (zdk tbX7_weights_0_ok 42 rfl) (by decide) ?_
        refine V_sub (ls' := []) [] rfl ?_
        exact tX7_weights_b86 v3 μ  h
    · replace h := ite_f h c1
      refine V_aload_n 0 (zdk tbX7_weights_0_ok 28 rfl) rfl ?_
      refine V_iload 5 (zdk tbX7_weights_0_ok 29 rfl) rfl ?_
      obtain ⟨μ4, r5, q3, h⟩ := bd2_some h
      refine V_callV (R1 := (rmd 5)) (As := [.int v5]) (r := (some (.int r5))) (zdk tbX7_weights_0_ok 30 rfl) sC7_239 (tX7_overBy q3) (c_v0) rfl rfl rfl ⟨Nat.le_of_ble_eq_true rfl, Nat.le_of_ble_eq_true rfl⟩ (Nat.le_of_ble_eq_true rfl) ⟨rfl, rfl⟩ id ?_
      refine V_iload_n 1 (zdk tbX7_weights_0_ok 31 rfl) rfl ?_
      refine V_icmp_eq (tgt := 63) (zdk tbX7_weights_0_ok 32 rfl) (by decide) (fun c6 => ?_) (fun c6 => ?_)
      · replace h := ite_t h c6
        refine V_inc (dx := 1) (ls' := [(0, .ref v0), (1, .int v1), (2, .int v2), (3, .int (v3 + (1 : Int32))), (5, .int v5)]) 3 [1, 2, 3, 0, 5] (zdk tbX7_weights_0_ok 34 rfl) rfl (Nat.le_of_ble_eq_true rfl) rfl rfl ?_
        refine V_iload 4 (zdk tbX7_weights_0_ok 35 rfl) rfl ?_
        refine V_istore (ls' := [(0, .ref v0), (1, .int v1), (2, .int v2), (3, .int (v3 + (1 : Int32))), (4, .int v5), (5, .int v5)]) [1, 2, 3, 4, 0, 5] (zdk tbX7_weights_0_ok 36 rfl) (Nat.le_of_ble_eq_true rfl) rfl ?_
        exact tX7_weights_b70 (fun v0 v1 v2 v3 v4 v5 μ y0 h => ih v0 v1 v2 v3 v4 v5 μ y0 h) v0 v1 v2 (v3 + (1 : Int32)) v5 v5 μ4 c_v0 h
      · replace h := ite_f h c6
        refine V_goto (tgt := 70) (zdk tbX7_weights_0_ok 33 rfl) (by decide) ?_
        exact tX7_weights_b70 (fun v0 v1 v2 v3 v4 v5 μ y0 h => ih v0 v1 v2 v3 v4 v5 μ y0 h) v0 v1 v2 v3 v4 v5 μ4 c_v0 h
def fX7_weights (n : Nat) (v0 : Nat) (v1 : Int32) (v2 : Int32) (μ : ZMem) : Option (ZMem × Int32) := chk (isC n 7 v0) ((if v2 < 0 then (fX7_weights_b9 n v0 μ) else (if v2 ≤ (1 : Int32) then bd2 (fX7_isFrom n v0 v1 (0 : Int32) (200 : Int32) μ) (fun μ4 r5 => (if r5 = 0 then bd2 (fX7_noTen n v0 (-6 : Int32) μ4) (fun μ8 r9 => some (μ8, r9)) else (fX7_weights_b44 n FU v0 v1 v2 (0 : Int32) (-1 : Int32) (99 : Int32) μ4))) else (fX7_weights_b9 n v0 μ))))
theorem tX7_weights {l : Launch} {fr : Bool} {n : Nat} {v0 : Nat} {v1 : Int32} {v2 : Int32} {μ : ZMem} {z : ZMem × Int32} (h : fX7_weights n v0 v1 v2 μ = some z) : ZFn l mX7_weights (rmd 6) [.ref v0, .int v1, .int v2] fr n μ (fr, n, z.1, some (.int z.2)) := by
  unfold fX7_weights at h
  obtain ⟨c_v0, h⟩ := chk_some h
  refine ZFn.of (ls := [(0, .ref v0), (1, .int v1), (2, .int v2)]) (by decide) (fun ξ => Nat.le_of_ble_eq_true rfl) (fun ξ => rfl) ?_
  refine V_iload_n 2 (zdk tbX7_weights_0_ok 0 rfl) rfl ?_
  refine V_if_lt (tgt := 9) (zdk tbX7_weights_0_ok 1 rfl) (by decide) (fun c1 => ?_) (fun c1 => ?_)
  · replace h := ite_t h c1
    refine V_sub (ls' := [(0, .ref v0)]) [0] rfl ?_
    exact tX7_weights_b9 v0 μ c_v0 h
  · replace h := ite_f h c1
    refine V_iload_n 2 (zdk tbX7_weights_0_ok 2 rfl) rfl ?_
    refine V_iconst (v := 1) (zdk tbX7_weights_0_ok 3 rfl) rfl ?_
    refine V_icmp_le (tgt := 16) (zdk tbX7_weights_0_ok 4 rfl) (by decide) (fun c2 => ?_) (fun c2 => ?_)
    · replace h := ite_t h c2
      refine V_aload_n 0 (zdk tbX7_weights_0_ok 9 rfl) rfl ?_
      refine V_iload_n 1 (zdk tbX7_weights_0_ok 10 rfl) rfl ?_
      refine V_iconst (v := 0) (zdk tbX7_weights_0_ok 11 rfl) rfl ?_
      refine V_sipush (v := 200) (zdk tbX7_weights_0_ok 12 rfl) rfl ?_
      obtain ⟨μ4, r5, q3, h⟩ := bd2_some h
      refine V_callV (R1 := (rmd 1)) (As := [.int v1, .int (0 : Int32), .int (200 : Int32)]) (r := (some (.int r5))) (zdk tbX7_weights_0_ok 13 rfl) sC7_122 (tX7_isFrom q3) (c_v0) rfl rfl rfl ⟨Nat.le_of_ble_eq_true rfl, Nat.le_of_ble_eq_true rfl⟩ (Nat.le_of_ble_eq_true rfl) ⟨rfl, rfl⟩ id ?_
      refine V_if_ne (tgt := 35) (zdk tbX7_weights_0_ok 14 rfl) (by decide) (fun c6 => ?_) (fun c6 => ?_)
      · replace h := ite_f h c6
        refine V_iconst (v := 0) (zdk tbX7_weights_0_ok 19 rfl) rfl ?_
        refine V_istore_n (ls' := [(0, .ref v0), (1, .int v1), (2, .int v2), (3, .int (0 : Int32))]) [1, 2, 3, 0] (zdk tbX7_weights_0_ok 20 rfl) (Nat.le_of_ble_eq_true rfl) rfl ?_
        refine V_iconst (v := (-1)) (zdk tbX7_weights_0_ok 21 rfl) rfl ?_
        refine V_istore (ls' := [(0, .ref v0), (1, .int v1), (2, .int v2), (3, .int (0 : Int32)), (4, .int (-1 : Int32))]) [1, 2, 3, 4, 0] (zdk tbX7_weights_0_ok 22 rfl) (Nat.le_of_ble_eq_true rfl) rfl ?_
        refine V_bipush (v := 99) (zdk tbX7_weights_0_ok 23 rfl) rfl ?_
        refine V_istore (ls' := [(0, .ref v0), (1, .int v1), (2, .int v2), (3, .int (0 : Int32)), (4, .int (-1 : Int32)), (5, .int (99 : Int32))]) [1, 2, 3, 4, 5, 0] (zdk tbX7_weights_0_ok 24 rfl) (Nat.le_of_ble_eq_true rfl) rfl ?_
        exact tX7_weights_b44 FU v0 v1 v2 (0 : Int32) (-1 : Int32) (99 : Int32) μ4 c_v0 h
      · replace h := ite_t h c6
        refine V_aload_n 0 (zdk tbX7_weights_0_ok 15 rfl) rfl ?_
        refine V_bipush (v := (-6)) (zdk tbX7_weights_0_ok 16 rfl) rfl ?_
        obtain ⟨μ8, r9, q7, h⟩ := bd2_some h
        refine V_callV (R1 := (rmd 1)) (As := [.int (-6 : Int32)]) (r := (some (.int r9))) (zdk tbX7_weights_0_ok 17 rfl) sC7_133 (tX7_noTen q7) (c_v0) rfl rfl rfl ⟨Nat.le_of_ble_eq_true rfl, Nat.le_of_ble_eq_true rfl⟩ (Nat.le_of_ble_eq_true rfl) ⟨rfl, rfl⟩ id ?_
        cases h
        exact V_iret (zdk tbX7_weights_0_ok 18 rfl) rfl rfl
    · replace h := ite_f h c2
      refine V_sub (ls' := [(0, .ref v0)]) [0] rfl ?_
      exact tX7_weights_b9 v0 μ c_v0 h

-- WhoComplainsCarriesModel.praise
def tbX7_praise_0 : List (Nat × Instr × Nat) := [(0, .aload_n 0, 1), (1, .iload_n 1, 1), (2, .iconst 0, 1), (3, .sipush 200, 3), (6, .invokevirtual 122, 3), (9, .ifCond .ne 10, 3), (12, .aload_n 0, 1), (13, .bipush (-6), 2), (15, .invokevirtual 133, 3), (18, .ireturn, 1), (19, .aload_n 0, 1), (20, .invokevirtual 200, 3), (23, .istore_n 2, 1), (24, .iload_n 2, 1), (25, .iconst (-1), 1), (26, .if_icmp .eq 8, 3), (29, .iload_n 2, 1), (30, .iload_n 1, 1), (31, .if_icmp .le 5, 3), (34, .iconst (-1), 1), (35, .ireturn, 1), (36, .aload_n 0, 1), (37, .getfield 7, 3), (40, .iconst 1, 1), (41, .iadd, 1), (42, .istore_n 3, 1), (43, .iload_n 3, 1), (44, .bipush 99, 2), (46, .if_icmp .gt 35, 3), (49, .aload_n 0, 1), (50, .iload_n 3, 1), (51, .invokevirtual 239, 3), (54, .istore 4, 2), (56, .iload 4, 2), (58, .iconst (-1), 1), (59, .if_icmp .eq 9, 3), (62, .iload 4, 2), (64, .iload_n 1, 1), (65, .if_icmp .le 10, 3), (68, .iload_n 3, 1), (69, .aload_n 0, 1), (70, .getfield 7, 3), (73, .isub, 1), (74, .ireturn, 1), (75, .iinc 3 1, 3), (78, .goto (-35), 3), (81, .iconst (-1), 1), (82, .ireturn, 1)]
theorem tbX7_praise_0_ok : ∀ q ∈ tbX7_praise_0, decode cX7_praise q.1 = .ok (q.2.1, q.2.2) := by decide +kernel
def fX7_praise_b34 (n : Nat) (μ : ZMem) : Option (ZMem × Int32) := some (μ, (-1 : Int32))
theorem tX7_praise_b34 {l : Launch} {fr : Bool} {n : Nat} {z : ZMem × Int32} (μ : ZMem) (h : fX7_praise_b34 n μ = some z) : V (zkI l mX7_praise (rmd 6) fr n z) fr 34 [] [] n μ := by
  unfold fX7_praise_b34 at h
  refine V_iconst (v := (-1)) (zdk tbX7_praise_0_ok 19 rfl) rfl ?_
  cases h
  exact V_iret (zdk tbX7_praise_0_ok 20 rfl) rfl rfl
def fX7_praise_b68 (n : Nat) (v0 : Nat) (v3 : Int32) (μ : ZMem) : Option (ZMem × Int32) := some (μ, (v3 - (zI μ v0 1)))
theorem tX7_praise_b68 {l : Launch} {fr : Bool} {n : Nat} {z : ZMem × Int32} (v0 : Nat) (v3 : Int32) (μ : ZMem) (c_v0 : isC n 7 v0 = true) (h : fX7_praise_b68 n v0 v3 μ = some z) : V (zkI l mX7_praise (rmd 6) fr n z) fr 68 [(0, .ref v0), (3, .int v3)] [] n μ := by
  unfold fX7_praise_b68 at h
  refine V_iload_n 1 (zdk tbX7_praise_0_ok 39 rfl) rfl ?_
  refine V_aload_n 0 (zdk tbX7_praise_0_ok 40 rfl) rfl ?_
  refine V_getI (zdk tbX7_praise_0_ok 41 rfl) c_v0 fF7_7 rfl ?_
  refine V_isub (zdk tbX7_praise_0_ok 42 rfl) ?_
  cases h
  exact V_iret (zdk tbX7_praise_0_ok 43 rfl) rfl rfl
def fX7_praise_b43 (n : Nat) : Nat → Nat → Int32 → Int32 → ZMem → Option (ZMem × Int32)
  | 0, _, _, _, _ => none
  | k + 1, v0, v1, v3, μ => (if (99 : Int32) < v3 then some (μ, (-1 : Int32)) else bd2 (fX7_overBy n v0 v3 μ) (fun μ3 r4 => (if r4 = (-1 : Int32) then (fX7_praise_b68 n v0 v3 μ3) else (if r4 ≤ v1 then (fX7_praise_b43 n k v0 v1 (v3 + (1 : Int32)) μ3) else (fX7_praise_b68 n v0 v3 μ3)))))
theorem tX7_praise_b43 {l : Launch} {fr : Bool} {n : Nat} {z : ZMem × Int32} : ∀ (k : Nat) (v0 : Nat) (v1 : Int32) (v3 : Int32) (μ : ZMem) (c_v0 : isC n 7 v0 = true), fX7_praise_b43 n k v0 v1 v3 μ = some z → V (zkI l mX7_praise (rmd 6) fr n z) fr 43 [(0, .ref v0), (1, .int v1), (3, .int v3)] [] n μ := by
  intro k
  induction k with
  | zero =>
    intro v0 v1 v3 μ c_v0 h
    unfold fX7_praise_b43 at h
    cases h
  | succ k ih =>
    intro v0 v1 v3 μ c_v0 h
    unfold fX7_praise_b43 at h
    refine V_iload_n 2 (zdk tbX7_praise_0_ok 26 rfl) rfl ?_
    refine V_bipush (v := 99) (zdk tbX7_praise_0_ok 27 rfl) rfl ?_
    refine V_icmp_gt (tgt := 81) (zdk tbX7_praise_0_ok 28 rfl) (by decide) (fun c1 => ?_) (fun c1 => ?_)
    · replace h := ite_t h c1
      refine V_iconst (v := (-1)) (zdk tbX7_praise_0_ok 46 rfl) rfl ?_
      cases h
      exact V_iret (zdk tbX7_praise_0_ok 47 rfl) rfl rfl
    · replace h := ite_f h c1
      refine V_aload_n 0 (zdk tbX7_praise_0_ok 29 rfl) rfl ?_
      refine V_iload_n 2 (zdk tbX7_praise_0_ok 30 rfl) rfl ?_
      obtain ⟨μ3, r4, q2, h⟩ := bd2_some h
      refine V_callV (R1 := (rmd 5)) (As := [.int v3]) (r := (some (.int r4))) (zdk tbX7_praise_0_ok 31 rfl) sC7_239 (tX7_overBy q2) (c_v0) rfl rfl rfl ⟨Nat.le_of_ble_eq_true rfl, Nat.le_of_ble_eq_true rfl⟩ (Nat.le_of_ble_eq_true rfl) ⟨rfl, rfl⟩ id ?_
      refine V_istore (ls' := [(0, .ref v0), (1, .int v1), (3, .int v3), (4, .int r4)]) [1, 2, 3, 0] (zdk tbX7_praise_0_ok 32 rfl) (Nat.le_of_ble_eq_true rfl) rfl ?_
      refine V_iload 3 (zdk tbX7_praise_0_ok 33 rfl) rfl ?_
      refine V_iconst (v := (-1)) (zdk tbX7_praise_0_ok 34 rfl) rfl ?_
      refine V_icmp_eq (tgt := 68) (zdk tbX7_praise_0_ok 35 rfl) (by decide) (fun c5 => ?_) (fun c5 => ?_)
      · replace h := ite_t h c5
        refine V_sub (ls' := [(0, .ref v0), (3, .int v3)]) [0, 2] rfl ?_
        exact tX7_praise_b68 v0 v3 μ3 c_v0 h
      · replace h := ite_f h c5
        refine V_iload 3 (zdk tbX7_praise_0_ok 36 rfl) rfl ?_
        refine V_iload_n 1 (zdk tbX7_praise_0_ok 37 rfl) rfl ?_
        refine V_icmp_le (tgt := 75) (zdk tbX7_praise_0_ok 38 rfl) (by decide) (fun c6 => ?_) (fun c6 => ?_)
        · replace h := ite_t h c6
          refine V_inc (dx := 1) (ls' := [(0, .ref v0), (1, .int v1), (3, .int (v3 + (1 : Int32)))]) 2 [1, 2, 0] (zdk tbX7_praise_0_ok 44 rfl) rfl (Nat.le_of_ble_eq_true rfl) rfl rfl ?_
          refine V_goto (tgt := 43) (zdk tbX7_praise_0_ok 45 rfl) (by decide) ?_
          exact ih v0 v1 (v3 + (1 : Int32)) μ3 c_v0 h
        · replace h := ite_f h c6
          refine V_sub (ls' := [(0, .ref v0), (3, .int v3)]) [0, 2] rfl ?_
          exact tX7_praise_b68 v0 v3 μ3 c_v0 h
def fX7_praise (n : Nat) (v0 : Nat) (v1 : Int32) (μ : ZMem) : Option (ZMem × Int32) := chk (isC n 7 v0) (bd2 (fX7_isFrom n v0 v1 (0 : Int32) (200 : Int32) μ) (fun μ2 r3 => (if r3 = 0 then bd2 (fX7_noTen n v0 (-6 : Int32) μ2) (fun μ11 r12 => some (μ11, r12)) else bd2 (fX7_isOver n v0 μ2) (fun μ6 r7 => (if r7 = (-1 : Int32) then (fX7_praise_b34 n  μ6) else (if r7 ≤ v1 then (fX7_praise_b43 n FU v0 v1 ((zI μ6 v0 1) + (1 : Int32)) μ6) else (fX7_praise_b34 n  μ6)))))))
theorem tX7_praise {l : Launch} {fr : Bool} {n : Nat} {v0 : Nat} {v1 : Int32} {μ : ZMem} {z : ZMem × Int32} (h : fX7_praise n v0 v1 μ = some z) : ZFn l mX7_praise (rmd 6) [.ref v0, .int v1] fr n μ (fr, n, z.1, some (.int z.2)) := by
  unfold fX7_praise at h
  obtain ⟨c_v0, h⟩ := chk_some h
  refine ZFn.of (ls := [(0, .ref v0), (1, .int v1)]) (by decide) (fun ξ => Nat.le_of_ble_eq_true rfl) (fun ξ => rfl) ?_
  refine V_aload_n 0 (zdk tbX7_praise_0_ok 0 rfl) rfl ?_
  refine V_iload_n 1 (zdk tbX7_praise_0_ok 1 rfl) rfl ?_
  refine V_iconst (v := 0) (zdk tbX7_praise_0_ok 2 rfl) rfl ?_
  refine V_sipush (v := 200) (zdk tbX7_praise_0_ok 3 rfl) rfl ?_
  obtain ⟨μ2, r3, q1, h⟩ := bd2_some h
  refine V_callV (R1 := (rmd 1)) (As := [.int v1, .int (0 : Int32), .int (200 : Int32)]) (r := (some (.int r3))) (zdk tbX7_praise_0_ok 4 rfl) sC7_122 (tX7_isFrom q1) (c_v0) rfl rfl rfl ⟨Nat.le_of_ble_eq_true rfl, Nat.le_of_ble_eq_true rfl⟩ (Nat.le_of_ble_eq_true rfl) ⟨rfl, rfl⟩ id ?_
  refine V_if_ne (tgt := 19) (zdk tbX7_praise_0_ok 5 rfl) (by decide) (fun c4 => ?_) (fun c4 => ?_)
  · replace h := ite_f h c4
    refine V_aload_n 0 (zdk tbX7_praise_0_ok 10 rfl) rfl ?_
    obtain ⟨μ6, r7, q5, h⟩ := bd2_some h
    refine V_callV (R1 := (rmd 4)) (As := []) (r := (some (.int r7))) (zdk tbX7_praise_0_ok 11 rfl) sC7_200 (tX7_isOver q5) (c_v0) rfl rfl rfl ⟨Nat.le_of_ble_eq_true rfl, Nat.le_of_ble_eq_true rfl⟩ (Nat.le_of_ble_eq_true rfl) ⟨rfl, rfl⟩ id ?_
    refine V_istore_n (ls' := [(0, .ref v0), (1, .int v1), (2, .int r7)]) [1, 2, 0] (zdk tbX7_praise_0_ok 12 rfl) (Nat.le_of_ble_eq_true rfl) rfl ?_
    refine V_iload_n 2 (zdk tbX7_praise_0_ok 13 rfl) rfl ?_
    refine V_iconst (v := (-1)) (zdk tbX7_praise_0_ok 14 rfl) rfl ?_
    refine V_icmp_eq (tgt := 34) (zdk tbX7_praise_0_ok 15 rfl) (by decide) (fun c8 => ?_) (fun c8 => ?_)
    · replace h := ite_t h c8
      refine V_sub (ls' := []) [] rfl ?_
      exact tX7_praise_b34  μ6  h
    · replace h := ite_f h c8
      refine V_iload_n 2 (zdk tbX7_praise_0_ok 16 rfl) rfl ?_
      refine V_iload_n 1 (zdk tbX7_praise_0_ok 17 rfl) rfl ?_
      refine V_icmp_le (tgt := 36) (zdk tbX7_praise_0_ok 18 rfl) (by decide) (fun c9 => ?_) (fun c9 => ?_)
      · replace h := ite_t h c9
        refine V_aload_n 0 (zdk tbX7_praise_0_ok 21 rfl) rfl ?_
        refine V_getI (zdk tbX7_praise_0_ok 22 rfl) c_v0 fF7_7 rfl ?_
        refine V_iconst (v := 1) (zdk tbX7_praise_0_ok 23 rfl) rfl ?_
        refine V_iadd (zdk tbX7_praise_0_ok 24 rfl) ?_
        refine V_istore_n (ls' := [(0, .ref v0), (1, .int v1), (3, .int ((zI μ6 v0 1) + (1 : Int32)))]) [1, 2, 0] (zdk tbX7_praise_0_ok 25 rfl) (Nat.le_of_ble_eq_true rfl) rfl ?_
        exact tX7_praise_b43 FU v0 v1 ((zI μ6 v0 1) + (1 : Int32)) μ6 c_v0 h
      · replace h := ite_f h c9
        refine V_sub (ls' := []) [] rfl ?_
        exact tX7_praise_b34  μ6  h
  · replace h := ite_t h c4
    refine V_aload_n 0 (zdk tbX7_praise_0_ok 6 rfl) rfl ?_
    refine V_bipush (v := (-6)) (zdk tbX7_praise_0_ok 7 rfl) rfl ?_
    obtain ⟨μ11, r12, q10, h⟩ := bd2_some h
    refine V_callV (R1 := (rmd 1)) (As := [.int (-6 : Int32)]) (r := (some (.int r12))) (zdk tbX7_praise_0_ok 8 rfl) sC7_133 (tX7_noTen q10) (c_v0) rfl rfl rfl ⟨Nat.le_of_ble_eq_true rfl, Nat.le_of_ble_eq_true rfl⟩ (Nat.le_of_ble_eq_true rfl) ⟨rfl, rfl⟩ id ?_
    cases h
    exact V_iret (zdk tbX7_praise_0_ok 9 rfl) rfl rfl

-- WhoComplainsCarriesModel.speaks
def tbX7_speaks_0 : List (Nat × Instr × Nat) := [(0, .iload_n 2, 1), (1, .iconst 5, 1), (2, .if_icmp .ne 64, 3), (5, .iload_n 1, 1), (6, .aload_n 0, 1), (7, .getfield 16, 3), (10, .if_icmp .eq 11, 3), (13, .aload_n 0, 1), (14, .iload_n 1, 1), (15, .putfield 16, 3), (18, .goto 47, 3), (21, .aload_n 0, 1), (22, .getfield 7, 3), (25, .aload_n 0, 1), (26, .getfield 38, 3), (29, .iload_n 1, 1), (30, .iaload, 1), (31, .if_icmp .gt 11, 3), (34, .aload_n 0, 1), (35, .iconst (-1), 1), (36, .putfield 16, 3), (39, .goto 26, 3), (42, .aload_n 0, 1), (43, .dup, 1), (44, .getfield 7, 3), (47, .aload_n 0, 1), (48, .getfield 7, 3), (51, .bipush 99, 2), (53, .if_icmp .ge 7, 3), (56, .iconst 1, 1), (57, .goto 4, 3), (60, .iconst 0, 1), (61, .iadd, 1), (62, .putfield 7, 3), (65, .return_, 1), (66, .aload_n 0, 1), (67, .getfield 19, 3), (70, .iload_n 2, 1), (71, .ishr, 1), (72, .iconst 1, 1), (73, .iand, 1), (74, .iconst 1, 1), (75, .if_icmp .ne 8, 3), (78, .aload_n 0, 1), (79, .iload_n 1, 1), (80, .putfield 16, 3), (83, .iload_n 2, 1), (84, .iconst 1, 1), (85, .if_icmp .ne 22, 3), (88, .aload_n 0, 1)]
theorem tbX7_speaks_0_ok : ∀ q ∈ tbX7_speaks_0, decode cX7_speaks q.1 = .ok (q.2.1, q.2.2) := by decide +kernel
def tbX7_speaks_1 : List (Nat × Instr × Nat) := [(89, .getfield 7, 3), (92, .bipush 99, 2), (94, .if_icmp .ge 13, 3), (97, .aload_n 0, 1), (98, .dup, 1), (99, .getfield 7, 3), (102, .iconst 1, 1), (103, .iadd, 1), (104, .putfield 7, 3), (107, .return_, 1)]
theorem tbX7_speaks_1_ok : ∀ q ∈ tbX7_speaks_1, decode cX7_speaks q.1 = .ok (q.2.1, q.2.2) := by decide +kernel
def fX7_speaks_b65 (n : Nat) (μ : ZMem) : Option (ZMem) := some μ
theorem tX7_speaks_b65 {l : Launch} {fr : Bool} {n : Nat} {z : ZMem} (μ : ZMem) (h : fX7_speaks_b65 n μ = some z) : V (zkV l mX7_speaks (rmd 1) fr n z) fr 65 [] [] n μ := by
  unfold fX7_speaks_b65 at h
  cases h
  exact V_vret (zdk tbX7_speaks_0_ok 34 rfl) rfl rfl
def fX7_speaks_b61 (n : Nat) (s0 : Nat) (s1 : Int32) (s2 : Int32) (μ : ZMem) : Option (ZMem) := lt (zpI μ s0 1 (s1 + s2)) (fun μ1 => (fX7_speaks_b65 n  μ1))
theorem tX7_speaks_b61 {l : Launch} {fr : Bool} {n : Nat} {z : ZMem} (s0 : Nat) (s1 : Int32) (s2 : Int32) (μ : ZMem) (c_s0 : isC n 7 s0 = true) (h : fX7_speaks_b61 n s0 s1 s2 μ = some z) : V (zkV l mX7_speaks (rmd 1) fr n z) fr 61 [] [.int s2, .int s1, .ref s0] n μ := by
  unfold fX7_speaks_b61 at h
  refine V_iadd (zdk tbX7_speaks_0_ok 32 rfl) ?_
  obtain ⟨μ1, e2, h⟩ := lt_some h
  refine V_putI (zdk tbX7_speaks_0_ok 33 rfl) c_s0 fF7_7 rfl rfl rfl e2 ?_
  exact tX7_speaks_b65  μ1  h
def fX7_speaks_b107 (n : Nat) (μ : ZMem) : Option (ZMem) := some μ
theorem tX7_speaks_b107 {l : Launch} {fr : Bool} {n : Nat} {z : ZMem} (μ : ZMem) (h : fX7_speaks_b107 n μ = some z) : V (zkV l mX7_speaks (rmd 1) fr n z) fr 107 [] [] n μ := by
  unfold fX7_speaks_b107 at h
  cases h
  exact V_vret (zdk tbX7_speaks_1_ok 9 rfl) rfl rfl
def fX7_speaks_b83 (n : Nat) (v0 : Nat) (v2 : Int32) (μ : ZMem) : Option (ZMem) := (if v2 = (1 : Int32) then (if (99 : Int32) ≤ (zI μ v0 1) then (fX7_speaks_b107 n  μ) else lt (zpI μ v0 1 ((zI μ v0 1) + (1 : Int32))) (fun μ3 => (fX7_speaks_b107 n  μ3))) else (fX7_speaks_b107 n  μ))
theorem tX7_speaks_b83 {l : Launch} {fr : Bool} {n : Nat} {z : ZMem} (v0 : Nat) (v2 : Int32) (μ : ZMem) (c_v0 : isC n 7 v0 = true) (h : fX7_speaks_b83 n v0 v2 μ = some z) : V (zkV l mX7_speaks (rmd 1) fr n z) fr 83 [(0, .ref v0), (2, .int v2)] [] n μ := by
  unfold fX7_speaks_b83 at h
  refine V_iload_n 1 (zdk tbX7_speaks_0_ok 46 rfl) rfl ?_
  refine V_iconst (v := 1) (zdk tbX7_speaks_0_ok 47 rfl) rfl ?_
  refine V_icmp_ne (tgt := 107) (zdk tbX7_speaks_0_ok 48 rfl) (by decide) (fun c1 => ?_) (fun c1 => ?_)
  · replace h := ite_f h c1
    refine V_sub (ls' := []) [] rfl ?_
    exact tX7_speaks_b107  μ  h
  · replace h := ite_t h c1
    refine V_aload_n 0 (zdk tbX7_speaks_0_ok 49 rfl) rfl ?_
    refine V_getI (zdk tbX7_speaks_1_ok 0 rfl) c_v0 fF7_7 rfl ?_
    refine V_bipush (v := 99) (zdk tbX7_speaks_1_ok 1 rfl) rfl ?_
    refine V_icmp_ge (tgt := 107) (zdk tbX7_speaks_1_ok 2 rfl) (by decide) (fun c2 => ?_) (fun c2 => ?_)
    · replace h := ite_t h c2
      refine V_sub (ls' := []) [] rfl ?_
      exact tX7_speaks_b107  μ  h
    · replace h := ite_f h c2
      refine V_aload_n 0 (zdk tbX7_speaks_1_ok 3 rfl) rfl ?_
      refine V_dup_r (zdk tbX7_speaks_1_ok 4 rfl) ?_
      refine V_getI (zdk tbX7_speaks_1_ok 5 rfl) c_v0 fF7_7 rfl ?_
      refine V_iconst (v := 1) (zdk tbX7_speaks_1_ok 6 rfl) rfl ?_
      refine V_iadd (zdk tbX7_speaks_1_ok 7 rfl) ?_
      obtain ⟨μ3, e4, h⟩ := lt_some h
      refine V_putI (zdk tbX7_speaks_1_ok 8 rfl) c_v0 fF7_7 rfl rfl rfl e4 ?_
      refine V_sub (ls' := []) [] rfl ?_
      exact tX7_speaks_b107  μ3  h
def fX7_speaks (n : Nat) (v0 : Nat) (v1 : Int32) (v2 : Int32) (μ : ZMem) : Option (ZMem) := chk (isC n 7 v0) ((if v2 = (5 : Int32) then (if v1 = (zI μ v0 4) then bd1 (zRc n 100 μ v0 12) (fun r6 => chk (inb v1 r6) ((if (zI μ r6 v1.toNatClampNeg) < (zI μ v0 1) then (if (99 : Int32) ≤ (zI μ v0 1) then (fX7_speaks_b61 n v0 (zI μ v0 1) (0 : Int32) μ) else (fX7_speaks_b61 n v0 (zI μ v0 1) (1 : Int32) μ)) else lt (zpI μ v0 4 (-1 : Int32)) (fun μ11 => (fX7_speaks_b65 n  μ11))))) else lt (zpI μ v0 4 v1) (fun μ13 => (fX7_speaks_b65 n  μ13))) else (if (((zI μ v0 6) >>> (v2 &&& 31)) &&& (1 : Int32)) = (1 : Int32) then lt (zpI μ v0 4 v1) (fun μ3 => (fX7_speaks_b83 n v0 v2 μ3)) else (fX7_speaks_b83 n v0 v2 μ))))
theorem tX7_speaks {l : Launch} {fr : Bool} {n : Nat} {v0 : Nat} {v1 : Int32} {v2 : Int32} {μ : ZMem} {z : ZMem} (h : fX7_speaks n v0 v1 v2 μ = some z) : ZFn l mX7_speaks (rmd 1) [.ref v0, .int v1, .int v2] fr n μ (fr, n, z, none) := by
  unfold fX7_speaks at h
  obtain ⟨c_v0, h⟩ := chk_some h
  refine ZFn.of (ls := [(0, .ref v0), (1, .int v1), (2, .int v2)]) (by decide) (fun ξ => Nat.le_of_ble_eq_true rfl) (fun ξ => rfl) ?_
  refine V_iload_n 2 (zdk tbX7_speaks_0_ok 0 rfl) rfl ?_
  refine V_iconst (v := 5) (zdk tbX7_speaks_0_ok 1 rfl) rfl ?_
  refine V_icmp_ne (tgt := 66) (zdk tbX7_speaks_0_ok 2 rfl) (by decide) (fun c1 => ?_) (fun c1 => ?_)
  · replace h := ite_f h c1
    refine V_aload_n 0 (zdk tbX7_speaks_0_ok 35 rfl) rfl ?_
    refine V_getI (zdk tbX7_speaks_0_ok 36 rfl) c_v0 fF7_19 rfl ?_
    refine V_iload_n 2 (zdk tbX7_speaks_0_ok 37 rfl) rfl ?_
    refine V_ishr (zdk tbX7_speaks_0_ok 38 rfl) ?_
    refine V_iconst (v := 1) (zdk tbX7_speaks_0_ok 39 rfl) rfl ?_
    refine V_iand (zdk tbX7_speaks_0_ok 40 rfl) ?_
    refine V_iconst (v := 1) (zdk tbX7_speaks_0_ok 41 rfl) rfl ?_
    refine V_icmp_ne (tgt := 83) (zdk tbX7_speaks_0_ok 42 rfl) (by decide) (fun c2 => ?_) (fun c2 => ?_)
    · replace h := ite_f h c2
      refine V_sub (ls' := [(0, .ref v0), (2, .int v2)]) [0, 2] rfl ?_
      exact tX7_speaks_b83 v0 v2 μ c_v0 h
    · replace h := ite_t h c2
      refine V_aload_n 0 (zdk tbX7_speaks_0_ok 43 rfl) rfl ?_
      refine V_iload_n 1 (zdk tbX7_speaks_0_ok 44 rfl) rfl ?_
      obtain ⟨μ3, e4, h⟩ := lt_some h
      refine V_putI (zdk tbX7_speaks_0_ok 45 rfl) c_v0 fF7_16 rfl rfl rfl e4 ?_
      refine V_sub (ls' := [(0, .ref v0), (2, .int v2)]) [0, 2] rfl ?_
      exact tX7_speaks_b83 v0 v2 μ3 c_v0 h
  · replace h := ite_t h c1
    refine V_iload_n 1 (zdk tbX7_speaks_0_ok 3 rfl) rfl ?_
    refine V_aload_n 0 (zdk tbX7_speaks_0_ok 4 rfl) rfl ?_
    refine V_getI (zdk tbX7_speaks_0_ok 5 rfl) c_v0 fF7_16 rfl ?_
    refine V_icmp_eq (tgt := 21) (zdk tbX7_speaks_0_ok 6 rfl) (by decide) (fun c5 => ?_) (fun c5 => ?_)
    · replace h := ite_t h c5
      refine V_aload_n 0 (zdk tbX7_speaks_0_ok 11 rfl) rfl ?_
      refine V_getI (zdk tbX7_speaks_0_ok 12 rfl) c_v0 fF7_7 rfl ?_
      refine V_aload_n 0 (zdk tbX7_speaks_0_ok 13 rfl) rfl ?_
      obtain ⟨r6, q7, h⟩ := bd1_some h
      obtain ⟨q7, c_r6⟩ := zRc_some q7
      refine V_getR (zdk tbX7_speaks_0_ok 14 rfl) c_v0 fF7_38 rfl q7 ?_
      refine V_iload_n 1 (zdk tbX7_speaks_0_ok 15 rfl) rfl ?_
      obtain ⟨b8, h⟩ := chk_some h
      refine V_iald (zdk tbX7_speaks_0_ok 16 rfl) c_r6 b8 ?_
      refine V_icmp_gt (tgt := 42) (zdk tbX7_speaks_0_ok 17 rfl) (by decide) (fun c9 => ?_) (fun c9 => ?_)
      · replace h := ite_t h c9
        refine V_aload_n 0 (zdk tbX7_speaks_0_ok 22 rfl) rfl ?_
        refine V_dup_r (zdk tbX7_speaks_0_ok 23 rfl) ?_
        refine V_getI (zdk tbX7_speaks_0_ok 24 rfl) c_v0 fF7_7 rfl ?_
        refine V_aload_n 0 (zdk tbX7_speaks_0_ok 25 rfl) rfl ?_
        refine V_getI (zdk tbX7_speaks_0_ok 26 rfl) c_v0 fF7_7 rfl ?_
        refine V_bipush (v := 99) (zdk tbX7_speaks_0_ok 27 rfl) rfl ?_
        refine V_icmp_ge (tgt := 60) (zdk tbX7_speaks_0_ok 28 rfl) (by decide) (fun c10 => ?_) (fun c10 => ?_)
        · replace h := ite_t h c10
          refine V_iconst (v := 0) (zdk tbX7_speaks_0_ok 31 rfl) rfl ?_
          refine V_sub (ls' := []) [] rfl ?_
          exact tX7_speaks_b61 v0 (zI μ v0 1) (0 : Int32) μ c_v0 h
        · replace h := ite_f h c10
          refine V_iconst (v := 1) (zdk tbX7_speaks_0_ok 29 rfl) rfl ?_
          refine V_goto (tgt := 61) (zdk tbX7_speaks_0_ok 30 rfl) (by decide) ?_
          refine V_sub (ls' := []) [] rfl ?_
          exact tX7_speaks_b61 v0 (zI μ v0 1) (1 : Int32) μ c_v0 h
      · replace h := ite_f h c9
        refine V_aload_n 0 (zdk tbX7_speaks_0_ok 18 rfl) rfl ?_
        refine V_iconst (v := (-1)) (zdk tbX7_speaks_0_ok 19 rfl) rfl ?_
        obtain ⟨μ11, e12, h⟩ := lt_some h
        refine V_putI (zdk tbX7_speaks_0_ok 20 rfl) c_v0 fF7_16 rfl rfl rfl e12 ?_
        refine V_goto (tgt := 65) (zdk tbX7_speaks_0_ok 21 rfl) (by decide) ?_
        refine V_sub (ls' := []) [] rfl ?_
        exact tX7_speaks_b65  μ11  h
    · replace h := ite_f h c5
      refine V_aload_n 0 (zdk tbX7_speaks_0_ok 7 rfl) rfl ?_
      refine V_iload_n 1 (zdk tbX7_speaks_0_ok 8 rfl) rfl ?_
      obtain ⟨μ13, e14, h⟩ := lt_some h
      refine V_putI (zdk tbX7_speaks_0_ok 9 rfl) c_v0 fF7_16 rfl rfl rfl e14 ?_
      refine V_goto (tgt := 65) (zdk tbX7_speaks_0_ok 10 rfl) (by decide) ?_
      refine V_sub (ls' := []) [] rfl ?_
      exact tX7_speaks_b65  μ13  h

-- WhoComplainsCarriesModel.talks
def tbX7_talks_0 : List (Nat × Instr × Nat) := [(0, .iconst 0, 1), (1, .istore_n 3, 1), (2, .iload_n 3, 1), (3, .iload_n 2, 1), (4, .if_icmp .ge 64, 3), (7, .aload_n 0, 1), (8, .iload_n 1, 1), (9, .iload_n 3, 1), (10, .invokevirtual 216, 3), (13, .istore 4, 2), (15, .iload 4, 2), (17, .ifCond .lt 24, 3), (20, .iload 4, 2), (22, .bipush 10, 2), (24, .idiv, 1), (25, .aload_n 0, 1), (26, .getfield 99, 3), (29, .if_icmp .ge 12, 3), (32, .iload 4, 2), (34, .bipush 10, 2), (36, .irem, 1), (37, .iconst 5, 1), (38, .if_icmp .le 5, 3), (41, .iload_n 3, 1), (42, .ireturn, 1), (43, .aload_n 0, 1), (44, .iload 4, 2), (46, .bipush 10, 2), (48, .idiv, 1), (49, .iload 4, 2), (51, .bipush 10, 2), (53, .irem, 1), (54, .invokevirtual 242, 3), (57, .aload_n 0, 1), (58, .iconst 0, 1), (59, .invokevirtual 196, 3), (62, .iinc 3 1, 3), (65, .goto (-63), 3), (68, .iconst (-1), 1), (69, .ireturn, 1)]
theorem tbX7_talks_0_ok : ∀ q ∈ tbX7_talks_0, decode cX7_talks q.1 = .ok (q.2.1, q.2.2) := by decide +kernel
theorem wCX7_speaks : zCW mX7_speaks 2 := ⟨zin (i := 8) (by decide +kernel) rfl, zin (i := 1195) (by decide +kernel) rfl, by decide +kernel, by decide +kernel, by decide +kernel⟩
theorem sC7_242 : zCV RX7 242 mX7_speaks 2 := ⟨zin (i := 1192) (by decide +kernel) rfl, zin (i := 1194) (by decide +kernel) rfl, zinP (i := 63) (q := (yX7_speaks, 42)) (by decide +kernel) rfl, wCX7_speaks⟩
def fX7_talks_b41 (n : Nat) (v3 : Int32) (μ : ZMem) : Option (ZMem × Int32) := some (μ, v3)
theorem tX7_talks_b41 {l : Launch} {fr : Bool} {n : Nat} {z : ZMem × Int32} (v3 : Int32) (μ : ZMem) (h : fX7_talks_b41 n v3 μ = some z) : V (zkI l mX7_talks (rmd 4) fr n z) fr 41 [(3, .int v3)] [] n μ := by
  unfold fX7_talks_b41 at h
  refine V_iload_n 0 (zdk tbX7_talks_0_ok 23 rfl) rfl ?_
  cases h
  exact V_iret (zdk tbX7_talks_0_ok 24 rfl) rfl rfl
def fX7_talks_b2 (n : Nat) : Nat → Nat → Int32 → Int32 → Int32 → ZMem → Option (ZMem × Int32)
  | 0, _, _, _, _, _ => none
  | k + 1, v0, v1, v2, v3, μ => (if v2 ≤ v3 then some (μ, (-1 : Int32)) else bd2 (fX7_intAt n v0 v1 v3 μ) (fun μ3 r4 => (if r4 < 0 then (fX7_talks_b41 n v3 μ3) else (if (zI μ3 v0 0) ≤ (r4 / (10 : Int32)) then (fX7_talks_b41 n v3 μ3) else (if (r4 - r4 / (10 : Int32) * (10 : Int32)) ≤ (5 : Int32) then bd1 (fX7_speaks n v0 (r4 / (10 : Int32)) (r4 - r4 / (10 : Int32) * (10 : Int32)) μ3) (fun μ13 => bd1 (fX7_step n v0 (0 : Int32) μ13) (fun μ15 => (fX7_talks_b2 n k v0 v1 v2 (v3 + (1 : Int32)) μ15))) else (fX7_talks_b41 n v3 μ3))))))
theorem tX7_talks_b2 {l : Launch} {fr : Bool} {n : Nat} {z : ZMem × Int32} : ∀ (k : Nat) (v0 : Nat) (v1 : Int32) (v2 : Int32) (v3 : Int32) (μ : ZMem) (c_v0 : isC n 7 v0 = true), fX7_talks_b2 n k v0 v1 v2 v3 μ = some z → V (zkI l mX7_talks (rmd 4) fr n z) fr 2 [(0, .ref v0), (1, .int v1), (2, .int v2), (3, .int v3)] [] n μ := by
  intro k
  induction k with
  | zero =>
    intro v0 v1 v2 v3 μ c_v0 h
    unfold fX7_talks_b2 at h
    cases h
  | succ k ih =>
    intro v0 v1 v2 v3 μ c_v0 h
    unfold fX7_talks_b2 at h
    refine V_iload_n 3 (zdk tbX7_talks_0_ok 2 rfl) rfl ?_
    refine V_iload_n 2 (zdk tbX7_talks_0_ok 3 rfl) rfl ?_
    refine V_icmp_ge (tgt := 68) (zdk tbX7_talks_0_ok 4 rfl) (by decide) (fun c1 => ?_) (fun c1 => ?_)
    · replace h := ite_t h c1
      refine V_iconst (v := (-1)) (zdk tbX7_talks_0_ok 38 rfl) rfl ?_
      cases h
      exact V_iret (zdk tbX7_talks_0_ok 39 rfl) rfl rfl
    · replace h := ite_f h c1
      refine V_aload_n 0 (zdk tbX7_talks_0_ok 5 rfl) rfl ?_
      refine V_iload_n 1 (zdk tbX7_talks_0_ok 6 rfl) rfl ?_
      refine V_iload_n 3 (zdk tbX7_talks_0_ok 7 rfl) rfl ?_
      obtain ⟨μ3, r4, q2, h⟩ := bd2_some h
      refine V_callV (R1 := (rmd 1)) (As := [.int v1, .int v3]) (r := (some (.int r4))) (zdk tbX7_talks_0_ok 8 rfl) sC7_216 (tX7_intAt q2) (c_v0) rfl rfl rfl ⟨Nat.le_of_ble_eq_true rfl, Nat.le_of_ble_eq_true rfl⟩ (Nat.le_of_ble_eq_true rfl) ⟨rfl, rfl⟩ id ?_
      refine V_istore (ls' := [(0, .ref v0), (1, .int v1), (2, .int v2), (3, .int v3), (4, .int r4)]) [1, 2, 3, 4, 0] (zdk tbX7_talks_0_ok 9 rfl) (Nat.le_of_ble_eq_true rfl) rfl ?_
      refine V_iload 4 (zdk tbX7_talks_0_ok 10 rfl) rfl ?_
      refine V_if_lt (tgt := 41) (zdk tbX7_talks_0_ok 11 rfl) (by decide) (fun c5 => ?_) (fun c5 => ?_)
      · replace h := ite_t h c5
        refine V_sub (ls' := [(3, .int v3)]) [3] rfl ?_
        exact tX7_talks_b41 v3 μ3  h
      · replace h := ite_f h c5
        refine V_iload 4 (zdk tbX7_talks_0_ok 12 rfl) rfl ?_
        refine V_bipush (v := 10) (zdk tbX7_talks_0_ok 13 rfl) rfl ?_
        refine V_idiv (zdk tbX7_talks_0_ok 14 rfl) (by decide) ?_
        refine V_aload_n 0 (zdk tbX7_talks_0_ok 15 rfl) rfl ?_
        refine V_getI (zdk tbX7_talks_0_ok 16 rfl) c_v0 fF7_99 rfl ?_
        refine V_icmp_ge (tgt := 41) (zdk tbX7_talks_0_ok 17 rfl) (by decide) (fun c7 => ?_) (fun c7 => ?_)
        · replace h := ite_t h c7
          refine V_sub (ls' := [(3, .int v3)]) [3] rfl ?_
          exact tX7_talks_b41 v3 μ3  h
        · replace h := ite_f h c7
          refine V_iload 4 (zdk tbX7_talks_0_ok 18 rfl) rfl ?_
          refine V_bipush (v := 10) (zdk tbX7_talks_0_ok 19 rfl) rfl ?_
          refine V_irem (zdk tbX7_talks_0_ok 20 rfl) (by decide) ?_
          refine V_iconst (v := 5) (zdk tbX7_talks_0_ok 21 rfl) rfl ?_
          refine V_icmp_le (tgt := 43) (zdk tbX7_talks_0_ok 22 rfl) (by decide) (fun c9 => ?_) (fun c9 => ?_)
          · replace h := ite_t h c9
            refine V_aload_n 0 (zdk tbX7_talks_0_ok 25 rfl) rfl ?_
            refine V_iload 4 (zdk tbX7_talks_0_ok 26 rfl) rfl ?_
            refine V_bipush (v := 10) (zdk tbX7_talks_0_ok 27 rfl) rfl ?_
            refine V_idiv (zdk tbX7_talks_0_ok 28 rfl) (by decide) ?_
            refine V_iload 4 (zdk tbX7_talks_0_ok 29 rfl) rfl ?_
            refine V_bipush (v := 10) (zdk tbX7_talks_0_ok 30 rfl) rfl ?_
            refine V_irem (zdk tbX7_talks_0_ok 31 rfl) (by decide) ?_
            obtain ⟨μ13, q12, h⟩ := bd1_some h
            refine V_callV (R1 := (rmd 1)) (As := [.int (r4 / (10 : Int32)), .int (r4 - r4 / (10 : Int32) * (10 : Int32))]) (r := none) (zdk tbX7_talks_0_ok 32 rfl) sC7_242 (tX7_speaks q12) (c_v0) rfl rfl rfl ⟨Nat.le_of_ble_eq_true rfl, Nat.le_of_ble_eq_true rfl⟩ (Nat.le_of_ble_eq_true rfl) ⟨rfl, rfl⟩ id ?_
            refine V_aload_n 0 (zdk tbX7_talks_0_ok 33 rfl) rfl ?_
            refine V_iconst (v := 0) (zdk tbX7_talks_0_ok 34 rfl) rfl ?_
            obtain ⟨μ15, q14, h⟩ := bd1_some h
            refine V_callV (R1 := (rmd 3)) (As := [.int (0 : Int32)]) (r := none) (zdk tbX7_talks_0_ok 35 rfl) sC7_196 (tX7_step q14) (c_v0) rfl rfl rfl ⟨Nat.le_of_ble_eq_true rfl, Nat.le_of_ble_eq_true rfl⟩ (Nat.le_of_ble_eq_true rfl) ⟨rfl, rfl⟩ id ?_
            refine V_inc (dx := 1) (ls' := [(0, .ref v0), (1, .int v1), (2, .int v2), (3, .int (v3 + (1 : Int32)))]) 3 [1, 2, 3, 0] (zdk tbX7_talks_0_ok 36 rfl) rfl (Nat.le_of_ble_eq_true rfl) rfl rfl ?_
            refine V_goto (tgt := 2) (zdk tbX7_talks_0_ok 37 rfl) (by decide) ?_
            exact ih v0 v1 v2 (v3 + (1 : Int32)) μ15 c_v0 h
          · replace h := ite_f h c9
            refine V_sub (ls' := [(3, .int v3)]) [3] rfl ?_
            exact tX7_talks_b41 v3 μ3  h
def fX7_talks (n : Nat) (v0 : Nat) (v1 : Int32) (v2 : Int32) (μ : ZMem) : Option (ZMem × Int32) := chk (isC n 7 v0) ((fX7_talks_b2 n FU v0 v1 v2 (0 : Int32) μ))
theorem tX7_talks {l : Launch} {fr : Bool} {n : Nat} {v0 : Nat} {v1 : Int32} {v2 : Int32} {μ : ZMem} {z : ZMem × Int32} (h : fX7_talks n v0 v1 v2 μ = some z) : ZFn l mX7_talks (rmd 4) [.ref v0, .int v1, .int v2] fr n μ (fr, n, z.1, some (.int z.2)) := by
  unfold fX7_talks at h
  obtain ⟨c_v0, h⟩ := chk_some h
  refine ZFn.of (ls := [(0, .ref v0), (1, .int v1), (2, .int v2)]) (by decide) (fun ξ => Nat.le_of_ble_eq_true rfl) (fun ξ => rfl) ?_
  refine V_iconst (v := 0) (zdk tbX7_talks_0_ok 0 rfl) rfl ?_
  refine V_istore_n (ls' := [(0, .ref v0), (1, .int v1), (2, .int v2), (3, .int (0 : Int32))]) [1, 2, 3, 0] (zdk tbX7_talks_0_ok 1 rfl) (Nat.le_of_ble_eq_true rfl) rfl ?_
  exact tX7_talks_b2 FU v0 v1 v2 (0 : Int32) μ c_v0 h

-- WhoComplainsCarriesModel.barsOfTalk
def tbX7_barsOfTalk_0 : List (Nat × Instr × Nat) := [(0, .aload_n 0, 1), (1, .iload_n 1, 1), (2, .invokevirtual 179, 3), (5, .istore 4, 2), (7, .iload 4, 2), (9, .ifCond .eq 8, 3), (12, .iload 4, 2), (14, .goto 43, 3), (17, .iload_n 2, 1), (18, .ifCond .ge 8, 3), (21, .bipush (-4), 2), (23, .goto 34, 3), (26, .iload_n 2, 1), (27, .aload_n 0, 1), (28, .getfield 53, 3), (31, .iload_n 1, 1), (32, .iaload, 1), (33, .if_icmp .gt 7, 3), (36, .iload_n 3, 1), (37, .ifCond .ne 8, 3), (40, .bipush (-5), 2), (42, .goto 15, 3), (45, .iload_n 2, 1), (46, .bipush 40, 2), (48, .if_icmp .le 8, 3), (51, .bipush (-6), 2), (53, .goto 4, 3), (56, .iconst 0, 1), (57, .ireturn, 1)]
theorem tbX7_barsOfTalk_0_ok : ∀ q ∈ tbX7_barsOfTalk_0, decode cX7_barsOfTalk q.1 = .ok (q.2.1, q.2.2) := by decide +kernel
def fX7_barsOfTalk_b57 (n : Nat) (s0 : Int32) (μ : ZMem) : Option (ZMem × Int32) := some (μ, s0)
theorem tX7_barsOfTalk_b57 {l : Launch} {fr : Bool} {n : Nat} {z : ZMem × Int32} (s0 : Int32) (μ : ZMem) (h : fX7_barsOfTalk_b57 n s0 μ = some z) : V (zkI l mX7_barsOfTalk (rmd 3) fr n z) fr 57 [] [.int s0] n μ := by
  unfold fX7_barsOfTalk_b57 at h
  cases h
  exact V_iret (zdk tbX7_barsOfTalk_0_ok 28 rfl) rfl rfl
def fX7_barsOfTalk_b40 (n : Nat) (μ : ZMem) : Option (ZMem × Int32) := (fX7_barsOfTalk_b57 n (-5 : Int32) μ)
theorem tX7_barsOfTalk_b40 {l : Launch} {fr : Bool} {n : Nat} {z : ZMem × Int32} (μ : ZMem) (h : fX7_barsOfTalk_b40 n μ = some z) : V (zkI l mX7_barsOfTalk (rmd 3) fr n z) fr 40 [] [] n μ := by
  unfold fX7_barsOfTalk_b40 at h
  refine V_bipush (v := (-5)) (zdk tbX7_barsOfTalk_0_ok 20 rfl) rfl ?_
  refine V_goto (tgt := 57) (zdk tbX7_barsOfTalk_0_ok 21 rfl) (by decide) ?_
  exact tX7_barsOfTalk_b57 (-5 : Int32) μ  h
def fX7_barsOfTalk (n : Nat) (v0 : Nat) (v1 : Int32) (v2 : Int32) (v3 : Int32) (μ : ZMem) : Option (ZMem × Int32) := chk (isC n 7 v0) (bd2 (fX7_wanted n v0 v1 μ) (fun μ2 r3 => (if r3 = 0 then (if 0 ≤ v2 then bd1 (zRc n 100 μ2 v0 17) (fun r6 => chk (inb v1 r6) ((if (zI μ2 r6 v1.toNatClampNeg) < v2 then (fX7_barsOfTalk_b40 n  μ2) else (if v3 = 0 then (fX7_barsOfTalk_b40 n  μ2) else (if v2 ≤ (40 : Int32) then (fX7_barsOfTalk_b57 n (0 : Int32) μ2) else (fX7_barsOfTalk_b57 n (-6 : Int32) μ2)))))) else (fX7_barsOfTalk_b57 n (-4 : Int32) μ2)) else (fX7_barsOfTalk_b57 n r3 μ2))))
theorem tX7_barsOfTalk {l : Launch} {fr : Bool} {n : Nat} {v0 : Nat} {v1 : Int32} {v2 : Int32} {v3 : Int32} {μ : ZMem} {z : ZMem × Int32} (h : fX7_barsOfTalk n v0 v1 v2 v3 μ = some z) : ZFn l mX7_barsOfTalk (rmd 3) [.ref v0, .int v1, .int v2, .int v3] fr n μ (fr, n, z.1, some (.int z.2)) := by
  unfold fX7_barsOfTalk at h
  obtain ⟨c_v0, h⟩ := chk_some h
  refine ZFn.of (ls := [(0, .ref v0), (1, .int v1), (2, .int v2), (3, .int v3)]) (by decide) (fun ξ => Nat.le_of_ble_eq_true rfl) (fun ξ => rfl) ?_
  refine V_aload_n 0 (zdk tbX7_barsOfTalk_0_ok 0 rfl) rfl ?_
  refine V_iload_n 1 (zdk tbX7_barsOfTalk_0_ok 1 rfl) rfl ?_
  obtain ⟨μ2, r3, q1, h⟩ := bd2_some h
  refine V_callV (R1 := (rmd 2)) (As := [.int v1]) (r := (some (.int r3))) (zdk tbX7_barsOfTalk_0_ok 2 rfl) sC7_179 (tX7_wanted q1) (c_v0) rfl rfl rfl ⟨Nat.le_of_ble_eq_true rfl, Nat.le_of_ble_eq_true rfl⟩ (Nat.le_of_ble_eq_true rfl) ⟨rfl, rfl⟩ id ?_
  refine V_istore (ls' := [(0, .ref v0), (1, .int v1), (2, .int v2), (3, .int v3), (4, .int r3)]) [1, 2, 3, 4, 0] (zdk tbX7_barsOfTalk_0_ok 3 rfl) (Nat.le_of_ble_eq_true rfl) rfl ?_
  refine V_iload 4 (zdk tbX7_barsOfTalk_0_ok 4 rfl) rfl ?_
  refine V_if_eq (tgt := 17) (zdk tbX7_barsOfTalk_0_ok 5 rfl) (by decide) (fun c4 => ?_) (fun c4 => ?_)
  · replace h := ite_t h c4
    refine V_iload_n 2 (zdk tbX7_barsOfTalk_0_ok 8 rfl) rfl ?_
    refine V_if_ge (tgt := 26) (zdk tbX7_barsOfTalk_0_ok 9 rfl) (by decide) (fun c5 => ?_) (fun c5 => ?_)
    · replace h := ite_t h c5
      refine V_iload_n 2 (zdk tbX7_barsOfTalk_0_ok 12 rfl) rfl ?_
      refine V_aload_n 0 (zdk tbX7_barsOfTalk_0_ok 13 rfl) rfl ?_
      obtain ⟨r6, q7, h⟩ := bd1_some h
      obtain ⟨q7, c_r6⟩ := zRc_some q7
      refine V_getR (zdk tbX7_barsOfTalk_0_ok 14 rfl) c_v0 fF7_53 rfl q7 ?_
      refine V_iload_n 1 (zdk tbX7_barsOfTalk_0_ok 15 rfl) rfl ?_
      obtain ⟨b8, h⟩ := chk_some h
      refine V_iald (zdk tbX7_barsOfTalk_0_ok 16 rfl) c_r6 b8 ?_
      refine V_icmp_gt (tgt := 40) (zdk tbX7_barsOfTalk_0_ok 17 rfl) (by decide) (fun c9 => ?_) (fun c9 => ?_)
      · replace h := ite_t h c9
        refine V_sub (ls' := []) [] rfl ?_
        exact tX7_barsOfTalk_b40  μ2  h
      · replace h := ite_f h c9
        refine V_iload_n 3 (zdk tbX7_barsOfTalk_0_ok 18 rfl) rfl ?_
        refine V_if_ne (tgt := 45) (zdk tbX7_barsOfTalk_0_ok 19 rfl) (by decide) (fun c10 => ?_) (fun c10 => ?_)
        · replace h := ite_f h c10
          refine V_iload_n 2 (zdk tbX7_barsOfTalk_0_ok 22 rfl) rfl ?_
          refine V_bipush (v := 40) (zdk tbX7_barsOfTalk_0_ok 23 rfl) rfl ?_
          refine V_icmp_le (tgt := 56) (zdk tbX7_barsOfTalk_0_ok 24 rfl) (by decide) (fun c11 => ?_) (fun c11 => ?_)
          · replace h := ite_t h c11
            refine V_iconst (v := 0) (zdk tbX7_barsOfTalk_0_ok 27 rfl) rfl ?_
            refine V_sub (ls' := []) [] rfl ?_
            exact tX7_barsOfTalk_b57 (0 : Int32) μ2  h
          · replace h := ite_f h c11
            refine V_bipush (v := (-6)) (zdk tbX7_barsOfTalk_0_ok 25 rfl) rfl ?_
            refine V_goto (tgt := 57) (zdk tbX7_barsOfTalk_0_ok 26 rfl) (by decide) ?_
            refine V_sub (ls' := []) [] rfl ?_
            exact tX7_barsOfTalk_b57 (-6 : Int32) μ2  h
        · replace h := ite_t h c10
          refine V_sub (ls' := []) [] rfl ?_
          exact tX7_barsOfTalk_b40  μ2  h
    · replace h := ite_f h c5
      refine V_bipush (v := (-4)) (zdk tbX7_barsOfTalk_0_ok 10 rfl) rfl ?_
      refine V_goto (tgt := 57) (zdk tbX7_barsOfTalk_0_ok 11 rfl) (by decide) ?_
      refine V_sub (ls' := []) [] rfl ?_
      exact tX7_barsOfTalk_b57 (-4 : Int32) μ2  h
  · replace h := ite_f h c4
    refine V_iload 4 (zdk tbX7_barsOfTalk_0_ok 6 rfl) rfl ?_
    refine V_goto (tgt := 57) (zdk tbX7_barsOfTalk_0_ok 7 rfl) (by decide) ?_
    refine V_sub (ls' := []) [] rfl ?_
    exact tX7_barsOfTalk_b57 r3 μ2  h

-- WhoComplainsCarriesModel.judge
def tbX7_judge_0 : List (Nat × Instr × Nat) := [(0, .aload_n 0, 1), (1, .iload_n 1, 1), (2, .iload_n 2, 1), (3, .iconst 1, 1), (4, .invokevirtual 245, 3), (7, .istore_n 3, 1), (8, .iload_n 3, 1), (9, .ifCond .eq 9, 3), (12, .aload_n 0, 1), (13, .iload_n 3, 1), (14, .invokevirtual 133, 3), (17, .ireturn, 1), (18, .aload_n 0, 1), (19, .aload_n 0, 1), (20, .getfield 84, 3), (23, .iconst 0, 1), (24, .invokevirtual 182, 3), (27, .aload_n 0, 1), (28, .iload_n 1, 1), (29, .iload_n 2, 1), (30, .invokevirtual 248, 3), (33, .istore 4, 2), (35, .aload_n 0, 1), (36, .aload_n 0, 1), (37, .getfield 84, 3), (40, .iconst 1, 1), (41, .invokevirtual 182, 3), (44, .iload 4, 2), (46, .ireturn, 1)]
theorem tbX7_judge_0_ok : ∀ q ∈ tbX7_judge_0, decode cX7_judge q.1 = .ok (q.2.1, q.2.2) := by decide +kernel
theorem wCX7_barsOfTalk : zCW mX7_barsOfTalk 3 := ⟨zin (i := 8) (by decide +kernel) rfl, zin (i := 1187) (by decide +kernel) rfl, by decide +kernel, by decide +kernel, by decide +kernel⟩
theorem sC7_245 : zCV RX7 245 mX7_barsOfTalk 3 := ⟨zin (i := 1184) (by decide +kernel) rfl, zin (i := 1186) (by decide +kernel) rfl, zinP (i := 61) (q := (yX7_barsOfTalk, 42)) (by decide +kernel) rfl, wCX7_barsOfTalk⟩
theorem wCX7_talks : zCW mX7_talks 2 := ⟨zin (i := 8) (by decide +kernel) rfl, zin (i := 1191) (by decide +kernel) rfl, by decide +kernel, by decide +kernel, by decide +kernel⟩
theorem sC7_248 : zCV RX7 248 mX7_talks 2 := ⟨zin (i := 1188) (by decide +kernel) rfl, zin (i := 1190) (by decide +kernel) rfl, zinP (i := 62) (q := (yX7_talks, 42)) (by decide +kernel) rfl, wCX7_talks⟩
def fX7_judge (n : Nat) (v0 : Nat) (v1 : Int32) (v2 : Int32) (μ : ZMem) : Option (ZMem × Int32) := chk (isC n 7 v0) (bd2 (fX7_barsOfTalk n v0 v1 v2 (1 : Int32) μ) (fun μ2 r3 => (if r3 = 0 then bd1 (zRc n 100 μ2 v0 32) (fun r5 => bd1 (fX7_all n v0 r5 (0 : Int32) μ2) (fun μ8 => bd2 (fX7_talks n v0 v1 v2 μ8) (fun μ10 r11 => bd1 (zRc n 100 μ10 v0 32) (fun r12 => bd1 (fX7_all n v0 r12 (1 : Int32) μ10) (fun μ15 => some (μ15, r11)))))) else bd2 (fX7_noTen n v0 r3 μ2) (fun μ17 r18 => some (μ17, r18)))))
theorem tX7_judge {l : Launch} {fr : Bool} {n : Nat} {v0 : Nat} {v1 : Int32} {v2 : Int32} {μ : ZMem} {z : ZMem × Int32} (h : fX7_judge n v0 v1 v2 μ = some z) : ZFn l mX7_judge (rmd 5) [.ref v0, .int v1, .int v2] fr n μ (fr, n, z.1, some (.int z.2)) := by
  unfold fX7_judge at h
  obtain ⟨c_v0, h⟩ := chk_some h
  refine ZFn.of (ls := [(0, .ref v0), (1, .int v1), (2, .int v2)]) (by decide) (fun ξ => Nat.le_of_ble_eq_true rfl) (fun ξ => rfl) ?_
  refine V_aload_n 0 (zdk tbX7_judge_0_ok 0 rfl) rfl ?_
  refine V_iload_n 1 (zdk tbX7_judge_0_ok 1 rfl) rfl ?_
  refine V_iload_n 2 (zdk tbX7_judge_0_ok 2 rfl) rfl ?_
  refine V_iconst (v := 1) (zdk tbX7_judge_0_ok 3 rfl) rfl ?_
  obtain ⟨μ2, r3, q1, h⟩ := bd2_some h
  refine V_callV (R1 := (rmd 3)) (As := [.int v1, .int v2, .int (1 : Int32)]) (r := (some (.int r3))) (zdk tbX7_judge_0_ok 4 rfl) sC7_245 (tX7_barsOfTalk q1) (c_v0) rfl rfl rfl ⟨Nat.le_of_ble_eq_true rfl, Nat.le_of_ble_eq_true rfl⟩ (Nat.le_of_ble_eq_true rfl) ⟨rfl, rfl⟩ id ?_
  refine V_istore_n (ls' := [(0, .ref v0), (1, .int v1), (2, .int v2), (3, .int r3)]) [1, 2, 3, 0] (zdk tbX7_judge_0_ok 5 rfl) (Nat.le_of_ble_eq_true rfl) rfl ?_
  refine V_iload_n 3 (zdk tbX7_judge_0_ok 6 rfl) rfl ?_
  refine V_if_eq (tgt := 18) (zdk tbX7_judge_0_ok 7 rfl) (by decide) (fun c4 => ?_) (fun c4 => ?_)
  · replace h := ite_t h c4
    refine V_aload_n 0 (zdk tbX7_judge_0_ok 12 rfl) rfl ?_
    refine V_aload_n 0 (zdk tbX7_judge_0_ok 13 rfl) rfl ?_
    obtain ⟨r5, q6, h⟩ := bd1_some h
    obtain ⟨q6, c_r5⟩ := zRc_some q6
    refine V_getR (zdk tbX7_judge_0_ok 14 rfl) c_v0 fF7_84 rfl q6 ?_
    refine V_iconst (v := 0) (zdk tbX7_judge_0_ok 15 rfl) rfl ?_
    obtain ⟨μ8, q7, h⟩ := bd1_some h
    refine V_callV (R1 := (rmd 2)) (As := [.ref r5, .int (0 : Int32)]) (r := none) (zdk tbX7_judge_0_ok 16 rfl) sC7_182 (tX7_all q7) (c_v0) rfl rfl rfl ⟨Nat.le_of_ble_eq_true rfl, Nat.le_of_ble_eq_true rfl⟩ (Nat.le_of_ble_eq_true rfl) ⟨rfl, rfl⟩ id ?_
    refine V_aload_n 0 (zdk tbX7_judge_0_ok 17 rfl) rfl ?_
    refine V_iload_n 1 (zdk tbX7_judge_0_ok 18 rfl) rfl ?_
    refine V_iload_n 2 (zdk tbX7_judge_0_ok 19 rfl) rfl ?_
    obtain ⟨μ10, r11, q9, h⟩ := bd2_some h
    refine V_callV (R1 := (rmd 4)) (As := [.int v1, .int v2]) (r := (some (.int r11))) (zdk tbX7_judge_0_ok 20 rfl) sC7_248 (tX7_talks q9) (c_v0) rfl rfl rfl ⟨Nat.le_of_ble_eq_true rfl, Nat.le_of_ble_eq_true rfl⟩ (Nat.le_of_ble_eq_true rfl) ⟨rfl, rfl⟩ id ?_
    refine V_istore (ls' := [(0, .ref v0), (4, .int r11)]) [1, 0] (zdk tbX7_judge_0_ok 21 rfl) (Nat.le_of_ble_eq_true rfl) rfl ?_
    refine V_aload_n 0 (zdk tbX7_judge_0_ok 22 rfl) rfl ?_
    refine V_aload_n 0 (zdk tbX7_judge_0_ok 23 rfl) rfl ?_
    obtain ⟨r12, q13, h⟩ := bd1_some h
    obtain ⟨q13, c_r12⟩ := zRc_some q13
    refine V_getR (zdk tbX7_judge_0_ok 24 rfl) c_v0 fF7_84 rfl q13 ?_
    refine V_iconst (v := 1) (zdk tbX7_judge_0_ok 25 rfl) rfl ?_
    obtain ⟨μ15, q14, h⟩ := bd1_some h
    refine V_callV (R1 := (rmd 2)) (As := [.ref r12, .int (1 : Int32)]) (r := none) (zdk tbX7_judge_0_ok 26 rfl) sC7_182 (tX7_all q14) (c_v0) rfl rfl rfl ⟨Nat.le_of_ble_eq_true rfl, Nat.le_of_ble_eq_true rfl⟩ (Nat.le_of_ble_eq_true rfl) ⟨rfl, rfl⟩ id ?_
    refine V_iload 1 (zdk tbX7_judge_0_ok 27 rfl) rfl ?_
    cases h
    exact V_iret (zdk tbX7_judge_0_ok 28 rfl) rfl rfl
  · replace h := ite_f h c4
    refine V_aload_n 0 (zdk tbX7_judge_0_ok 8 rfl) rfl ?_
    refine V_iload_n 3 (zdk tbX7_judge_0_ok 9 rfl) rfl ?_
    obtain ⟨μ17, r18, q16, h⟩ := bd2_some h
    refine V_callV (R1 := (rmd 1)) (As := [.int r3]) (r := (some (.int r18))) (zdk tbX7_judge_0_ok 10 rfl) sC7_133 (tX7_noTen q16) (c_v0) rfl rfl rfl ⟨Nat.le_of_ble_eq_true rfl, Nat.le_of_ble_eq_true rfl⟩ (Nat.le_of_ble_eq_true rfl) ⟨rfl, rfl⟩ id ?_
    cases h
    exact V_iret (zdk tbX7_judge_0_ok 11 rfl) rfl rfl

-- WhoComplainsCarriesModel.behind
def tbX7_behind_0 : List (Nat × Instr × Nat) := [(0, .aload_n 0, 1), (1, .iload_n 1, 1), (2, .iload_n 2, 1), (3, .iload_n 3, 1), (4, .ifCond .lt 12, 3), (7, .iload_n 3, 1), (8, .iconst 2, 1), (9, .if_icmp .gt 7, 3), (12, .iconst 1, 1), (13, .goto 4, 3), (16, .iconst 0, 1), (17, .invokevirtual 245, 3), (20, .istore 4, 2), (22, .iload 4, 2), (24, .ifCond .eq 10, 3), (27, .aload_n 0, 1), (28, .iload 4, 2), (30, .invokevirtual 133, 3), (33, .ireturn, 1), (34, .aload_n 0, 1), (35, .aload_n 0, 1), (36, .getfield 84, 3), (39, .iconst 0, 1), (40, .invokevirtual 182, 3), (43, .aload_n 0, 1), (44, .iload_n 1, 1), (45, .iload_n 2, 1), (46, .invokevirtual 248, 3), (49, .istore 5, 2), (51, .iload_n 3, 1), (52, .ifCond .ne 10, 3), (55, .aload_n 0, 1), (56, .getfield 16, 3), (59, .goto 19, 3), (62, .iload_n 3, 1), (63, .iconst 1, 1), (64, .if_icmp .ne 10, 3), (67, .aload_n 0, 1), (68, .getfield 130, 3), (71, .goto 7, 3), (74, .aload_n 0, 1), (75, .getfield 7, 3), (78, .istore 6, 2), (80, .aload_n 0, 1), (81, .aload_n 0, 1), (82, .getfield 84, 3), (85, .iconst 1, 1), (86, .invokevirtual 182, 3), (89, .iload 5, 2), (91, .iconst (-1), 1)]
theorem tbX7_behind_0_ok : ∀ q ∈ tbX7_behind_0, decode cX7_behind q.1 = .ok (q.2.1, q.2.2) := by decide +kernel
def tbX7_behind_1 : List (Nat × Instr × Nat) := [(92, .if_icmp .ne 8, 3), (95, .iload 6, 2), (97, .goto 9, 3), (100, .aload_n 0, 1), (101, .bipush (-6), 2), (103, .invokevirtual 133, 3), (106, .ireturn, 1)]
theorem tbX7_behind_1_ok : ∀ q ∈ tbX7_behind_1, decode cX7_behind q.1 = .ok (q.2.1, q.2.2) := by decide +kernel
def fX7_behind_b106 (n : Nat) (s0 : Int32) (μ : ZMem) : Option (ZMem × Int32) := some (μ, s0)
theorem tX7_behind_b106 {l : Launch} {fr : Bool} {n : Nat} {z : ZMem × Int32} (s0 : Int32) (μ : ZMem) (h : fX7_behind_b106 n s0 μ = some z) : V (zkI l mX7_behind (rmd 5) fr n z) fr 106 [] [.int s0] n μ := by
  unfold fX7_behind_b106 at h
  cases h
  exact V_iret (zdk tbX7_behind_1_ok 6 rfl) rfl rfl
def fX7_behind_b78 (n : Nat) (v0 : Nat) (v5 : Int32) (s0 : Int32) (μ : ZMem) : Option (ZMem × Int32) := bd1 (zRc n 100 μ v0 32) (fun r1 => bd1 (fX7_all n v0 r1 (1 : Int32) μ) (fun μ4 => (if v5 = (-1 : Int32) then (fX7_behind_b106 n s0 μ4) else bd2 (fX7_noTen n v0 (-6 : Int32) μ4) (fun μ7 r8 => (fX7_behind_b106 n r8 μ7)))))
theorem tX7_behind_b78 {l : Launch} {fr : Bool} {n : Nat} {z : ZMem × Int32} (v0 : Nat) (v5 : Int32) (s0 : Int32) (μ : ZMem) (c_v0 : isC n 7 v0 = true) (h : fX7_behind_b78 n v0 v5 s0 μ = some z) : V (zkI l mX7_behind (rmd 5) fr n z) fr 78 [(0, .ref v0), (5, .int v5)] [.int s0] n μ := by
  unfold fX7_behind_b78 at h
  refine V_istore (ls' := [(0, .ref v0), (5, .int v5), (6, .int s0)]) [1, 2, 0] (zdk tbX7_behind_0_ok 42 rfl) (Nat.le_of_ble_eq_true rfl) rfl ?_
  refine V_aload_n 0 (zdk tbX7_behind_0_ok 43 rfl) rfl ?_
  refine V_aload_n 0 (zdk tbX7_behind_0_ok 44 rfl) rfl ?_
  obtain ⟨r1, q2, h⟩ := bd1_some h
  obtain ⟨q2, c_r1⟩ := zRc_some q2
  refine V_getR (zdk tbX7_behind_0_ok 45 rfl) c_v0 fF7_84 rfl q2 ?_
  refine V_iconst (v := 1) (zdk tbX7_behind_0_ok 46 rfl) rfl ?_
  obtain ⟨μ4, q3, h⟩ := bd1_some h
  refine V_callV (R1 := (rmd 2)) (As := [.ref r1, .int (1 : Int32)]) (r := none) (zdk tbX7_behind_0_ok 47 rfl) sC7_182 (tX7_all q3) (c_v0) rfl rfl rfl ⟨Nat.le_of_ble_eq_true rfl, Nat.le_of_ble_eq_true rfl⟩ (Nat.le_of_ble_eq_true rfl) ⟨rfl, rfl⟩ id ?_
  refine V_iload 1 (zdk tbX7_behind_0_ok 48 rfl) rfl ?_
  refine V_iconst (v := (-1)) (zdk tbX7_behind_0_ok 49 rfl) rfl ?_
  refine V_icmp_ne (tgt := 100) (zdk tbX7_behind_1_ok 0 rfl) (by decide) (fun c5 => ?_) (fun c5 => ?_)
  · replace h := ite_f h c5
    refine V_aload_n 0 (zdk tbX7_behind_1_ok 3 rfl) rfl ?_
    refine V_bipush (v := (-6)) (zdk tbX7_behind_1_ok 4 rfl) rfl ?_
    obtain ⟨μ7, r8, q6, h⟩ := bd2_some h
    refine V_callV (R1 := (rmd 1)) (As := [.int (-6 : Int32)]) (r := (some (.int r8))) (zdk tbX7_behind_1_ok 5 rfl) sC7_133 (tX7_noTen q6) (c_v0) rfl rfl rfl ⟨Nat.le_of_ble_eq_true rfl, Nat.le_of_ble_eq_true rfl⟩ (Nat.le_of_ble_eq_true rfl) ⟨rfl, rfl⟩ id ?_
    refine V_sub (ls' := []) [] rfl ?_
    exact tX7_behind_b106 r8 μ7  h
  · replace h := ite_t h c5
    refine V_iload 2 (zdk tbX7_behind_1_ok 1 rfl) rfl ?_
    refine V_goto (tgt := 106) (zdk tbX7_behind_1_ok 2 rfl) (by decide) ?_
    refine V_sub (ls' := []) [] rfl ?_
    exact tX7_behind_b106 s0 μ4  h
def fX7_behind_b17 (n : Nat) (v0 : Nat) (v1 : Int32) (v2 : Int32) (v3 : Int32) (s0 : Nat) (s1 : Int32) (s2 : Int32) (s3 : Int32) (μ : ZMem) : Option (ZMem × Int32) := bd2 (fX7_barsOfTalk n s0 s1 s2 s3 μ) (fun μ2 r3 => (if r3 = 0 then bd1 (zRc n 100 μ2 v0 32) (fun r5 => bd1 (fX7_all n v0 r5 (0 : Int32) μ2) (fun μ8 => bd2 (fX7_talks n v0 v1 v2 μ8) (fun μ10 r11 => (if v3 = 0 then (fX7_behind_b78 n v0 r11 (zI μ10 v0 4) μ10) else (if v3 = (1 : Int32) then (fX7_behind_b78 n v0 r11 (zI μ10 v0 3) μ10) else (fX7_behind_b78 n v0 r11 (zI μ10 v0 1) μ10)))))) else bd2 (fX7_noTen n v0 r3 μ2) (fun μ15 r16 => some (μ15, r16))))
theorem tX7_behind_b17 {l : Launch} {fr : Bool} {n : Nat} {z : ZMem × Int32} (v0 : Nat) (v1 : Int32) (v2 : Int32) (v3 : Int32) (s0 : Nat) (s1 : Int32) (s2 : Int32) (s3 : Int32) (μ : ZMem) (c_v0 : isC n 7 v0 = true) (c_s0 : isC n 7 s0 = true) (h : fX7_behind_b17 n v0 v1 v2 v3 s0 s1 s2 s3 μ = some z) : V (zkI l mX7_behind (rmd 5) fr n z) fr 17 [(0, .ref v0), (1, .int v1), (2, .int v2), (3, .int v3)] [.int s3, .int s2, .int s1, .ref s0] n μ := by
  unfold fX7_behind_b17 at h
  obtain ⟨μ2, r3, q1, h⟩ := bd2_some h
  refine V_callV (R1 := (rmd 3)) (As := [.int s1, .int s2, .int s3]) (r := (some (.int r3))) (zdk tbX7_behind_0_ok 11 rfl) sC7_245 (tX7_barsOfTalk q1) (c_s0) rfl rfl rfl ⟨Nat.le_of_ble_eq_true rfl, Nat.le_of_ble_eq_true rfl⟩ (Nat.le_of_ble_eq_true rfl) ⟨rfl, rfl⟩ id ?_
  refine V_istore (ls' := [(0, .ref v0), (1, .int v1), (2, .int v2), (3, .int v3), (4, .int r3)]) [1, 2, 3, 4, 0] (zdk tbX7_behind_0_ok 12 rfl) (Nat.le_of_ble_eq_true rfl) rfl ?_
  refine V_iload 4 (zdk tbX7_behind_0_ok 13 rfl) rfl ?_
  refine V_if_eq (tgt := 34) (zdk tbX7_behind_0_ok 14 rfl) (by decide) (fun c4 => ?_) (fun c4 => ?_)
  · replace h := ite_t h c4
    refine V_aload_n 0 (zdk tbX7_behind_0_ok 19 rfl) rfl ?_
    refine V_aload_n 0 (zdk tbX7_behind_0_ok 20 rfl) rfl ?_
    obtain ⟨r5, q6, h⟩ := bd1_some h
    obtain ⟨q6, c_r5⟩ := zRc_some q6
    refine V_getR (zdk tbX7_behind_0_ok 21 rfl) c_v0 fF7_84 rfl q6 ?_
    refine V_iconst (v := 0) (zdk tbX7_behind_0_ok 22 rfl) rfl ?_
    obtain ⟨μ8, q7, h⟩ := bd1_some h
    refine V_callV (R1 := (rmd 2)) (As := [.ref r5, .int (0 : Int32)]) (r := none) (zdk tbX7_behind_0_ok 23 rfl) sC7_182 (tX7_all q7) (c_v0) rfl rfl rfl ⟨Nat.le_of_ble_eq_true rfl, Nat.le_of_ble_eq_true rfl⟩ (Nat.le_of_ble_eq_true rfl) ⟨rfl, rfl⟩ id ?_
    refine V_aload_n 0 (zdk tbX7_behind_0_ok 24 rfl) rfl ?_
    refine V_iload_n 1 (zdk tbX7_behind_0_ok 25 rfl) rfl ?_
    refine V_iload_n 2 (zdk tbX7_behind_0_ok 26 rfl) rfl ?_
    obtain ⟨μ10, r11, q9, h⟩ := bd2_some h
    refine V_callV (R1 := (rmd 4)) (As := [.int v1, .int v2]) (r := (some (.int r11))) (zdk tbX7_behind_0_ok 27 rfl) sC7_248 (tX7_talks q9) (c_v0) rfl rfl rfl ⟨Nat.le_of_ble_eq_true rfl, Nat.le_of_ble_eq_true rfl⟩ (Nat.le_of_ble_eq_true rfl) ⟨rfl, rfl⟩ id ?_
    refine V_istore (ls' := [(0, .ref v0), (3, .int v3), (5, .int r11)]) [1, 4, 0] (zdk tbX7_behind_0_ok 28 rfl) (Nat.le_of_ble_eq_true rfl) rfl ?_
    refine V_iload_n 1 (zdk tbX7_behind_0_ok 29 rfl) rfl ?_
    refine V_if_ne (tgt := 62) (zdk tbX7_behind_0_ok 30 rfl) (by decide) (fun c12 => ?_) (fun c12 => ?_)
    · replace h := ite_f h c12
      refine V_iload_n 1 (zdk tbX7_behind_0_ok 34 rfl) rfl ?_
      refine V_iconst (v := 1) (zdk tbX7_behind_0_ok 35 rfl) rfl ?_
      refine V_icmp_ne (tgt := 74) (zdk tbX7_behind_0_ok 36 rfl) (by decide) (fun c13 => ?_) (fun c13 => ?_)
      · replace h := ite_f h c13
        refine V_aload_n 0 (zdk tbX7_behind_0_ok 40 rfl) rfl ?_
        refine V_getI (zdk tbX7_behind_0_ok 41 rfl) c_v0 fF7_7 rfl ?_
        refine V_sub (ls' := [(0, .ref v0), (5, .int r11)]) [0, 2] rfl ?_
        exact tX7_behind_b78 v0 r11 (zI μ10 v0 1) μ10 c_v0 h
      · replace h := ite_t h c13
        refine V_aload_n 0 (zdk tbX7_behind_0_ok 37 rfl) rfl ?_
        refine V_getI (zdk tbX7_behind_0_ok 38 rfl) c_v0 fF7_130 rfl ?_
        refine V_goto (tgt := 78) (zdk tbX7_behind_0_ok 39 rfl) (by decide) ?_
        refine V_sub (ls' := [(0, .ref v0), (5, .int r11)]) [0, 2] rfl ?_
        exact tX7_behind_b78 v0 r11 (zI μ10 v0 3) μ10 c_v0 h
    · replace h := ite_t h c12
      refine V_aload_n 0 (zdk tbX7_behind_0_ok 31 rfl) rfl ?_
      refine V_getI (zdk tbX7_behind_0_ok 32 rfl) c_v0 fF7_16 rfl ?_
      refine V_goto (tgt := 78) (zdk tbX7_behind_0_ok 33 rfl) (by decide) ?_
      refine V_sub (ls' := [(0, .ref v0), (5, .int r11)]) [0, 2] rfl ?_
      exact tX7_behind_b78 v0 r11 (zI μ10 v0 4) μ10 c_v0 h
  · replace h := ite_f h c4
    refine V_aload_n 0 (zdk tbX7_behind_0_ok 15 rfl) rfl ?_
    refine V_iload 4 (zdk tbX7_behind_0_ok 16 rfl) rfl ?_
    obtain ⟨μ15, r16, q14, h⟩ := bd2_some h
    refine V_callV (R1 := (rmd 1)) (As := [.int r3]) (r := (some (.int r16))) (zdk tbX7_behind_0_ok 17 rfl) sC7_133 (tX7_noTen q14) (c_v0) rfl rfl rfl ⟨Nat.le_of_ble_eq_true rfl, Nat.le_of_ble_eq_true rfl⟩ (Nat.le_of_ble_eq_true rfl) ⟨rfl, rfl⟩ id ?_
    cases h
    exact V_iret (zdk tbX7_behind_0_ok 18 rfl) rfl rfl
def fX7_behind_b16 (n : Nat) (v0 : Nat) (v1 : Int32) (v2 : Int32) (v3 : Int32) (s0 : Nat) (s1 : Int32) (s2 : Int32) (μ : ZMem) : Option (ZMem × Int32) := (fX7_behind_b17 n v0 v1 v2 v3 s0 s1 s2 (0 : Int32) μ)
theorem tX7_behind_b16 {l : Launch} {fr : Bool} {n : Nat} {z : ZMem × Int32} (v0 : Nat) (v1 : Int32) (v2 : Int32) (v3 : Int32) (s0 : Nat) (s1 : Int32) (s2 : Int32) (μ : ZMem) (c_v0 : isC n 7 v0 = true) (c_s0 : isC n 7 s0 = true) (h : fX7_behind_b16 n v0 v1 v2 v3 s0 s1 s2 μ = some z) : V (zkI l mX7_behind (rmd 5) fr n z) fr 16 [(0, .ref v0), (1, .int v1), (2, .int v2), (3, .int v3)] [.int s2, .int s1, .ref s0] n μ := by
  unfold fX7_behind_b16 at h
  refine V_iconst (v := 0) (zdk tbX7_behind_0_ok 10 rfl) rfl ?_
  exact tX7_behind_b17 v0 v1 v2 v3 s0 s1 s2 (0 : Int32) μ c_v0 c_s0 h
def fX7_behind (n : Nat) (v0 : Nat) (v1 : Int32) (v2 : Int32) (v3 : Int32) (μ : ZMem) : Option (ZMem × Int32) := chk (isC n 7 v0) ((if v3 < 0 then (fX7_behind_b16 n v0 v1 v2 v3 v0 v1 v2 μ) else (if (2 : Int32) < v3 then (fX7_behind_b16 n v0 v1 v2 v3 v0 v1 v2 μ) else (fX7_behind_b17 n v0 v1 v2 v3 v0 v1 v2 (1 : Int32) μ))))
theorem tX7_behind {l : Launch} {fr : Bool} {n : Nat} {v0 : Nat} {v1 : Int32} {v2 : Int32} {v3 : Int32} {μ : ZMem} {z : ZMem × Int32} (h : fX7_behind n v0 v1 v2 v3 μ = some z) : ZFn l mX7_behind (rmd 5) [.ref v0, .int v1, .int v2, .int v3] fr n μ (fr, n, z.1, some (.int z.2)) := by
  unfold fX7_behind at h
  obtain ⟨c_v0, h⟩ := chk_some h
  refine ZFn.of (ls := [(0, .ref v0), (1, .int v1), (2, .int v2), (3, .int v3)]) (by decide) (fun ξ => Nat.le_of_ble_eq_true rfl) (fun ξ => rfl) ?_
  refine V_aload_n 0 (zdk tbX7_behind_0_ok 0 rfl) rfl ?_
  refine V_iload_n 1 (zdk tbX7_behind_0_ok 1 rfl) rfl ?_
  refine V_iload_n 2 (zdk tbX7_behind_0_ok 2 rfl) rfl ?_
  refine V_iload_n 3 (zdk tbX7_behind_0_ok 3 rfl) rfl ?_
  refine V_if_lt (tgt := 16) (zdk tbX7_behind_0_ok 4 rfl) (by decide) (fun c1 => ?_) (fun c1 => ?_)
  · replace h := ite_t h c1
    exact tX7_behind_b16 v0 v1 v2 v3 v0 v1 v2 μ c_v0 c_v0 h
  · replace h := ite_f h c1
    refine V_iload_n 3 (zdk tbX7_behind_0_ok 5 rfl) rfl ?_
    refine V_iconst (v := 2) (zdk tbX7_behind_0_ok 6 rfl) rfl ?_
    refine V_icmp_gt (tgt := 16) (zdk tbX7_behind_0_ok 7 rfl) (by decide) (fun c2 => ?_) (fun c2 => ?_)
    · replace h := ite_t h c2
      exact tX7_behind_b16 v0 v1 v2 v3 v0 v1 v2 μ c_v0 c_v0 h
    · replace h := ite_f h c2
      refine V_iconst (v := 1) (zdk tbX7_behind_0_ok 8 rfl) rfl ?_
      refine V_goto (tgt := 17) (zdk tbX7_behind_0_ok 9 rfl) (by decide) ?_
      exact tX7_behind_b17 v0 v1 v2 v3 v0 v1 v2 (1 : Int32) μ c_v0 c_v0 h

-- WhoComplainsCarriesModel.done
def tbX7_done_0 : List (Nat × Instr × Nat) := [(0, .aload_n 0, 1), (1, .iload_n 1, 1), (2, .iload_n 2, 1), (3, .iconst 1, 1), (4, .invokevirtual 245, 3), (7, .istore_n 3, 1), (8, .iload_n 3, 1), (9, .ifCond .eq 9, 3), (12, .aload_n 0, 1), (13, .iload_n 3, 1), (14, .invokevirtual 106, 3), (17, .ireturn, 1), (18, .aload_n 0, 1), (19, .aload_n 0, 1), (20, .getfield 84, 3), (23, .iconst 0, 1), (24, .invokevirtual 182, 3), (27, .aload_n 0, 1), (28, .iload_n 1, 1), (29, .iload_n 2, 1), (30, .invokevirtual 248, 3), (33, .iconst (-1), 1), (34, .if_icmp .ne 8, 3), (37, .aload_n 0, 1), (38, .getfield 130, 3), (41, .ireturn, 1), (42, .aload_n 0, 1), (43, .aload_n 0, 1), (44, .getfield 84, 3), (47, .iconst 1, 1), (48, .invokevirtual 182, 3), (51, .aload_n 0, 1), (52, .bipush (-6), 2), (54, .invokevirtual 106, 3), (57, .ireturn, 1)]
theorem tbX7_done_0_ok : ∀ q ∈ tbX7_done_0, decode cX7_done q.1 = .ok (q.2.1, q.2.2) := by decide +kernel
def fX7_done (n : Nat) (v0 : Nat) (v1 : Int32) (v2 : Int32) (μ : ZMem) : Option (ZMem × Int32) := chk (isC n 7 v0) (bd2 (fX7_barsOfTalk n v0 v1 v2 (1 : Int32) μ) (fun μ2 r3 => (if r3 = 0 then bd1 (zRc n 100 μ2 v0 32) (fun r5 => bd1 (fX7_all n v0 r5 (0 : Int32) μ2) (fun μ8 => bd2 (fX7_talks n v0 v1 v2 μ8) (fun μ10 r11 => (if r11 = (-1 : Int32) then some (μ10, (zI μ10 v0 3)) else bd1 (zRc n 100 μ10 v0 32) (fun r13 => bd1 (fX7_all n v0 r13 (1 : Int32) μ10) (fun μ16 => bd2 (fX7_no n v0 (-6 : Int32) μ16) (fun μ18 r19 => some (μ18, r19)))))))) else bd2 (fX7_no n v0 r3 μ2) (fun μ21 r22 => some (μ21, r22)))))
theorem tX7_done {l : Launch} {fr : Bool} {n : Nat} {v0 : Nat} {v1 : Int32} {v2 : Int32} {μ : ZMem} {z : ZMem × Int32} (h : fX7_done n v0 v1 v2 μ = some z) : ZFn l mX7_done (rmd 5) [.ref v0, .int v1, .int v2] fr n μ (fr, n, z.1, some (.int z.2)) := by
  unfold fX7_done at h
  obtain ⟨c_v0, h⟩ := chk_some h
  refine ZFn.of (ls := [(0, .ref v0), (1, .int v1), (2, .int v2)]) (by decide) (fun ξ => Nat.le_of_ble_eq_true rfl) (fun ξ => rfl) ?_
  refine V_aload_n 0 (zdk tbX7_done_0_ok 0 rfl) rfl ?_
  refine V_iload_n 1 (zdk tbX7_done_0_ok 1 rfl) rfl ?_
  refine V_iload_n 2 (zdk tbX7_done_0_ok 2 rfl) rfl ?_
  refine V_iconst (v := 1) (zdk tbX7_done_0_ok 3 rfl) rfl ?_
  obtain ⟨μ2, r3, q1, h⟩ := bd2_some h
  refine V_callV (R1 := (rmd 3)) (As := [.int v1, .int v2, .int (1 : Int32)]) (r := (some (.int r3))) (zdk tbX7_done_0_ok 4 rfl) sC7_245 (tX7_barsOfTalk q1) (c_v0) rfl rfl rfl ⟨Nat.le_of_ble_eq_true rfl, Nat.le_of_ble_eq_true rfl⟩ (Nat.le_of_ble_eq_true rfl) ⟨rfl, rfl⟩ id ?_
  refine V_istore_n (ls' := [(0, .ref v0), (1, .int v1), (2, .int v2), (3, .int r3)]) [1, 2, 3, 0] (zdk tbX7_done_0_ok 5 rfl) (Nat.le_of_ble_eq_true rfl) rfl ?_
  refine V_iload_n 3 (zdk tbX7_done_0_ok 6 rfl) rfl ?_
  refine V_if_eq (tgt := 18) (zdk tbX7_done_0_ok 7 rfl) (by decide) (fun c4 => ?_) (fun c4 => ?_)
  · replace h := ite_t h c4
    refine V_aload_n 0 (zdk tbX7_done_0_ok 12 rfl) rfl ?_
    refine V_aload_n 0 (zdk tbX7_done_0_ok 13 rfl) rfl ?_
    obtain ⟨r5, q6, h⟩ := bd1_some h
    obtain ⟨q6, c_r5⟩ := zRc_some q6
    refine V_getR (zdk tbX7_done_0_ok 14 rfl) c_v0 fF7_84 rfl q6 ?_
    refine V_iconst (v := 0) (zdk tbX7_done_0_ok 15 rfl) rfl ?_
    obtain ⟨μ8, q7, h⟩ := bd1_some h
    refine V_callV (R1 := (rmd 2)) (As := [.ref r5, .int (0 : Int32)]) (r := none) (zdk tbX7_done_0_ok 16 rfl) sC7_182 (tX7_all q7) (c_v0) rfl rfl rfl ⟨Nat.le_of_ble_eq_true rfl, Nat.le_of_ble_eq_true rfl⟩ (Nat.le_of_ble_eq_true rfl) ⟨rfl, rfl⟩ id ?_
    refine V_aload_n 0 (zdk tbX7_done_0_ok 17 rfl) rfl ?_
    refine V_iload_n 1 (zdk tbX7_done_0_ok 18 rfl) rfl ?_
    refine V_iload_n 2 (zdk tbX7_done_0_ok 19 rfl) rfl ?_
    obtain ⟨μ10, r11, q9, h⟩ := bd2_some h
    refine V_callV (R1 := (rmd 4)) (As := [.int v1, .int v2]) (r := (some (.int r11))) (zdk tbX7_done_0_ok 20 rfl) sC7_248 (tX7_talks q9) (c_v0) rfl rfl rfl ⟨Nat.le_of_ble_eq_true rfl, Nat.le_of_ble_eq_true rfl⟩ (Nat.le_of_ble_eq_true rfl) ⟨rfl, rfl⟩ id ?_
    refine V_iconst (v := (-1)) (zdk tbX7_done_0_ok 21 rfl) rfl ?_
    refine V_icmp_ne (tgt := 42) (zdk tbX7_done_0_ok 22 rfl) (by decide) (fun c12 => ?_) (fun c12 => ?_)
    · replace h := ite_f h c12
      refine V_aload_n 0 (zdk tbX7_done_0_ok 26 rfl) rfl ?_
      refine V_aload_n 0 (zdk tbX7_done_0_ok 27 rfl) rfl ?_
      obtain ⟨r13, q14, h⟩ := bd1_some h
      obtain ⟨q14, c_r13⟩ := zRc_some q14
      refine V_getR (zdk tbX7_done_0_ok 28 rfl) c_v0 fF7_84 rfl q14 ?_
      refine V_iconst (v := 1) (zdk tbX7_done_0_ok 29 rfl) rfl ?_
      obtain ⟨μ16, q15, h⟩ := bd1_some h
      refine V_callV (R1 := (rmd 2)) (As := [.ref r13, .int (1 : Int32)]) (r := none) (zdk tbX7_done_0_ok 30 rfl) sC7_182 (tX7_all q15) (c_v0) rfl rfl rfl ⟨Nat.le_of_ble_eq_true rfl, Nat.le_of_ble_eq_true rfl⟩ (Nat.le_of_ble_eq_true rfl) ⟨rfl, rfl⟩ id ?_
      refine V_aload_n 0 (zdk tbX7_done_0_ok 31 rfl) rfl ?_
      refine V_bipush (v := (-6)) (zdk tbX7_done_0_ok 32 rfl) rfl ?_
      obtain ⟨μ18, r19, q17, h⟩ := bd2_some h
      refine V_callV (R1 := (rmd 1)) (As := [.int (-6 : Int32)]) (r := (some (.int r19))) (zdk tbX7_done_0_ok 33 rfl) sC7_106 (tX7_no q17) (c_v0) rfl rfl rfl ⟨Nat.le_of_ble_eq_true rfl, Nat.le_of_ble_eq_true rfl⟩ (Nat.le_of_ble_eq_true rfl) ⟨rfl, rfl⟩ id ?_
      cases h
      exact V_iret (zdk tbX7_done_0_ok 34 rfl) rfl rfl
    · replace h := ite_t h c12
      refine V_aload_n 0 (zdk tbX7_done_0_ok 23 rfl) rfl ?_
      refine V_getI (zdk tbX7_done_0_ok 24 rfl) c_v0 fF7_130 rfl ?_
      cases h
      exact V_iret (zdk tbX7_done_0_ok 25 rfl) rfl rfl
  · replace h := ite_f h c4
    refine V_aload_n 0 (zdk tbX7_done_0_ok 8 rfl) rfl ?_
    refine V_iload_n 3 (zdk tbX7_done_0_ok 9 rfl) rfl ?_
    obtain ⟨μ21, r22, q20, h⟩ := bd2_some h
    refine V_callV (R1 := (rmd 1)) (As := [.int r3]) (r := (some (.int r22))) (zdk tbX7_done_0_ok 10 rfl) sC7_106 (tX7_no q20) (c_v0) rfl rfl rfl ⟨Nat.le_of_ble_eq_true rfl, Nat.le_of_ble_eq_true rfl⟩ (Nat.le_of_ble_eq_true rfl) ⟨rfl, rfl⟩ id ?_
    cases h
    exact V_iret (zdk tbX7_done_0_ok 11 rfl) rfl rfl

-- WhoComplainsCarriesModel.say
def tbX7_say_0 : List (Nat × Instr × Nat) := [(0, .aload_n 0, 1), (1, .iload_n 1, 1), (2, .invokevirtual 110, 3), (5, .ifCond .ne 9, 3), (8, .aload_n 0, 1), (9, .iconst (-1), 1), (10, .invokevirtual 106, 3), (13, .ireturn, 1), (14, .aload_n 0, 1), (15, .iload_n 2, 1), (16, .iconst 0, 1), (17, .iconst 5, 1), (18, .invokevirtual 122, 3), (21, .ifCond .ne 10, 3), (24, .aload_n 0, 1), (25, .bipush (-6), 2), (27, .invokevirtual 106, 3), (30, .ireturn, 1), (31, .aload_n 0, 1), (32, .iload_n 1, 1), (33, .iload_n 2, 1), (34, .invokevirtual 242, 3), (37, .aload_n 0, 1), (38, .getfield 16, 3), (41, .iload_n 1, 1), (42, .if_icmp .ne 7, 3), (45, .iconst 1, 1), (46, .goto 4, 3), (49, .iconst 0, 1), (50, .ireturn, 1)]
theorem tbX7_say_0_ok : ∀ q ∈ tbX7_say_0, decode cX7_say q.1 = .ok (q.2.1, q.2.2) := by decide +kernel
def fX7_say_b50 (n : Nat) (s0 : Int32) (μ : ZMem) : Option (ZMem × Int32) := some (μ, s0)
theorem tX7_say_b50 {l : Launch} {fr : Bool} {n : Nat} {z : ZMem × Int32} (s0 : Int32) (μ : ZMem) (h : fX7_say_b50 n s0 μ = some z) : V (zkI l mX7_say (rmd 2) fr n z) fr 50 [] [.int s0] n μ := by
  unfold fX7_say_b50 at h
  cases h
  exact V_iret (zdk tbX7_say_0_ok 29 rfl) rfl rfl
def fX7_say (n : Nat) (v0 : Nat) (v1 : Int32) (v2 : Int32) (μ : ZMem) : Option (ZMem × Int32) := chk (isC n 7 v0) (bd2 (fX7_isOne n v0 v1 μ) (fun μ2 r3 => (if r3 = 0 then bd2 (fX7_no n v0 (-1 : Int32) μ2) (fun μ16 r17 => some (μ16, r17)) else bd2 (fX7_isFrom n v0 v2 (0 : Int32) (5 : Int32) μ2) (fun μ6 r7 => (if r7 = 0 then bd2 (fX7_no n v0 (-6 : Int32) μ6) (fun μ13 r14 => some (μ13, r14)) else bd1 (fX7_speaks n v0 v1 v2 μ6) (fun μ10 => (if (zI μ10 v0 4) = v1 then (fX7_say_b50 n (1 : Int32) μ10) else (fX7_say_b50 n (0 : Int32) μ10))))))))
theorem tX7_say {l : Launch} {fr : Bool} {n : Nat} {v0 : Nat} {v1 : Int32} {v2 : Int32} {μ : ZMem} {z : ZMem × Int32} (h : fX7_say n v0 v1 v2 μ = some z) : ZFn l mX7_say (rmd 2) [.ref v0, .int v1, .int v2] fr n μ (fr, n, z.1, some (.int z.2)) := by
  unfold fX7_say at h
  obtain ⟨c_v0, h⟩ := chk_some h
  refine ZFn.of (ls := [(0, .ref v0), (1, .int v1), (2, .int v2)]) (by decide) (fun ξ => Nat.le_of_ble_eq_true rfl) (fun ξ => rfl) ?_
  refine V_aload_n 0 (zdk tbX7_say_0_ok 0 rfl) rfl ?_
  refine V_iload_n 1 (zdk tbX7_say_0_ok 1 rfl) rfl ?_
  obtain ⟨μ2, r3, q1, h⟩ := bd2_some h
  refine V_callV (R1 := (rmd 1)) (As := [.int v1]) (r := (some (.int r3))) (zdk tbX7_say_0_ok 2 rfl) sC7_110 (tX7_isOne q1) (c_v0) rfl rfl rfl ⟨Nat.le_of_ble_eq_true rfl, Nat.le_of_ble_eq_true rfl⟩ (Nat.le_of_ble_eq_true rfl) ⟨rfl, rfl⟩ id ?_
  refine V_if_ne (tgt := 14) (zdk tbX7_say_0_ok 3 rfl) (by decide) (fun c4 => ?_) (fun c4 => ?_)
  · replace h := ite_f h c4
    refine V_aload_n 0 (zdk tbX7_say_0_ok 8 rfl) rfl ?_
    refine V_iload_n 2 (zdk tbX7_say_0_ok 9 rfl) rfl ?_
    refine V_iconst (v := 0) (zdk tbX7_say_0_ok 10 rfl) rfl ?_
    refine V_iconst (v := 5) (zdk tbX7_say_0_ok 11 rfl) rfl ?_
    obtain ⟨μ6, r7, q5, h⟩ := bd2_some h
    refine V_callV (R1 := (rmd 1)) (As := [.int v2, .int (0 : Int32), .int (5 : Int32)]) (r := (some (.int r7))) (zdk tbX7_say_0_ok 12 rfl) sC7_122 (tX7_isFrom q5) (c_v0) rfl rfl rfl ⟨Nat.le_of_ble_eq_true rfl, Nat.le_of_ble_eq_true rfl⟩ (Nat.le_of_ble_eq_true rfl) ⟨rfl, rfl⟩ id ?_
    refine V_if_ne (tgt := 31) (zdk tbX7_say_0_ok 13 rfl) (by decide) (fun c8 => ?_) (fun c8 => ?_)
    · replace h := ite_f h c8
      refine V_aload_n 0 (zdk tbX7_say_0_ok 18 rfl) rfl ?_
      refine V_iload_n 1 (zdk tbX7_say_0_ok 19 rfl) rfl ?_
      refine V_iload_n 2 (zdk tbX7_say_0_ok 20 rfl) rfl ?_
      obtain ⟨μ10, q9, h⟩ := bd1_some h
      refine V_callV (R1 := (rmd 1)) (As := [.int v1, .int v2]) (r := none) (zdk tbX7_say_0_ok 21 rfl) sC7_242 (tX7_speaks q9) (c_v0) rfl rfl rfl ⟨Nat.le_of_ble_eq_true rfl, Nat.le_of_ble_eq_true rfl⟩ (Nat.le_of_ble_eq_true rfl) ⟨rfl, rfl⟩ id ?_
      refine V_aload_n 0 (zdk tbX7_say_0_ok 22 rfl) rfl ?_
      refine V_getI (zdk tbX7_say_0_ok 23 rfl) c_v0 fF7_16 rfl ?_
      refine V_iload_n 1 (zdk tbX7_say_0_ok 24 rfl) rfl ?_
      refine V_icmp_ne (tgt := 49) (zdk tbX7_say_0_ok 25 rfl) (by decide) (fun c11 => ?_) (fun c11 => ?_)
      · replace h := ite_f h c11
        refine V_iconst (v := 0) (zdk tbX7_say_0_ok 28 rfl) rfl ?_
        refine V_sub (ls' := []) [] rfl ?_
        exact tX7_say_b50 (0 : Int32) μ10  h
      · replace h := ite_t h c11
        refine V_iconst (v := 1) (zdk tbX7_say_0_ok 26 rfl) rfl ?_
        refine V_goto (tgt := 50) (zdk tbX7_say_0_ok 27 rfl) (by decide) ?_
        refine V_sub (ls' := []) [] rfl ?_
        exact tX7_say_b50 (1 : Int32) μ10  h
    · replace h := ite_t h c8
      refine V_aload_n 0 (zdk tbX7_say_0_ok 14 rfl) rfl ?_
      refine V_bipush (v := (-6)) (zdk tbX7_say_0_ok 15 rfl) rfl ?_
      obtain ⟨μ13, r14, q12, h⟩ := bd2_some h
      refine V_callV (R1 := (rmd 1)) (As := [.int (-6 : Int32)]) (r := (some (.int r14))) (zdk tbX7_say_0_ok 16 rfl) sC7_106 (tX7_no q12) (c_v0) rfl rfl rfl ⟨Nat.le_of_ble_eq_true rfl, Nat.le_of_ble_eq_true rfl⟩ (Nat.le_of_ble_eq_true rfl) ⟨rfl, rfl⟩ id ?_
      cases h
      exact V_iret (zdk tbX7_say_0_ok 17 rfl) rfl rfl
  · replace h := ite_t h c4
    refine V_aload_n 0 (zdk tbX7_say_0_ok 4 rfl) rfl ?_
    refine V_iconst (v := (-1)) (zdk tbX7_say_0_ok 5 rfl) rfl ?_
    obtain ⟨μ16, r17, q15, h⟩ := bd2_some h
    refine V_callV (R1 := (rmd 1)) (As := [.int (-1 : Int32)]) (r := (some (.int r17))) (zdk tbX7_say_0_ok 6 rfl) sC7_106 (tX7_no q15) (c_v0) rfl rfl rfl ⟨Nat.le_of_ble_eq_true rfl, Nat.le_of_ble_eq_true rfl⟩ (Nat.le_of_ble_eq_true rfl) ⟨rfl, rfl⟩ id ?_
    cases h
    exact V_iret (zdk tbX7_say_0_ok 7 rfl) rfl rfl

-- WhoComplainsCarriesModel.steps
def tbX7_steps_0 : List (Nat × Instr × Nat) := [(0, .aload_n 0, 1), (1, .iload_n 1, 1), (2, .iconst 1, 1), (3, .bipush 60, 2), (5, .invokevirtual 122, 3), (8, .ifCond .ne 10, 3), (11, .aload_n 0, 1), (12, .bipush (-6), 2), (14, .invokevirtual 106, 3), (17, .ireturn, 1), (18, .iconst 0, 1), (19, .istore_n 2, 1), (20, .iload_n 2, 1), (21, .iload_n 1, 1), (22, .if_icmp .ge 14, 3), (25, .aload_n 0, 1), (26, .iconst 0, 1), (27, .invokevirtual 196, 3), (30, .iinc 2 1, 3), (33, .goto (-13), 3), (36, .aload_n 0, 1), (37, .getfield 130, 3), (40, .ireturn, 1)]
theorem tbX7_steps_0_ok : ∀ q ∈ tbX7_steps_0, decode cX7_steps q.1 = .ok (q.2.1, q.2.2) := by decide +kernel
def fX7_steps_b20 (n : Nat) : Nat → Nat → Int32 → Int32 → ZMem → Option (ZMem × Int32)
  | 0, _, _, _, _ => none
  | k + 1, v0, v1, v2, μ => (if v1 ≤ v2 then some (μ, (zI μ v0 3)) else bd1 (fX7_step n v0 (0 : Int32) μ) (fun μ3 => (fX7_steps_b20 n k v0 v1 (v2 + (1 : Int32)) μ3)))
theorem tX7_steps_b20 {l : Launch} {fr : Bool} {n : Nat} {z : ZMem × Int32} : ∀ (k : Nat) (v0 : Nat) (v1 : Int32) (v2 : Int32) (μ : ZMem) (c_v0 : isC n 7 v0 = true), fX7_steps_b20 n k v0 v1 v2 μ = some z → V (zkI l mX7_steps (rmd 4) fr n z) fr 20 [(0, .ref v0), (1, .int v1), (2, .int v2)] [] n μ := by
  intro k
  induction k with
  | zero =>
    intro v0 v1 v2 μ c_v0 h
    unfold fX7_steps_b20 at h
    cases h
  | succ k ih =>
    intro v0 v1 v2 μ c_v0 h
    unfold fX7_steps_b20 at h
    refine V_iload_n 2 (zdk tbX7_steps_0_ok 12 rfl) rfl ?_
    refine V_iload_n 1 (zdk tbX7_steps_0_ok 13 rfl) rfl ?_
    refine V_icmp_ge (tgt := 36) (zdk tbX7_steps_0_ok 14 rfl) (by decide) (fun c1 => ?_) (fun c1 => ?_)
    · replace h := ite_t h c1
      refine V_aload_n 0 (zdk tbX7_steps_0_ok 20 rfl) rfl ?_
      refine V_getI (zdk tbX7_steps_0_ok 21 rfl) c_v0 fF7_130 rfl ?_
      cases h
      exact V_iret (zdk tbX7_steps_0_ok 22 rfl) rfl rfl
    · replace h := ite_f h c1
      refine V_aload_n 0 (zdk tbX7_steps_0_ok 15 rfl) rfl ?_
      refine V_iconst (v := 0) (zdk tbX7_steps_0_ok 16 rfl) rfl ?_
      obtain ⟨μ3, q2, h⟩ := bd1_some h
      refine V_callV (R1 := (rmd 3)) (As := [.int (0 : Int32)]) (r := none) (zdk tbX7_steps_0_ok 17 rfl) sC7_196 (tX7_step q2) (c_v0) rfl rfl rfl ⟨Nat.le_of_ble_eq_true rfl, Nat.le_of_ble_eq_true rfl⟩ (Nat.le_of_ble_eq_true rfl) ⟨rfl, rfl⟩ id ?_
      refine V_inc (dx := 1) (ls' := [(0, .ref v0), (1, .int v1), (2, .int (v2 + (1 : Int32)))]) 2 [1, 2, 0] (zdk tbX7_steps_0_ok 18 rfl) rfl (Nat.le_of_ble_eq_true rfl) rfl rfl ?_
      refine V_goto (tgt := 20) (zdk tbX7_steps_0_ok 19 rfl) (by decide) ?_
      exact ih v0 v1 (v2 + (1 : Int32)) μ3 c_v0 h
def fX7_steps (n : Nat) (v0 : Nat) (v1 : Int32) (μ : ZMem) : Option (ZMem × Int32) := chk (isC n 7 v0) (bd2 (fX7_isFrom n v0 v1 (1 : Int32) (60 : Int32) μ) (fun μ2 r3 => (if r3 = 0 then bd2 (fX7_no n v0 (-6 : Int32) μ2) (fun μ6 r7 => some (μ6, r7)) else (fX7_steps_b20 n FU v0 v1 (0 : Int32) μ2))))
theorem tX7_steps {l : Launch} {fr : Bool} {n : Nat} {v0 : Nat} {v1 : Int32} {μ : ZMem} {z : ZMem × Int32} (h : fX7_steps n v0 v1 μ = some z) : ZFn l mX7_steps (rmd 4) [.ref v0, .int v1] fr n μ (fr, n, z.1, some (.int z.2)) := by
  unfold fX7_steps at h
  obtain ⟨c_v0, h⟩ := chk_some h
  refine ZFn.of (ls := [(0, .ref v0), (1, .int v1)]) (by decide) (fun ξ => Nat.le_of_ble_eq_true rfl) (fun ξ => rfl) ?_
  refine V_aload_n 0 (zdk tbX7_steps_0_ok 0 rfl) rfl ?_
  refine V_iload_n 1 (zdk tbX7_steps_0_ok 1 rfl) rfl ?_
  refine V_iconst (v := 1) (zdk tbX7_steps_0_ok 2 rfl) rfl ?_
  refine V_bipush (v := 60) (zdk tbX7_steps_0_ok 3 rfl) rfl ?_
  obtain ⟨μ2, r3, q1, h⟩ := bd2_some h
  refine V_callV (R1 := (rmd 1)) (As := [.int v1, .int (1 : Int32), .int (60 : Int32)]) (r := (some (.int r3))) (zdk tbX7_steps_0_ok 4 rfl) sC7_122 (tX7_isFrom q1) (c_v0) rfl rfl rfl ⟨Nat.le_of_ble_eq_true rfl, Nat.le_of_ble_eq_true rfl⟩ (Nat.le_of_ble_eq_true rfl) ⟨rfl, rfl⟩ id ?_
  refine V_if_ne (tgt := 18) (zdk tbX7_steps_0_ok 5 rfl) (by decide) (fun c4 => ?_) (fun c4 => ?_)
  · replace h := ite_f h c4
    refine V_iconst (v := 0) (zdk tbX7_steps_0_ok 10 rfl) rfl ?_
    refine V_istore_n (ls' := [(0, .ref v0), (1, .int v1), (2, .int (0 : Int32))]) [1, 2, 0] (zdk tbX7_steps_0_ok 11 rfl) (Nat.le_of_ble_eq_true rfl) rfl ?_
    exact tX7_steps_b20 FU v0 v1 (0 : Int32) μ2 c_v0 h
  · replace h := ite_t h c4
    refine V_aload_n 0 (zdk tbX7_steps_0_ok 6 rfl) rfl ?_
    refine V_bipush (v := (-6)) (zdk tbX7_steps_0_ok 7 rfl) rfl ?_
    obtain ⟨μ6, r7, q5, h⟩ := bd2_some h
    refine V_callV (R1 := (rmd 1)) (As := [.int (-6 : Int32)]) (r := (some (.int r7))) (zdk tbX7_steps_0_ok 8 rfl) sC7_106 (tX7_no q5) (c_v0) rfl rfl rfl ⟨Nat.le_of_ble_eq_true rfl, Nat.le_of_ble_eq_true rfl⟩ (Nat.le_of_ble_eq_true rfl) ⟨rfl, rfl⟩ id ?_
    cases h
    exact V_iret (zdk tbX7_steps_0_ok 9 rfl) rfl rfl

-- WhoComplainsCarriesModel.draw
def tbX7_draw_0 : List (Nat × Instr × Nat) := [(0, .aload_n 0, 1), (1, .aload_n 0, 1), (2, .getfield 22, 3), (5, .ldc 251, 2), (7, .imul, 1), (8, .sipush 12345, 3), (11, .iadd, 1), (12, .putfield 22, 3), (15, .aload_n 0, 1), (16, .getfield 22, 3), (19, .bipush 16, 2), (21, .iushr, 1), (22, .iload_n 1, 1), (23, .irem, 1), (24, .ireturn, 1)]
theorem tbX7_draw_0_ok : ∀ q ∈ tbX7_draw_0, decode cX7_draw q.1 = .ok (q.2.1, q.2.2) := by decide +kernel
theorem wK7_251 : Cond.constant RX7 251 1103515245 ∈ zT := zin (i := 1220) (by decide +kernel) rfl
def fX7_draw (n : Nat) (v0 : Nat) (v1 : Int32) (μ : ZMem) : Option (ZMem × Int32) := chk (isC n 7 v0) (lt (zpI μ v0 7 (((zI μ v0 7) * (1103515245 : Int32)) + (12345 : Int32))) (fun μ1 => chk (!decide (v1 = 0)) (some (μ1, (((zI μ1 v0 7).toUInt32 >>> ((16 : Int32).toUInt32 &&& Int32.toUInt32 31)).toInt32 - ((zI μ1 v0 7).toUInt32 >>> ((16 : Int32).toUInt32 &&& Int32.toUInt32 31)).toInt32 / v1 * v1)))))
theorem tX7_draw {l : Launch} {fr : Bool} {n : Nat} {v0 : Nat} {v1 : Int32} {μ : ZMem} {z : ZMem × Int32} (h : fX7_draw n v0 v1 μ = some z) : ZFn l mX7_draw (rmd 1) [.ref v0, .int v1] fr n μ (fr, n, z.1, some (.int z.2)) := by
  unfold fX7_draw at h
  obtain ⟨c_v0, h⟩ := chk_some h
  refine ZFn.of (ls := [(0, .ref v0), (1, .int v1)]) (by decide) (fun ξ => Nat.le_of_ble_eq_true rfl) (fun ξ => rfl) ?_
  refine V_aload_n 0 (zdk tbX7_draw_0_ok 0 rfl) rfl ?_
  refine V_aload_n 0 (zdk tbX7_draw_0_ok 1 rfl) rfl ?_
  refine V_getI (zdk tbX7_draw_0_ok 2 rfl) c_v0 fF7_22 rfl ?_
  refine V_ldc (v := 1103515245) (zdk tbX7_draw_0_ok 3 rfl) wK7_251 ?_
  refine V_imul (zdk tbX7_draw_0_ok 4 rfl) ?_
  refine V_sipush (v := 12345) (zdk tbX7_draw_0_ok 5 rfl) rfl ?_
  refine V_iadd (zdk tbX7_draw_0_ok 6 rfl) ?_
  obtain ⟨μ1, e2, h⟩ := lt_some h
  refine V_putI (zdk tbX7_draw_0_ok 7 rfl) c_v0 fF7_22 rfl rfl rfl e2 ?_
  refine V_aload_n 0 (zdk tbX7_draw_0_ok 8 rfl) rfl ?_
  refine V_getI (zdk tbX7_draw_0_ok 9 rfl) c_v0 fF7_22 rfl ?_
  refine V_bipush (v := 16) (zdk tbX7_draw_0_ok 10 rfl) rfl ?_
  refine V_iushr (zdk tbX7_draw_0_ok 11 rfl) rfl ?_
  refine V_iload_n 1 (zdk tbX7_draw_0_ok 12 rfl) rfl ?_
  obtain ⟨d3, h⟩ := chk_some h
  refine V_irem (zdk tbX7_draw_0_ok 13 rfl) (nz_of d3) ?_
  cases h
  exact V_iret (zdk tbX7_draw_0_ok 14 rfl) rfl rfl

-- WhoComplainsCarriesModel.days
def tbX7_days_0 : List (Nat × Instr × Nat) := [(0, .aload_n 0, 1), (1, .getfield 99, 3), (4, .ifCond .ne 10, 3), (7, .aload_n 0, 1), (8, .bipush (-5), 2), (10, .invokevirtual 106, 3), (13, .ireturn, 1), (14, .aload_n 0, 1), (15, .iload_n 1, 1), (16, .iconst 1, 1), (17, .bipush 60, 2), (19, .invokevirtual 122, 3), (22, .ifCond .ne 10, 3), (25, .aload_n 0, 1), (26, .bipush (-6), 2), (28, .invokevirtual 106, 3), (31, .ireturn, 1), (32, .iconst 0, 1), (33, .istore_n 2, 1), (34, .iload_n 2, 1), (35, .iload_n 1, 1), (36, .if_icmp .ge 45, 3), (39, .aload_n 0, 1), (40, .aload_n 0, 1), (41, .getfield 99, 3), (44, .invokevirtual 252, 3), (47, .istore_n 3, 1), (48, .aload_n 0, 1), (49, .bipush 12, 2), (51, .invokevirtual 252, 3), (54, .istore 4, 2), (56, .iload 4, 2), (58, .bipush 6, 2), (60, .if_icmp .ge 10, 3), (63, .aload_n 0, 1), (64, .iload_n 3, 1), (65, .iload 4, 2), (67, .invokevirtual 242, 3), (70, .aload_n 0, 1), (71, .iconst 0, 1), (72, .invokevirtual 196, 3), (75, .iinc 2 1, 3), (78, .goto (-44), 3), (81, .aload_n 0, 1), (82, .getfield 130, 3), (85, .ireturn, 1)]
theorem tbX7_days_0_ok : ∀ q ∈ tbX7_days_0, decode cX7_days q.1 = .ok (q.2.1, q.2.2) := by decide +kernel
theorem wCX7_draw : zCW mX7_draw 1 := ⟨zin (i := 8) (by decide +kernel) rfl, zin (i := 1219) (by decide +kernel) rfl, by decide +kernel, by decide +kernel, by decide +kernel⟩
theorem sC7_252 : zCV RX7 252 mX7_draw 1 := ⟨zin (i := 1216) (by decide +kernel) rfl, zin (i := 1218) (by decide +kernel) rfl, zinP (i := 64) (q := (yX7_draw, 42)) (by decide +kernel) rfl, wCX7_draw⟩
def fX7_days_b70 (g34 : Nat → Int32 → Int32 → ZMem → Option (ZMem × Int32)) (n : Nat) (v0 : Nat) (v1 : Int32) (v2 : Int32) (μ : ZMem) : Option (ZMem × Int32) := bd1 (fX7_step n v0 (0 : Int32) μ) (fun μ2 => (g34 v0 v1 (v2 + (1 : Int32)) μ2))
theorem tX7_days_b70 {l : Launch} {fr : Bool} {n : Nat} {z : ZMem × Int32} {g34 : Nat → Int32 → Int32 → ZMem → Option (ZMem × Int32)} (hg34 : ∀ (v0 : Nat) (v1 : Int32) (v2 : Int32) (μ : ZMem), isC n 7 v0 = true → g34 v0 v1 v2 μ = some z → V (zkI l mX7_days (rmd 4) fr n z) fr 34 [(0, .ref v0), (1, .int v1), (2, .int v2)] [] n μ) (v0 : Nat) (v1 : Int32) (v2 : Int32) (μ : ZMem) (c_v0 : isC n 7 v0 = true) (h : fX7_days_b70 g34 n v0 v1 v2 μ = some z) : V (zkI l mX7_days (rmd 4) fr n z) fr 70 [(0, .ref v0), (1, .int v1), (2, .int v2)] [] n μ := by
  unfold fX7_days_b70 at h
  refine V_aload_n 0 (zdk tbX7_days_0_ok 38 rfl) rfl ?_
  refine V_iconst (v := 0) (zdk tbX7_days_0_ok 39 rfl) rfl ?_
  obtain ⟨μ2, q1, h⟩ := bd1_some h
  refine V_callV (R1 := (rmd 3)) (As := [.int (0 : Int32)]) (r := none) (zdk tbX7_days_0_ok 40 rfl) sC7_196 (tX7_step q1) (c_v0) rfl rfl rfl ⟨Nat.le_of_ble_eq_true rfl, Nat.le_of_ble_eq_true rfl⟩ (Nat.le_of_ble_eq_true rfl) ⟨rfl, rfl⟩ id ?_
  refine V_inc (dx := 1) (ls' := [(0, .ref v0), (1, .int v1), (2, .int (v2 + (1 : Int32)))]) 2 [1, 2, 0] (zdk tbX7_days_0_ok 41 rfl) rfl (Nat.le_of_ble_eq_true rfl) rfl rfl ?_
  refine V_goto (tgt := 34) (zdk tbX7_days_0_ok 42 rfl) (by decide) ?_
  exact hg34 v0 v1 (v2 + (1 : Int32)) μ2 c_v0 h
def fX7_days_b34 (n : Nat) : Nat → Nat → Int32 → Int32 → ZMem → Option (ZMem × Int32)
  | 0, _, _, _, _ => none
  | k + 1, v0, v1, v2, μ => (if v1 ≤ v2 then some (μ, (zI μ v0 3)) else bd2 (fX7_draw n v0 (zI μ v0 0) μ) (fun μ3 r4 => bd2 (fX7_draw n v0 (12 : Int32) μ3) (fun μ6 r7 => (if (6 : Int32) ≤ r7 then (fX7_days_b70 (fX7_days_b34 n k) n v0 v1 v2 μ6) else bd1 (fX7_speaks n v0 r4 r7 μ6) (fun μ10 => (fX7_days_b70 (fX7_days_b34 n k) n v0 v1 v2 μ10))))))
theorem tX7_days_b34 {l : Launch} {fr : Bool} {n : Nat} {z : ZMem × Int32} : ∀ (k : Nat) (v0 : Nat) (v1 : Int32) (v2 : Int32) (μ : ZMem) (c_v0 : isC n 7 v0 = true), fX7_days_b34 n k v0 v1 v2 μ = some z → V (zkI l mX7_days (rmd 4) fr n z) fr 34 [(0, .ref v0), (1, .int v1), (2, .int v2)] [] n μ := by
  intro k
  induction k with
  | zero =>
    intro v0 v1 v2 μ c_v0 h
    unfold fX7_days_b34 at h
    cases h
  | succ k ih =>
    intro v0 v1 v2 μ c_v0 h
    unfold fX7_days_b34 at h
    refine V_iload_n 2 (zdk tbX7_days_0_ok 19 rfl) rfl ?_
    refine V_iload_n 1 (zdk tbX7_days_0_ok 20 rfl) rfl ?_
    refine V_icmp_ge (tgt := 81) (zdk tbX7_days_0_ok 21 rfl) (by decide) (fun c1 => ?_) (fun c1 => ?_)
    · replace h := ite_t h c1
      refine V_aload_n 0 (zdk tbX7_days_0_ok 43 rfl) rfl ?_
      refine V_getI (zdk tbX7_days_0_ok 44 rfl) c_v0 fF7_130 rfl ?_
      cases h
      exact V_iret (zdk tbX7_days_0_ok 45 rfl) rfl rfl
    · replace h := ite_f h c1
      refine V_aload_n 0 (zdk tbX7_days_0_ok 22 rfl) rfl ?_
      refine V_aload_n 0 (zdk tbX7_days_0_ok 23 rfl) rfl ?_
      refine V_getI (zdk tbX7_days_0_ok 24 rfl) c_v0 fF7_99 rfl ?_
      obtain ⟨μ3, r4, q2, h⟩ := bd2_some h
      refine V_callV (R1 := (rmd 1)) (As := [.int (zI μ v0 0)]) (r := (some (.int r4))) (zdk tbX7_days_0_ok 25 rfl) sC7_252 (tX7_draw q2) (c_v0) rfl rfl rfl ⟨Nat.le_of_ble_eq_true rfl, Nat.le_of_ble_eq_true rfl⟩ (Nat.le_of_ble_eq_true rfl) ⟨rfl, rfl⟩ id ?_
      refine V_istore_n (ls' := [(0, .ref v0), (1, .int v1), (2, .int v2), (3, .int r4)]) [1, 2, 3, 0] (zdk tbX7_days_0_ok 26 rfl) (Nat.le_of_ble_eq_true rfl) rfl ?_
      refine V_aload_n 0 (zdk tbX7_days_0_ok 27 rfl) rfl ?_
      refine V_bipush (v := 12) (zdk tbX7_days_0_ok 28 rfl) rfl ?_
      obtain ⟨μ6, r7, q5, h⟩ := bd2_some h
      refine V_callV (R1 := (rmd 1)) (As := [.int (12 : Int32)]) (r := (some (.int r7))) (zdk tbX7_days_0_ok 29 rfl) sC7_252 (tX7_draw q5) (c_v0) rfl rfl rfl ⟨Nat.le_of_ble_eq_true rfl, Nat.le_of_ble_eq_true rfl⟩ (Nat.le_of_ble_eq_true rfl) ⟨rfl, rfl⟩ id ?_
      refine V_istore (ls' := [(0, .ref v0), (1, .int v1), (2, .int v2), (3, .int r4), (4, .int r7)]) [1, 2, 3, 4, 0] (zdk tbX7_days_0_ok 30 rfl) (Nat.le_of_ble_eq_true rfl) rfl ?_
      refine V_iload 4 (zdk tbX7_days_0_ok 31 rfl) rfl ?_
      refine V_bipush (v := 6) (zdk tbX7_days_0_ok 32 rfl) rfl ?_
      refine V_icmp_ge (tgt := 70) (zdk tbX7_days_0_ok 33 rfl) (by decide) (fun c8 => ?_) (fun c8 => ?_)
      · replace h := ite_t h c8
        refine V_sub (ls' := [(0, .ref v0), (1, .int v1), (2, .int v2)]) [0, 1, 2] rfl ?_
        exact tX7_days_b70 (fun v0 v1 v2 μ y0 h => ih v0 v1 v2 μ y0 h) v0 v1 v2 μ6 c_v0 h
      · replace h := ite_f h c8
        refine V_aload_n 0 (zdk tbX7_days_0_ok 34 rfl) rfl ?_
        refine V_iload_n 3 (zdk tbX7_days_0_ok 35 rfl) rfl ?_
        refine V_iload 4 (zdk tbX7_days_0_ok 36 rfl) rfl ?_
        obtain ⟨μ10, q9, h⟩ := bd1_some h
        refine V_callV (R1 := (rmd 1)) (As := [.int r4, .int r7]) (r := none) (zdk tbX7_days_0_ok 37 rfl) sC7_242 (tX7_speaks q9) (c_v0) rfl rfl rfl ⟨Nat.le_of_ble_eq_true rfl, Nat.le_of_ble_eq_true rfl⟩ (Nat.le_of_ble_eq_true rfl) ⟨rfl, rfl⟩ id ?_
        refine V_sub (ls' := [(0, .ref v0), (1, .int v1), (2, .int v2)]) [0, 1, 2] rfl ?_
        exact tX7_days_b70 (fun v0 v1 v2 μ y0 h => ih v0 v1 v2 μ y0 h) v0 v1 v2 μ10 c_v0 h
def fX7_days (n : Nat) (v0 : Nat) (v1 : Int32) (μ : ZMem) : Option (ZMem × Int32) := chk (isC n 7 v0) ((if (zI μ v0 0) = 0 then bd2 (fX7_no n v0 (-5 : Int32) μ) (fun μ10 r11 => some (μ10, r11)) else bd2 (fX7_isFrom n v0 v1 (1 : Int32) (60 : Int32) μ) (fun μ3 r4 => (if r4 = 0 then bd2 (fX7_no n v0 (-6 : Int32) μ3) (fun μ7 r8 => some (μ7, r8)) else (fX7_days_b34 n FU v0 v1 (0 : Int32) μ3)))))
theorem tX7_days {l : Launch} {fr : Bool} {n : Nat} {v0 : Nat} {v1 : Int32} {μ : ZMem} {z : ZMem × Int32} (h : fX7_days n v0 v1 μ = some z) : ZFn l mX7_days (rmd 4) [.ref v0, .int v1] fr n μ (fr, n, z.1, some (.int z.2)) := by
  unfold fX7_days at h
  obtain ⟨c_v0, h⟩ := chk_some h
  refine ZFn.of (ls := [(0, .ref v0), (1, .int v1)]) (by decide) (fun ξ => Nat.le_of_ble_eq_true rfl) (fun ξ => rfl) ?_
  refine V_aload_n 0 (zdk tbX7_days_0_ok 0 rfl) rfl ?_
  refine V_getI (zdk tbX7_days_0_ok 1 rfl) c_v0 fF7_99 rfl ?_
  refine V_if_ne (tgt := 14) (zdk tbX7_days_0_ok 2 rfl) (by decide) (fun c1 => ?_) (fun c1 => ?_)
  · replace h := ite_f h c1
    refine V_aload_n 0 (zdk tbX7_days_0_ok 7 rfl) rfl ?_
    refine V_iload_n 1 (zdk tbX7_days_0_ok 8 rfl) rfl ?_
    refine V_iconst (v := 1) (zdk tbX7_days_0_ok 9 rfl) rfl ?_
    refine V_bipush (v := 60) (zdk tbX7_days_0_ok 10 rfl) rfl ?_
    obtain ⟨μ3, r4, q2, h⟩ := bd2_some h
    refine V_callV (R1 := (rmd 1)) (As := [.int v1, .int (1 : Int32), .int (60 : Int32)]) (r := (some (.int r4))) (zdk tbX7_days_0_ok 11 rfl) sC7_122 (tX7_isFrom q2) (c_v0) rfl rfl rfl ⟨Nat.le_of_ble_eq_true rfl, Nat.le_of_ble_eq_true rfl⟩ (Nat.le_of_ble_eq_true rfl) ⟨rfl, rfl⟩ id ?_
    refine V_if_ne (tgt := 32) (zdk tbX7_days_0_ok 12 rfl) (by decide) (fun c5 => ?_) (fun c5 => ?_)
    · replace h := ite_f h c5
      refine V_iconst (v := 0) (zdk tbX7_days_0_ok 17 rfl) rfl ?_
      refine V_istore_n (ls' := [(0, .ref v0), (1, .int v1), (2, .int (0 : Int32))]) [1, 2, 0] (zdk tbX7_days_0_ok 18 rfl) (Nat.le_of_ble_eq_true rfl) rfl ?_
      exact tX7_days_b34 FU v0 v1 (0 : Int32) μ3 c_v0 h
    · replace h := ite_t h c5
      refine V_aload_n 0 (zdk tbX7_days_0_ok 13 rfl) rfl ?_
      refine V_bipush (v := (-6)) (zdk tbX7_days_0_ok 14 rfl) rfl ?_
      obtain ⟨μ7, r8, q6, h⟩ := bd2_some h
      refine V_callV (R1 := (rmd 1)) (As := [.int (-6 : Int32)]) (r := (some (.int r8))) (zdk tbX7_days_0_ok 15 rfl) sC7_106 (tX7_no q6) (c_v0) rfl rfl rfl ⟨Nat.le_of_ble_eq_true rfl, Nat.le_of_ble_eq_true rfl⟩ (Nat.le_of_ble_eq_true rfl) ⟨rfl, rfl⟩ id ?_
      cases h
      exact V_iret (zdk tbX7_days_0_ok 16 rfl) rfl rfl
  · replace h := ite_t h c1
    refine V_aload_n 0 (zdk tbX7_days_0_ok 3 rfl) rfl ?_
    refine V_bipush (v := (-5)) (zdk tbX7_days_0_ok 4 rfl) rfl ?_
    obtain ⟨μ10, r11, q9, h⟩ := bd2_some h
    refine V_callV (R1 := (rmd 1)) (As := [.int (-5 : Int32)]) (r := (some (.int r11))) (zdk tbX7_days_0_ok 5 rfl) sC7_106 (tX7_no q9) (c_v0) rfl rfl rfl ⟨Nat.le_of_ble_eq_true rfl, Nat.le_of_ble_eq_true rfl⟩ (Nat.le_of_ble_eq_true rfl) ⟨rfl, rfl⟩ id ?_
    cases h
    exact V_iret (zdk tbX7_days_0_ok 6 rfl) rfl rfl

-- WhoComplainsCarriesModel.seed
def tbX7_seed_0 : List (Nat × Instr × Nat) := [(0, .aload_n 0, 1), (1, .getfield 22, 3), (4, .istore_n 2, 1), (5, .aload_n 0, 1), (6, .iload_n 1, 1), (7, .putfield 22, 3), (10, .iload_n 2, 1), (11, .ireturn, 1)]
theorem tbX7_seed_0_ok : ∀ q ∈ tbX7_seed_0, decode cX7_seed q.1 = .ok (q.2.1, q.2.2) := by decide +kernel
def fX7_seed (n : Nat) (v0 : Nat) (v1 : Int32) (μ : ZMem) : Option (ZMem × Int32) := chk (isC n 7 v0) (lt (zpI μ v0 7 v1) (fun μ1 => some (μ1, (zI μ v0 7))))
theorem tX7_seed {l : Launch} {fr : Bool} {n : Nat} {v0 : Nat} {v1 : Int32} {μ : ZMem} {z : ZMem × Int32} (h : fX7_seed n v0 v1 μ = some z) : ZFn l mX7_seed (rmd 1) [.ref v0, .int v1] fr n μ (fr, n, z.1, some (.int z.2)) := by
  unfold fX7_seed at h
  obtain ⟨c_v0, h⟩ := chk_some h
  refine ZFn.of (ls := [(0, .ref v0), (1, .int v1)]) (by decide) (fun ξ => Nat.le_of_ble_eq_true rfl) (fun ξ => rfl) ?_
  refine V_aload_n 0 (zdk tbX7_seed_0_ok 0 rfl) rfl ?_
  refine V_getI (zdk tbX7_seed_0_ok 1 rfl) c_v0 fF7_22 rfl ?_
  refine V_istore_n (ls' := [(0, .ref v0), (1, .int v1), (2, .int (zI μ v0 7))]) [1, 2, 0] (zdk tbX7_seed_0_ok 2 rfl) (Nat.le_of_ble_eq_true rfl) rfl ?_
  refine V_aload_n 0 (zdk tbX7_seed_0_ok 3 rfl) rfl ?_
  refine V_iload_n 1 (zdk tbX7_seed_0_ok 4 rfl) rfl ?_
  obtain ⟨μ1, e2, h⟩ := lt_some h
  refine V_putI (zdk tbX7_seed_0_ok 5 rfl) c_v0 fF7_22 rfl rfl rfl e2 ?_
  refine V_iload_n 2 (zdk tbX7_seed_0_ok 6 rfl) rfl ?_
  cases h
  exact V_iret (zdk tbX7_seed_0_ok 7 rfl) rfl rfl

-- WhoComplainsCarriesModel.body
def tbX7_body_0 : List (Nat × Instr × Nat) := [(0, .aload_n 0, 1), (1, .getfield 255, 3), (4, .bipush 20, 2), (6, .if_icmp .ge 13, 3), (9, .aload_n 0, 1), (10, .getfield 96, 3), (13, .aload_n 0, 1), (14, .getfield 255, 3), (17, .iload_n 1, 1), (18, .iastore, 1), (19, .aload_n 0, 1), (20, .dup, 1), (21, .getfield 255, 3), (24, .iconst 1, 1), (25, .iadd, 1), (26, .putfield 255, 3), (29, .return_, 1)]
theorem tbX7_body_0_ok : ∀ q ∈ tbX7_body_0, decode cX7_body q.1 = .ok (q.2.1, q.2.2) := by decide +kernel
theorem fF7_255 : zF RX7 255 7 40 := ⟨_, rfl, by decide, zin (i := 857) (by decide +kernel) rfl⟩
def fX7_body_b19 (n : Nat) (v0 : Nat) (μ : ZMem) : Option (ZMem) := lt (zpI μ v0 40 ((zI μ v0 40) + (1 : Int32))) (fun μ1 => some μ1)
theorem tX7_body_b19 {l : Launch} {fr : Bool} {n : Nat} {z : ZMem} (v0 : Nat) (μ : ZMem) (c_v0 : isC n 7 v0 = true) (h : fX7_body_b19 n v0 μ = some z) : V (zkV l mX7_body (rmd 1) fr n z) fr 19 [(0, .ref v0)] [] n μ := by
  unfold fX7_body_b19 at h
  refine V_aload_n 0 (zdk tbX7_body_0_ok 10 rfl) rfl ?_
  refine V_dup_r (zdk tbX7_body_0_ok 11 rfl) ?_
  refine V_getI (zdk tbX7_body_0_ok 12 rfl) c_v0 fF7_255 rfl ?_
  refine V_iconst (v := 1) (zdk tbX7_body_0_ok 13 rfl) rfl ?_
  refine V_iadd (zdk tbX7_body_0_ok 14 rfl) ?_
  obtain ⟨μ1, e2, h⟩ := lt_some h
  refine V_putI (zdk tbX7_body_0_ok 15 rfl) c_v0 fF7_255 rfl rfl rfl e2 ?_
  cases h
  exact V_vret (zdk tbX7_body_0_ok 16 rfl) rfl rfl
def fX7_body (n : Nat) (v0 : Nat) (v1 : Int32) (μ : ZMem) : Option (ZMem) := chk (isC n 7 v0) ((if (20 : Int32) ≤ (zI μ v0 40) then (fX7_body_b19 n v0 μ) else bd1 (zRc n 100 μ v0 39) (fun r2 => chk (inb (zI μ v0 40) r2) (lt (zpI μ r2 (zI μ v0 40).toNatClampNeg v1) (fun μ5 => (fX7_body_b19 n v0 μ5))))))
theorem tX7_body {l : Launch} {fr : Bool} {n : Nat} {v0 : Nat} {v1 : Int32} {μ : ZMem} {z : ZMem} (h : fX7_body n v0 v1 μ = some z) : ZFn l mX7_body (rmd 1) [.ref v0, .int v1] fr n μ (fr, n, z, none) := by
  unfold fX7_body at h
  obtain ⟨c_v0, h⟩ := chk_some h
  refine ZFn.of (ls := [(0, .ref v0), (1, .int v1)]) (by decide) (fun ξ => Nat.le_of_ble_eq_true rfl) (fun ξ => rfl) ?_
  refine V_aload_n 0 (zdk tbX7_body_0_ok 0 rfl) rfl ?_
  refine V_getI (zdk tbX7_body_0_ok 1 rfl) c_v0 fF7_255 rfl ?_
  refine V_bipush (v := 20) (zdk tbX7_body_0_ok 2 rfl) rfl ?_
  refine V_icmp_ge (tgt := 19) (zdk tbX7_body_0_ok 3 rfl) (by decide) (fun c1 => ?_) (fun c1 => ?_)
  · replace h := ite_t h c1
    refine V_sub (ls' := [(0, .ref v0)]) [0] rfl ?_
    exact tX7_body_b19 v0 μ c_v0 h
  · replace h := ite_f h c1
    refine V_aload_n 0 (zdk tbX7_body_0_ok 4 rfl) rfl ?_
    obtain ⟨r2, q3, h⟩ := bd1_some h
    obtain ⟨q3, c_r2⟩ := zRc_some q3
    refine V_getR (zdk tbX7_body_0_ok 5 rfl) c_v0 fF7_96 rfl q3 ?_
    refine V_aload_n 0 (zdk tbX7_body_0_ok 6 rfl) rfl ?_
    refine V_getI (zdk tbX7_body_0_ok 7 rfl) c_v0 fF7_255 rfl ?_
    refine V_iload_n 1 (zdk tbX7_body_0_ok 8 rfl) rfl ?_
    obtain ⟨b4, h⟩ := chk_some h
    obtain ⟨μ5, e6, h⟩ := lt_some h
    refine V_iast (zdk tbX7_body_0_ok 9 rfl) c_r2 b4 e6 ?_
    refine V_sub (ls' := [(0, .ref v0)]) [0] rfl ?_
    exact tX7_body_b19 v0 μ5 c_v0 h

-- WhoComplainsCarriesModel.walking
def tbX7_walking_0 : List (Nat × Instr × Nat) := [(0, .aload_n 0, 1), (1, .getfield 32, 3), (4, .iload_n 1, 1), (5, .iaload, 1), (6, .istore_n 3, 1), (7, .iload_n 2, 1), (8, .istore 4, 2), (10, .iload_n 3, 1), (11, .iconst 1, 1), (12, .if_icmp .eq 8, 3), (15, .iload_n 3, 1), (16, .iconst 3, 1), (17, .if_icmp .ne 7, 3), (20, .iconst 1, 1), (21, .goto 4, 3), (24, .iconst 0, 1), (25, .istore 5, 2), (27, .iload_n 3, 1), (28, .iconst 4, 1), (29, .if_icmp .eq 9, 3), (32, .iload_n 3, 1), (33, .bipush 6, 2), (35, .if_icmp .ne 7, 3), (38, .iconst 1, 1), (39, .goto 4, 3), (42, .iconst 0, 1), (43, .istore 6, 2), (45, .iload_n 3, 1), (46, .bipush 6, 2), (48, .if_icmp .ne 9, 3), (51, .aload_n 0, 1), (52, .bipush 70, 2), (54, .invokevirtual 258, 3), (57, .iload_n 3, 1), (58, .iconst 3, 1), (59, .if_icmp .ne 14, 3), (62, .aload_n 0, 1), (63, .bipush 40, 2), (65, .invokevirtual 258, 3), (68, .iload_n 2, 1), (69, .iconst 1, 1), (70, .iadd, 1), (71, .istore 4, 2), (73, .iload 5, 2), (75, .ifCond .eq 9, 3), (78, .aload_n 0, 1), (79, .bipush 20, 2), (81, .invokevirtual 258, 3), (84, .iload 6, 2), (86, .ifCond .eq 9, 3)]
theorem tbX7_walking_0_ok : ∀ q ∈ tbX7_walking_0, decode cX7_walking q.1 = .ok (q.2.1, q.2.2) := by decide +kernel
def tbX7_walking_1 : List (Nat × Instr × Nat) := [(89, .aload_n 0, 1), (90, .bipush 51, 2), (92, .invokevirtual 258, 3), (95, .aload_n 0, 1), (96, .bipush 10, 2), (98, .invokevirtual 258, 3), (101, .iload 4, 2), (103, .iload_n 1, 1), (104, .iadd, 1), (105, .istore 7, 2), (107, .iload 5, 2), (109, .ifCond .eq 14, 3), (112, .iload 7, 2), (114, .aload_n 0, 1), (115, .getfield 35, 3), (118, .iload_n 1, 1), (119, .iaload, 1), (120, .iadd, 1), (121, .istore 7, 2), (123, .iload 6, 2), (125, .ifCond .eq 9, 3), (128, .iload 7, 2), (130, .iload_n 1, 1), (131, .isub, 1), (132, .istore 7, 2), (134, .iload_n 3, 1), (135, .bipush 6, 2), (137, .if_icmp .ne 10, 3), (140, .iload 7, 2), (142, .iconst 2, 1), (143, .imul, 1), (144, .goto 5, 3), (147, .iload 7, 2), (149, .ireturn, 1)]
theorem tbX7_walking_1_ok : ∀ q ∈ tbX7_walking_1, decode cX7_walking q.1 = .ok (q.2.1, q.2.2) := by decide +kernel
theorem wCX7_body : zCW mX7_body 1 := ⟨zin (i := 8) (by decide +kernel) rfl, zin (i := 1236) (by decide +kernel) rfl, by decide +kernel, by decide +kernel, by decide +kernel⟩
theorem sC7_258 : zCV RX7 258 mX7_body 1 := ⟨zin (i := 1233) (by decide +kernel) rfl, zin (i := 1235) (by decide +kernel) rfl, zinP (i := 66) (q := (yX7_body, 42)) (by decide +kernel) rfl, wCX7_body⟩
def fX7_walking_b149 (n : Nat) (s0 : Int32) (μ : ZMem) : Option (ZMem × Int32) := some (μ, s0)
theorem tX7_walking_b149 {l : Launch} {fr : Bool} {n : Nat} {z : ZMem × Int32} (s0 : Int32) (μ : ZMem) (h : fX7_walking_b149 n s0 μ = some z) : V (zkI l mX7_walking (rmd 2) fr n z) fr 149 [] [.int s0] n μ := by
  unfold fX7_walking_b149 at h
  cases h
  exact V_iret (zdk tbX7_walking_1_ok 33 rfl) rfl rfl
def fX7_walking_b134 (n : Nat) (v3 : Int32) (v7 : Int32) (μ : ZMem) : Option (ZMem × Int32) := (if v3 = (6 : Int32) then (fX7_walking_b149 n (v7 * (2 : Int32)) μ) else (fX7_walking_b149 n v7 μ))
theorem tX7_walking_b134 {l : Launch} {fr : Bool} {n : Nat} {z : ZMem × Int32} (v3 : Int32) (v7 : Int32) (μ : ZMem) (h : fX7_walking_b134 n v3 v7 μ = some z) : V (zkI l mX7_walking (rmd 2) fr n z) fr 134 [(3, .int v3), (7, .int v7)] [] n μ := by
  unfold fX7_walking_b134 at h
  refine V_iload_n 0 (zdk tbX7_walking_1_ok 25 rfl) rfl ?_
  refine V_bipush (v := 6) (zdk tbX7_walking_1_ok 26 rfl) rfl ?_
  refine V_icmp_ne (tgt := 147) (zdk tbX7_walking_1_ok 27 rfl) (by decide) (fun c1 => ?_) (fun c1 => ?_)
  · replace h := ite_f h c1
    refine V_iload 1 (zdk tbX7_walking_1_ok 32 rfl) rfl ?_
    refine V_sub (ls' := []) [] rfl ?_
    exact tX7_walking_b149 v7 μ  h
  · replace h := ite_t h c1
    refine V_iload 1 (zdk tbX7_walking_1_ok 28 rfl) rfl ?_
    refine V_iconst (v := 2) (zdk tbX7_walking_1_ok 29 rfl) rfl ?_
    refine V_imul (zdk tbX7_walking_1_ok 30 rfl) ?_
    refine V_goto (tgt := 149) (zdk tbX7_walking_1_ok 31 rfl) (by decide) ?_
    refine V_sub (ls' := []) [] rfl ?_
    exact tX7_walking_b149 (v7 * (2 : Int32)) μ  h
def fX7_walking_b123 (n : Nat) (v1 : Int32) (v3 : Int32) (v6 : Int32) (v7 : Int32) (μ : ZMem) : Option (ZMem × Int32) := (if v6 = 0 then (fX7_walking_b134 n v3 v7 μ) else (fX7_walking_b134 n v3 (v7 - v1) μ))
theorem tX7_walking_b123 {l : Launch} {fr : Bool} {n : Nat} {z : ZMem × Int32} (v1 : Int32) (v3 : Int32) (v6 : Int32) (v7 : Int32) (μ : ZMem) (h : fX7_walking_b123 n v1 v3 v6 v7 μ = some z) : V (zkI l mX7_walking (rmd 2) fr n z) fr 123 [(1, .int v1), (3, .int v3), (6, .int v6), (7, .int v7)] [] n μ := by
  unfold fX7_walking_b123 at h
  refine V_iload 2 (zdk tbX7_walking_1_ok 19 rfl) rfl ?_
  refine V_if_eq (tgt := 134) (zdk tbX7_walking_1_ok 20 rfl) (by decide) (fun c1 => ?_) (fun c1 => ?_)
  · replace h := ite_t h c1
    refine V_sub (ls' := [(3, .int v3), (7, .int v7)]) [1, 3] rfl ?_
    exact tX7_walking_b134 v3 v7 μ  h
  · replace h := ite_f h c1
    refine V_iload 3 (zdk tbX7_walking_1_ok 21 rfl) rfl ?_
    refine V_iload_n 0 (zdk tbX7_walking_1_ok 22 rfl) rfl ?_
    refine V_isub (zdk tbX7_walking_1_ok 23 rfl) ?_
    refine V_istore (ls' := [(3, .int v3), (7, .int (v7 - v1))]) [2, 0] (zdk tbX7_walking_1_ok 24 rfl) (Nat.le_of_ble_eq_true rfl) rfl ?_
    exact tX7_walking_b134 v3 (v7 - v1) μ  h
def fX7_walking_b95 (n : Nat) (v0 : Nat) (v1 : Int32) (v3 : Int32) (v4 : Int32) (v5 : Int32) (v6 : Int32) (μ : ZMem) : Option (ZMem × Int32) := bd1 (fX7_body n v0 (10 : Int32) μ) (fun μ2 => (if v5 = 0 then (fX7_walking_b123 n v1 v3 v6 (v4 + v1) μ2) else bd1 (zRc n 100 μ2 v0 11) (fun r4 => chk (inb v1 r4) ((fX7_walking_b123 n v1 v3 v6 ((v4 + v1) + (zI μ2 r4 v1.toNatClampNeg)) μ2)))))
theorem tX7_walking_b95 {l : Launch} {fr : Bool} {n : Nat} {z : ZMem × Int32} (v0 : Nat) (v1 : Int32) (v3 : Int32) (v4 : Int32) (v5 : Int32) (v6 : Int32) (μ : ZMem) (c_v0 : isC n 7 v0 = true) (h : fX7_walking_b95 n v0 v1 v3 v4 v5 v6 μ = some z) : V (zkI l mX7_walking (rmd 2) fr n z) fr 95 [(0, .ref v0), (1, .int v1), (3, .int v3), (4, .int v4), (5, .int v5), (6, .int v6)] [] n μ := by
  unfold fX7_walking_b95 at h
  refine V_aload_n 0 (zdk tbX7_walking_1_ok 3 rfl) rfl ?_
  refine V_bipush (v := 10) (zdk tbX7_walking_1_ok 4 rfl) rfl ?_
  obtain ⟨μ2, q1, h⟩ := bd1_some h
  refine V_callV (R1 := (rmd 1)) (As := [.int (10 : Int32)]) (r := none) (zdk tbX7_walking_1_ok 5 rfl) sC7_258 (tX7_body q1) (c_v0) rfl rfl rfl ⟨Nat.le_of_ble_eq_true rfl, Nat.le_of_ble_eq_true rfl⟩ (Nat.le_of_ble_eq_true rfl) ⟨rfl, rfl⟩ id ?_
  refine V_iload 3 (zdk tbX7_walking_1_ok 6 rfl) rfl ?_
  refine V_iload_n 1 (zdk tbX7_walking_1_ok 7 rfl) rfl ?_
  refine V_iadd (zdk tbX7_walking_1_ok 8 rfl) ?_
  refine V_istore (ls' := [(0, .ref v0), (1, .int v1), (3, .int v3), (5, .int v5), (6, .int v6), (7, .int (v4 + v1))]) [1, 2, 3, 5, 6, 0] (zdk tbX7_walking_1_ok 9 rfl) (Nat.le_of_ble_eq_true rfl) rfl ?_
  refine V_iload 3 (zdk tbX7_walking_1_ok 10 rfl) rfl ?_
  refine V_if_eq (tgt := 123) (zdk tbX7_walking_1_ok 11 rfl) (by decide) (fun c3 => ?_) (fun c3 => ?_)
  · replace h := ite_t h c3
    refine V_sub (ls' := [(1, .int v1), (3, .int v3), (6, .int v6), (7, .int (v4 + v1))]) [1, 2, 4, 5] rfl ?_
    exact tX7_walking_b123 v1 v3 v6 (v4 + v1) μ2  h
  · replace h := ite_f h c3
    refine V_iload 5 (zdk tbX7_walking_1_ok 12 rfl) rfl ?_
    refine V_aload_n 0 (zdk tbX7_walking_1_ok 13 rfl) rfl ?_
    obtain ⟨r4, q5, h⟩ := bd1_some h
    obtain ⟨q5, c_r4⟩ := zRc_some q5
    refine V_getR (zdk tbX7_walking_1_ok 14 rfl) c_v0 fF7_35 rfl q5 ?_
    refine V_iload_n 1 (zdk tbX7_walking_1_ok 15 rfl) rfl ?_
    obtain ⟨b6, h⟩ := chk_some h
    refine V_iald (zdk tbX7_walking_1_ok 16 rfl) c_r4 b6 ?_
    refine V_iadd (zdk tbX7_walking_1_ok 17 rfl) ?_
    refine V_istore (ls' := [(1, .int v1), (3, .int v3), (6, .int v6), (7, .int ((v4 + v1) + (zI μ2 r4 v1.toNatClampNeg)))]) [2, 3, 5, 0] (zdk tbX7_walking_1_ok 18 rfl) (Nat.le_of_ble_eq_true rfl) rfl ?_
    exact tX7_walking_b123 v1 v3 v6 ((v4 + v1) + (zI μ2 r4 v1.toNatClampNeg)) μ2  h
def fX7_walking_b84 (n : Nat) (v0 : Nat) (v1 : Int32) (v3 : Int32) (v4 : Int32) (v5 : Int32) (v6 : Int32) (μ : ZMem) : Option (ZMem × Int32) := (if v6 = 0 then (fX7_walking_b95 n v0 v1 v3 v4 v5 v6 μ) else bd1 (fX7_body n v0 (51 : Int32) μ) (fun μ3 => (fX7_walking_b95 n v0 v1 v3 v4 v5 v6 μ3)))
theorem tX7_walking_b84 {l : Launch} {fr : Bool} {n : Nat} {z : ZMem × Int32} (v0 : Nat) (v1 : Int32) (v3 : Int32) (v4 : Int32) (v5 : Int32) (v6 : Int32) (μ : ZMem) (c_v0 : isC n 7 v0 = true) (h : fX7_walking_b84 n v0 v1 v3 v4 v5 v6 μ = some z) : V (zkI l mX7_walking (rmd 2) fr n z) fr 84 [(0, .ref v0), (1, .int v1), (3, .int v3), (4, .int v4), (5, .int v5), (6, .int v6)] [] n μ := by
  unfold fX7_walking_b84 at h
  refine V_iload 5 (zdk tbX7_walking_0_ok 48 rfl) rfl ?_
  refine V_if_eq (tgt := 95) (zdk tbX7_walking_0_ok 49 rfl) (by decide) (fun c1 => ?_) (fun c1 => ?_)
  · replace h := ite_t h c1
    exact tX7_walking_b95 v0 v1 v3 v4 v5 v6 μ c_v0 h
  · replace h := ite_f h c1
    refine V_aload_n 0 (zdk tbX7_walking_1_ok 0 rfl) rfl ?_
    refine V_bipush (v := 51) (zdk tbX7_walking_1_ok 1 rfl) rfl ?_
    obtain ⟨μ3, q2, h⟩ := bd1_some h
    refine V_callV (R1 := (rmd 1)) (As := [.int (51 : Int32)]) (r := none) (zdk tbX7_walking_1_ok 2 rfl) sC7_258 (tX7_body q2) (c_v0) rfl rfl rfl ⟨Nat.le_of_ble_eq_true rfl, Nat.le_of_ble_eq_true rfl⟩ (Nat.le_of_ble_eq_true rfl) ⟨rfl, rfl⟩ id ?_
    exact tX7_walking_b95 v0 v1 v3 v4 v5 v6 μ3 c_v0 h
def fX7_walking_b73 (n : Nat) (v0 : Nat) (v1 : Int32) (v3 : Int32) (v4 : Int32) (v5 : Int32) (v6 : Int32) (μ : ZMem) : Option (ZMem × Int32) := (if v5 = 0 then (fX7_walking_b84 n v0 v1 v3 v4 v5 v6 μ) else bd1 (fX7_body n v0 (20 : Int32) μ) (fun μ3 => (fX7_walking_b84 n v0 v1 v3 v4 v5 v6 μ3)))
theorem tX7_walking_b73 {l : Launch} {fr : Bool} {n : Nat} {z : ZMem × Int32} (v0 : Nat) (v1 : Int32) (v3 : Int32) (v4 : Int32) (v5 : Int32) (v6 : Int32) (μ : ZMem) (c_v0 : isC n 7 v0 = true) (h : fX7_walking_b73 n v0 v1 v3 v4 v5 v6 μ = some z) : V (zkI l mX7_walking (rmd 2) fr n z) fr 73 [(0, .ref v0), (1, .int v1), (3, .int v3), (4, .int v4), (5, .int v5), (6, .int v6)] [] n μ := by
  unfold fX7_walking_b73 at h
  refine V_iload 4 (zdk tbX7_walking_0_ok 43 rfl) rfl ?_
  refine V_if_eq (tgt := 84) (zdk tbX7_walking_0_ok 44 rfl) (by decide) (fun c1 => ?_) (fun c1 => ?_)
  · replace h := ite_t h c1
    exact tX7_walking_b84 v0 v1 v3 v4 v5 v6 μ c_v0 h
  · replace h := ite_f h c1
    refine V_aload_n 0 (zdk tbX7_walking_0_ok 45 rfl) rfl ?_
    refine V_bipush (v := 20) (zdk tbX7_walking_0_ok 46 rfl) rfl ?_
    obtain ⟨μ3, q2, h⟩ := bd1_some h
    refine V_callV (R1 := (rmd 1)) (As := [.int (20 : Int32)]) (r := none) (zdk tbX7_walking_0_ok 47 rfl) sC7_258 (tX7_body q2) (c_v0) rfl rfl rfl ⟨Nat.le_of_ble_eq_true rfl, Nat.le_of_ble_eq_true rfl⟩ (Nat.le_of_ble_eq_true rfl) ⟨rfl, rfl⟩ id ?_
    exact tX7_walking_b84 v0 v1 v3 v4 v5 v6 μ3 c_v0 h
def fX7_walking_b57 (n : Nat) (v0 : Nat) (v1 : Int32) (v2 : Int32) (v3 : Int32) (v4 : Int32) (v5 : Int32) (v6 : Int32) (μ : ZMem) : Option (ZMem × Int32) := (if v3 = (3 : Int32) then bd1 (fX7_body n v0 (40 : Int32) μ) (fun μ3 => (fX7_walking_b73 n v0 v1 v3 (v2 + (1 : Int32)) v5 v6 μ3)) else (fX7_walking_b73 n v0 v1 v3 v4 v5 v6 μ))
theorem tX7_walking_b57 {l : Launch} {fr : Bool} {n : Nat} {z : ZMem × Int32} (v0 : Nat) (v1 : Int32) (v2 : Int32) (v3 : Int32) (v4 : Int32) (v5 : Int32) (v6 : Int32) (μ : ZMem) (c_v0 : isC n 7 v0 = true) (h : fX7_walking_b57 n v0 v1 v2 v3 v4 v5 v6 μ = some z) : V (zkI l mX7_walking (rmd 2) fr n z) fr 57 [(0, .ref v0), (1, .int v1), (2, .int v2), (3, .int v3), (4, .int v4), (5, .int v5), (6, .int v6)] [] n μ := by
  unfold fX7_walking_b57 at h
  refine V_iload_n 3 (zdk tbX7_walking_0_ok 33 rfl) rfl ?_
  refine V_iconst (v := 3) (zdk tbX7_walking_0_ok 34 rfl) rfl ?_
  refine V_icmp_ne (tgt := 73) (zdk tbX7_walking_0_ok 35 rfl) (by decide) (fun c1 => ?_) (fun c1 => ?_)
  · replace h := ite_f h c1
    refine V_sub (ls' := [(0, .ref v0), (1, .int v1), (3, .int v3), (4, .int v4), (5, .int v5), (6, .int v6)]) [0, 1, 3, 4, 5, 6] rfl ?_
    exact tX7_walking_b73 v0 v1 v3 v4 v5 v6 μ c_v0 h
  · replace h := ite_t h c1
    refine V_aload_n 0 (zdk tbX7_walking_0_ok 36 rfl) rfl ?_
    refine V_bipush (v := 40) (zdk tbX7_walking_0_ok 37 rfl) rfl ?_
    obtain ⟨μ3, q2, h⟩ := bd1_some h
    refine V_callV (R1 := (rmd 1)) (As := [.int (40 : Int32)]) (r := none) (zdk tbX7_walking_0_ok 38 rfl) sC7_258 (tX7_body q2) (c_v0) rfl rfl rfl ⟨Nat.le_of_ble_eq_true rfl, Nat.le_of_ble_eq_true rfl⟩ (Nat.le_of_ble_eq_true rfl) ⟨rfl, rfl⟩ id ?_
    refine V_iload_n 2 (zdk tbX7_walking_0_ok 39 rfl) rfl ?_
    refine V_iconst (v := 1) (zdk tbX7_walking_0_ok 40 rfl) rfl ?_
    refine V_iadd (zdk tbX7_walking_0_ok 41 rfl) ?_
    refine V_istore (ls' := [(0, .ref v0), (1, .int v1), (3, .int v3), (4, .int (v2 + (1 : Int32))), (5, .int v5), (6, .int v6)]) [1, 2, 4, 0, 5, 6] (zdk tbX7_walking_0_ok 42 rfl) (Nat.le_of_ble_eq_true rfl) rfl ?_
    exact tX7_walking_b73 v0 v1 v3 (v2 + (1 : Int32)) v5 v6 μ3 c_v0 h
def fX7_walking_b43 (n : Nat) (v0 : Nat) (v1 : Int32) (v2 : Int32) (v3 : Int32) (v4 : Int32) (v5 : Int32) (s0 : Int32) (μ : ZMem) : Option (ZMem × Int32) := (if v3 = (6 : Int32) then bd1 (fX7_body n v0 (70 : Int32) μ) (fun μ3 => (fX7_walking_b57 n v0 v1 v2 v3 v4 v5 s0 μ3)) else (fX7_walking_b57 n v0 v1 v2 v3 v4 v5 s0 μ))
theorem tX7_walking_b43 {l : Launch} {fr : Bool} {n : Nat} {z : ZMem × Int32} (v0 : Nat) (v1 : Int32) (v2 : Int32) (v3 : Int32) (v4 : Int32) (v5 : Int32) (s0 : Int32) (μ : ZMem) (c_v0 : isC n 7 v0 = true) (h : fX7_walking_b43 n v0 v1 v2 v3 v4 v5 s0 μ = some z) : V (zkI l mX7_walking (rmd 2) fr n z) fr 43 [(0, .ref v0), (1, .int v1), (2, .int v2), (3, .int v3), (4, .int v4), (5, .int v5)] [.int s0] n μ := by
  unfold fX7_walking_b43 at h
  refine V_istore (ls' := [(0, .ref v0), (1, .int v1), (2, .int v2), (3, .int v3), (4, .int v4), (5, .int v5), (6, .int s0)]) [1, 2, 3, 4, 5, 6, 0] (zdk tbX7_walking_0_ok 26 rfl) (Nat.le_of_ble_eq_true rfl) rfl ?_
  refine V_iload_n 3 (zdk tbX7_walking_0_ok 27 rfl) rfl ?_
  refine V_bipush (v := 6) (zdk tbX7_walking_0_ok 28 rfl) rfl ?_
  refine V_icmp_ne (tgt := 57) (zdk tbX7_walking_0_ok 29 rfl) (by decide) (fun c1 => ?_) (fun c1 => ?_)
  · replace h := ite_f h c1
    exact tX7_walking_b57 v0 v1 v2 v3 v4 v5 s0 μ c_v0 h
  · replace h := ite_t h c1
    refine V_aload_n 0 (zdk tbX7_walking_0_ok 30 rfl) rfl ?_
    refine V_bipush (v := 70) (zdk tbX7_walking_0_ok 31 rfl) rfl ?_
    obtain ⟨μ3, q2, h⟩ := bd1_some h
    refine V_callV (R1 := (rmd 1)) (As := [.int (70 : Int32)]) (r := none) (zdk tbX7_walking_0_ok 32 rfl) sC7_258 (tX7_body q2) (c_v0) rfl rfl rfl ⟨Nat.le_of_ble_eq_true rfl, Nat.le_of_ble_eq_true rfl⟩ (Nat.le_of_ble_eq_true rfl) ⟨rfl, rfl⟩ id ?_
    exact tX7_walking_b57 v0 v1 v2 v3 v4 v5 s0 μ3 c_v0 h
def fX7_walking_b38 (n : Nat) (v0 : Nat) (v1 : Int32) (v2 : Int32) (v3 : Int32) (v4 : Int32) (v5 : Int32) (μ : ZMem) : Option (ZMem × Int32) := (fX7_walking_b43 n v0 v1 v2 v3 v4 v5 (1 : Int32) μ)
theorem tX7_walking_b38 {l : Launch} {fr : Bool} {n : Nat} {z : ZMem × Int32} (v0 : Nat) (v1 : Int32) (v2 : Int32) (v3 : Int32) (v4 : Int32) (v5 : Int32) (μ : ZMem) (c_v0 : isC n 7 v0 = true) (h : fX7_walking_b38 n v0 v1 v2 v3 v4 v5 μ = some z) : V (zkI l mX7_walking (rmd 2) fr n z) fr 38 [(0, .ref v0), (1, .int v1), (2, .int v2), (3, .int v3), (4, .int v4), (5, .int v5)] [] n μ := by
  unfold fX7_walking_b38 at h
  refine V_iconst (v := 1) (zdk tbX7_walking_0_ok 23 rfl) rfl ?_
  refine V_goto (tgt := 43) (zdk tbX7_walking_0_ok 24 rfl) (by decide) ?_
  exact tX7_walking_b43 v0 v1 v2 v3 v4 v5 (1 : Int32) μ c_v0 h
def fX7_walking_b25 (n : Nat) (v0 : Nat) (v1 : Int32) (v2 : Int32) (v3 : Int32) (v4 : Int32) (s0 : Int32) (μ : ZMem) : Option (ZMem × Int32) := (if v3 = (4 : Int32) then (fX7_walking_b38 n v0 v1 v2 v3 v4 s0 μ) else (if v3 = (6 : Int32) then (fX7_walking_b38 n v0 v1 v2 v3 v4 s0 μ) else (fX7_walking_b43 n v0 v1 v2 v3 v4 s0 (0 : Int32) μ)))
theorem tX7_walking_b25 {l : Launch} {fr : Bool} {n : Nat} {z : ZMem × Int32} (v0 : Nat) (v1 : Int32) (v2 : Int32) (v3 : Int32) (v4 : Int32) (s0 : Int32) (μ : ZMem) (c_v0 : isC n 7 v0 = true) (h : fX7_walking_b25 n v0 v1 v2 v3 v4 s0 μ = some z) : V (zkI l mX7_walking (rmd 2) fr n z) fr 25 [(0, .ref v0), (1, .int v1), (2, .int v2), (3, .int v3), (4, .int v4)] [.int s0] n μ := by
  unfold fX7_walking_b25 at h
  refine V_istore (ls' := [(0, .ref v0), (1, .int v1), (2, .int v2), (3, .int v3), (4, .int v4), (5, .int s0)]) [1, 2, 3, 4, 5, 0] (zdk tbX7_walking_0_ok 16 rfl) (Nat.le_of_ble_eq_true rfl) rfl ?_
  refine V_iload_n 3 (zdk tbX7_walking_0_ok 17 rfl) rfl ?_
  refine V_iconst (v := 4) (zdk tbX7_walking_0_ok 18 rfl) rfl ?_
  refine V_icmp_eq (tgt := 38) (zdk tbX7_walking_0_ok 19 rfl) (by decide) (fun c1 => ?_) (fun c1 => ?_)
  · replace h := ite_t h c1
    exact tX7_walking_b38 v0 v1 v2 v3 v4 s0 μ c_v0 h
  · replace h := ite_f h c1
    refine V_iload_n 3 (zdk tbX7_walking_0_ok 20 rfl) rfl ?_
    refine V_bipush (v := 6) (zdk tbX7_walking_0_ok 21 rfl) rfl ?_
    refine V_icmp_ne (tgt := 42) (zdk tbX7_walking_0_ok 22 rfl) (by decide) (fun c2 => ?_) (fun c2 => ?_)
    · replace h := ite_f h c2
      refine V_iconst (v := 0) (zdk tbX7_walking_0_ok 25 rfl) rfl ?_
      exact tX7_walking_b43 v0 v1 v2 v3 v4 s0 (0 : Int32) μ c_v0 h
    · replace h := ite_t h c2
      exact tX7_walking_b38 v0 v1 v2 v3 v4 s0 μ c_v0 h
def fX7_walking_b20 (n : Nat) (v0 : Nat) (v1 : Int32) (v2 : Int32) (v3 : Int32) (v4 : Int32) (μ : ZMem) : Option (ZMem × Int32) := (fX7_walking_b25 n v0 v1 v2 v3 v4 (1 : Int32) μ)
theorem tX7_walking_b20 {l : Launch} {fr : Bool} {n : Nat} {z : ZMem × Int32} (v0 : Nat) (v1 : Int32) (v2 : Int32) (v3 : Int32) (v4 : Int32) (μ : ZMem) (c_v0 : isC n 7 v0 = true) (h : fX7_walking_b20 n v0 v1 v2 v3 v4 μ = some z) : V (zkI l mX7_walking (rmd 2) fr n z) fr 20 [(0, .ref v0), (1, .int v1), (2, .int v2), (3, .int v3), (4, .int v4)] [] n μ := by
  unfold fX7_walking_b20 at h
  refine V_iconst (v := 1) (zdk tbX7_walking_0_ok 13 rfl) rfl ?_
  refine V_goto (tgt := 25) (zdk tbX7_walking_0_ok 14 rfl) (by decide) ?_
  exact tX7_walking_b25 v0 v1 v2 v3 v4 (1 : Int32) μ c_v0 h
def fX7_walking (n : Nat) (v0 : Nat) (v1 : Int32) (v2 : Int32) (μ : ZMem) : Option (ZMem × Int32) := chk (isC n 7 v0) (bd1 (zRc n 100 μ v0 10) (fun r1 => chk (inb v1 r1) ((if (zI μ r1 v1.toNatClampNeg) = (1 : Int32) then (fX7_walking_b20 n v0 v1 v2 (zI μ r1 v1.toNatClampNeg) v2 μ) else (if (zI μ r1 v1.toNatClampNeg) = (3 : Int32) then (fX7_walking_b20 n v0 v1 v2 (zI μ r1 v1.toNatClampNeg) v2 μ) else (fX7_walking_b25 n v0 v1 v2 (zI μ r1 v1.toNatClampNeg) v2 (0 : Int32) μ))))))
theorem tX7_walking {l : Launch} {fr : Bool} {n : Nat} {v0 : Nat} {v1 : Int32} {v2 : Int32} {μ : ZMem} {z : ZMem × Int32} (h : fX7_walking n v0 v1 v2 μ = some z) : ZFn l mX7_walking (rmd 2) [.ref v0, .int v1, .int v2] fr n μ (fr, n, z.1, some (.int z.2)) := by
  unfold fX7_walking at h
  obtain ⟨c_v0, h⟩ := chk_some h
  refine ZFn.of (ls := [(0, .ref v0), (1, .int v1), (2, .int v2)]) (by decide) (fun ξ => Nat.le_of_ble_eq_true rfl) (fun ξ => rfl) ?_
  refine V_aload_n 0 (zdk tbX7_walking_0_ok 0 rfl) rfl ?_
  obtain ⟨r1, q2, h⟩ := bd1_some h
  obtain ⟨q2, c_r1⟩ := zRc_some q2
  refine V_getR (zdk tbX7_walking_0_ok 1 rfl) c_v0 fF7_32 rfl q2 ?_
  refine V_iload_n 1 (zdk tbX7_walking_0_ok 2 rfl) rfl ?_
  obtain ⟨b3, h⟩ := chk_some h
  refine V_iald (zdk tbX7_walking_0_ok 3 rfl) c_r1 b3 ?_
  refine V_istore_n (ls' := [(0, .ref v0), (1, .int v1), (2, .int v2), (3, .int (zI μ r1 v1.toNatClampNeg))]) [1, 2, 3, 0] (zdk tbX7_walking_0_ok 4 rfl) (Nat.le_of_ble_eq_true rfl) rfl ?_
  refine V_iload_n 2 (zdk tbX7_walking_0_ok 5 rfl) rfl ?_
  refine V_istore (ls' := [(0, .ref v0), (1, .int v1), (2, .int v2), (3, .int (zI μ r1 v1.toNatClampNeg)), (4, .int v2)]) [1, 2, 3, 4, 0] (zdk tbX7_walking_0_ok 6 rfl) (Nat.le_of_ble_eq_true rfl) rfl ?_
  refine V_iload_n 3 (zdk tbX7_walking_0_ok 7 rfl) rfl ?_
  refine V_iconst (v := 1) (zdk tbX7_walking_0_ok 8 rfl) rfl ?_
  refine V_icmp_eq (tgt := 20) (zdk tbX7_walking_0_ok 9 rfl) (by decide) (fun c4 => ?_) (fun c4 => ?_)
  · replace h := ite_t h c4
    exact tX7_walking_b20 v0 v1 v2 (zI μ r1 v1.toNatClampNeg) v2 μ c_v0 h
  · replace h := ite_f h c4
    refine V_iload_n 3 (zdk tbX7_walking_0_ok 10 rfl) rfl ?_
    refine V_iconst (v := 3) (zdk tbX7_walking_0_ok 11 rfl) rfl ?_
    refine V_icmp_ne (tgt := 24) (zdk tbX7_walking_0_ok 12 rfl) (by decide) (fun c5 => ?_) (fun c5 => ?_)
    · replace h := ite_f h c5
      refine V_iconst (v := 0) (zdk tbX7_walking_0_ok 15 rfl) rfl ?_
      exact tX7_walking_b25 v0 v1 v2 (zI μ r1 v1.toNatClampNeg) v2 (0 : Int32) μ c_v0 h
    · replace h := ite_t h c5
      exact tX7_walking_b20 v0 v1 v2 (zI μ r1 v1.toNatClampNeg) v2 μ c_v0 h

-- WhoComplainsCarriesModel.bearing
def tbX7_bearing_0 : List (Nat × Instr × Nat) := [(0, .aload_n 0, 1), (1, .getfield 32, 3), (4, .iload_n 1, 1), (5, .iaload, 1), (6, .istore_n 3, 1), (7, .iload_n 2, 1), (8, .istore 4, 2), (10, .iload_n 3, 1), (11, .bipush 6, 2), (13, .if_icmp .ne 19, 3), (16, .aload_n 0, 1), (17, .bipush 71, 2), (19, .invokevirtual 258, 3), (22, .iload_n 2, 1), (23, .aload_n 0, 1), (24, .getfield 35, 3), (27, .iload_n 1, 1), (28, .iaload, 1), (29, .isub, 1), (30, .istore 4, 2), (32, .iload_n 3, 1), (33, .iconst 2, 1), (34, .if_icmp .eq 8, 3), (37, .iload_n 3, 1), (38, .iconst 5, 1), (39, .if_icmp .ne 7, 3), (42, .iconst 1, 1), (43, .goto 4, 3), (46, .iconst 0, 1), (47, .istore 5, 2), (49, .iload 5, 2), (51, .ifCond .eq 9, 3), (54, .aload_n 0, 1), (55, .bipush 30, 2), (57, .invokevirtual 258, 3), (60, .aload_n 0, 1), (61, .bipush 11, 2), (63, .invokevirtual 258, 3), (66, .aload_n 0, 1), (67, .iload_n 1, 1), (68, .iload 4, 2), (70, .invokevirtual 262, 3), (73, .iconst 2, 1), (74, .imul, 1), (75, .istore 6, 2), (77, .iload 5, 2), (79, .ifCond .eq 10, 3), (82, .iload 6, 2), (84, .iconst 3, 1), (85, .imul, 1)]
theorem tbX7_bearing_0_ok : ∀ q ∈ tbX7_bearing_0, decode cX7_bearing q.1 = .ok (q.2.1, q.2.2) := by decide +kernel
def tbX7_bearing_1 : List (Nat × Instr × Nat) := [(86, .goto 5, 3), (89, .iload 6, 2), (91, .ireturn, 1)]
theorem tbX7_bearing_1_ok : ∀ q ∈ tbX7_bearing_1, decode cX7_bearing q.1 = .ok (q.2.1, q.2.2) := by decide +kernel
theorem wCX7_walking : zCW mX7_walking 2 := ⟨zin (i := 8) (by decide +kernel) rfl, zin (i := 1232) (by decide +kernel) rfl, by decide +kernel, by decide +kernel, by decide +kernel⟩
theorem sC7_262 : zCV RX7 262 mX7_walking 2 := ⟨zin (i := 1229) (by decide +kernel) rfl, zin (i := 1231) (by decide +kernel) rfl, zinP (i := 65) (q := (yX7_walking, 42)) (by decide +kernel) rfl, wCX7_walking⟩
def fX7_bearing_b91 (n : Nat) (s0 : Int32) (μ : ZMem) : Option (ZMem × Int32) := some (μ, s0)
theorem tX7_bearing_b91 {l : Launch} {fr : Bool} {n : Nat} {z : ZMem × Int32} (s0 : Int32) (μ : ZMem) (h : fX7_bearing_b91 n s0 μ = some z) : V (zkI l mX7_bearing (rmd 3) fr n z) fr 91 [] [.int s0] n μ := by
  unfold fX7_bearing_b91 at h
  cases h
  exact V_iret (zdk tbX7_bearing_1_ok 2 rfl) rfl rfl
def fX7_bearing_b60 (n : Nat) (v0 : Nat) (v1 : Int32) (v4 : Int32) (v5 : Int32) (μ : ZMem) : Option (ZMem × Int32) := bd1 (fX7_body n v0 (11 : Int32) μ) (fun μ2 => bd2 (fX7_walking n v0 v1 v4 μ2) (fun μ4 r5 => (if v5 = 0 then (fX7_bearing_b91 n (r5 * (2 : Int32)) μ4) else (fX7_bearing_b91 n ((r5 * (2 : Int32)) * (3 : Int32)) μ4))))
theorem tX7_bearing_b60 {l : Launch} {fr : Bool} {n : Nat} {z : ZMem × Int32} (v0 : Nat) (v1 : Int32) (v4 : Int32) (v5 : Int32) (μ : ZMem) (c_v0 : isC n 7 v0 = true) (h : fX7_bearing_b60 n v0 v1 v4 v5 μ = some z) : V (zkI l mX7_bearing (rmd 3) fr n z) fr 60 [(0, .ref v0), (1, .int v1), (4, .int v4), (5, .int v5)] [] n μ := by
  unfold fX7_bearing_b60 at h
  refine V_aload_n 0 (zdk tbX7_bearing_0_ok 35 rfl) rfl ?_
  refine V_bipush (v := 11) (zdk tbX7_bearing_0_ok 36 rfl) rfl ?_
  obtain ⟨μ2, q1, h⟩ := bd1_some h
  refine V_callV (R1 := (rmd 1)) (As := [.int (11 : Int32)]) (r := none) (zdk tbX7_bearing_0_ok 37 rfl) sC7_258 (tX7_body q1) (c_v0) rfl rfl rfl ⟨Nat.le_of_ble_eq_true rfl, Nat.le_of_ble_eq_true rfl⟩ (Nat.le_of_ble_eq_true rfl) ⟨rfl, rfl⟩ id ?_
  refine V_aload_n 0 (zdk tbX7_bearing_0_ok 38 rfl) rfl ?_
  refine V_iload_n 1 (zdk tbX7_bearing_0_ok 39 rfl) rfl ?_
  refine V_iload 2 (zdk tbX7_bearing_0_ok 40 rfl) rfl ?_
  obtain ⟨μ4, r5, q3, h⟩ := bd2_some h
  refine V_callV (R1 := (rmd 2)) (As := [.int v1, .int v4]) (r := (some (.int r5))) (zdk tbX7_bearing_0_ok 41 rfl) sC7_262 (tX7_walking q3) (c_v0) rfl rfl rfl ⟨Nat.le_of_ble_eq_true rfl, Nat.le_of_ble_eq_true rfl⟩ (Nat.le_of_ble_eq_true rfl) ⟨rfl, rfl⟩ id ?_
  refine V_iconst (v := 2) (zdk tbX7_bearing_0_ok 42 rfl) rfl ?_
  refine V_imul (zdk tbX7_bearing_0_ok 43 rfl) ?_
  refine V_istore (ls' := [(5, .int v5), (6, .int (r5 * (2 : Int32)))]) [4, 0] (zdk tbX7_bearing_0_ok 44 rfl) (Nat.le_of_ble_eq_true rfl) rfl ?_
  refine V_iload 0 (zdk tbX7_bearing_0_ok 45 rfl) rfl ?_
  refine V_if_eq (tgt := 89) (zdk tbX7_bearing_0_ok 46 rfl) (by decide) (fun c6 => ?_) (fun c6 => ?_)
  · replace h := ite_t h c6
    refine V_iload 1 (zdk tbX7_bearing_1_ok 1 rfl) rfl ?_
    refine V_sub (ls' := []) [] rfl ?_
    exact tX7_bearing_b91 (r5 * (2 : Int32)) μ4  h
  · replace h := ite_f h c6
    refine V_iload 1 (zdk tbX7_bearing_0_ok 47 rfl) rfl ?_
    refine V_iconst (v := 3) (zdk tbX7_bearing_0_ok 48 rfl) rfl ?_
    refine V_imul (zdk tbX7_bearing_0_ok 49 rfl) ?_
    refine V_goto (tgt := 91) (zdk tbX7_bearing_1_ok 0 rfl) (by decide) ?_
    refine V_sub (ls' := []) [] rfl ?_
    exact tX7_bearing_b91 ((r5 * (2 : Int32)) * (3 : Int32)) μ4  h
def fX7_bearing_b47 (n : Nat) (v0 : Nat) (v1 : Int32) (v4 : Int32) (s0 : Int32) (μ : ZMem) : Option (ZMem × Int32) := (if s0 = 0 then (fX7_bearing_b60 n v0 v1 v4 s0 μ) else bd1 (fX7_body n v0 (30 : Int32) μ) (fun μ3 => (fX7_bearing_b60 n v0 v1 v4 s0 μ3)))
theorem tX7_bearing_b47 {l : Launch} {fr : Bool} {n : Nat} {z : ZMem × Int32} (v0 : Nat) (v1 : Int32) (v4 : Int32) (s0 : Int32) (μ : ZMem) (c_v0 : isC n 7 v0 = true) (h : fX7_bearing_b47 n v0 v1 v4 s0 μ = some z) : V (zkI l mX7_bearing (rmd 3) fr n z) fr 47 [(0, .ref v0), (1, .int v1), (4, .int v4)] [.int s0] n μ := by
  unfold fX7_bearing_b47 at h
  refine V_istore (ls' := [(0, .ref v0), (1, .int v1), (4, .int v4), (5, .int s0)]) [1, 2, 3, 0] (zdk tbX7_bearing_0_ok 29 rfl) (Nat.le_of_ble_eq_true rfl) rfl ?_
  refine V_iload 3 (zdk tbX7_bearing_0_ok 30 rfl) rfl ?_
  refine V_if_eq (tgt := 60) (zdk tbX7_bearing_0_ok 31 rfl) (by decide) (fun c1 => ?_) (fun c1 => ?_)
  · replace h := ite_t h c1
    exact tX7_bearing_b60 v0 v1 v4 s0 μ c_v0 h
  · replace h := ite_f h c1
    refine V_aload_n 0 (zdk tbX7_bearing_0_ok 32 rfl) rfl ?_
    refine V_bipush (v := 30) (zdk tbX7_bearing_0_ok 33 rfl) rfl ?_
    obtain ⟨μ3, q2, h⟩ := bd1_some h
    refine V_callV (R1 := (rmd 1)) (As := [.int (30 : Int32)]) (r := none) (zdk tbX7_bearing_0_ok 34 rfl) sC7_258 (tX7_body q2) (c_v0) rfl rfl rfl ⟨Nat.le_of_ble_eq_true rfl, Nat.le_of_ble_eq_true rfl⟩ (Nat.le_of_ble_eq_true rfl) ⟨rfl, rfl⟩ id ?_
    exact tX7_bearing_b60 v0 v1 v4 s0 μ3 c_v0 h
def fX7_bearing_b42 (n : Nat) (v0 : Nat) (v1 : Int32) (v4 : Int32) (μ : ZMem) : Option (ZMem × Int32) := (fX7_bearing_b47 n v0 v1 v4 (1 : Int32) μ)
theorem tX7_bearing_b42 {l : Launch} {fr : Bool} {n : Nat} {z : ZMem × Int32} (v0 : Nat) (v1 : Int32) (v4 : Int32) (μ : ZMem) (c_v0 : isC n 7 v0 = true) (h : fX7_bearing_b42 n v0 v1 v4 μ = some z) : V (zkI l mX7_bearing (rmd 3) fr n z) fr 42 [(0, .ref v0), (1, .int v1), (4, .int v4)] [] n μ := by
  unfold fX7_bearing_b42 at h
  refine V_iconst (v := 1) (zdk tbX7_bearing_0_ok 26 rfl) rfl ?_
  refine V_goto (tgt := 47) (zdk tbX7_bearing_0_ok 27 rfl) (by decide) ?_
  exact tX7_bearing_b47 v0 v1 v4 (1 : Int32) μ c_v0 h
def fX7_bearing_b32 (n : Nat) (v0 : Nat) (v1 : Int32) (v3 : Int32) (v4 : Int32) (μ : ZMem) : Option (ZMem × Int32) := (if v3 = (2 : Int32) then (fX7_bearing_b42 n v0 v1 v4 μ) else (if v3 = (5 : Int32) then (fX7_bearing_b42 n v0 v1 v4 μ) else (fX7_bearing_b47 n v0 v1 v4 (0 : Int32) μ)))
theorem tX7_bearing_b32 {l : Launch} {fr : Bool} {n : Nat} {z : ZMem × Int32} (v0 : Nat) (v1 : Int32) (v3 : Int32) (v4 : Int32) (μ : ZMem) (c_v0 : isC n 7 v0 = true) (h : fX7_bearing_b32 n v0 v1 v3 v4 μ = some z) : V (zkI l mX7_bearing (rmd 3) fr n z) fr 32 [(0, .ref v0), (1, .int v1), (3, .int v3), (4, .int v4)] [] n μ := by
  unfold fX7_bearing_b32 at h
  refine V_iload_n 2 (zdk tbX7_bearing_0_ok 20 rfl) rfl ?_
  refine V_iconst (v := 2) (zdk tbX7_bearing_0_ok 21 rfl) rfl ?_
  refine V_icmp_eq (tgt := 42) (zdk tbX7_bearing_0_ok 22 rfl) (by decide) (fun c1 => ?_) (fun c1 => ?_)
  · replace h := ite_t h c1
    refine V_sub (ls' := [(0, .ref v0), (1, .int v1), (4, .int v4)]) [0, 1, 3] rfl ?_
    exact tX7_bearing_b42 v0 v1 v4 μ c_v0 h
  · replace h := ite_f h c1
    refine V_iload_n 2 (zdk tbX7_bearing_0_ok 23 rfl) rfl ?_
    refine V_iconst (v := 5) (zdk tbX7_bearing_0_ok 24 rfl) rfl ?_
    refine V_icmp_ne (tgt := 46) (zdk tbX7_bearing_0_ok 25 rfl) (by decide) (fun c2 => ?_) (fun c2 => ?_)
    · replace h := ite_f h c2
      refine V_iconst (v := 0) (zdk tbX7_bearing_0_ok 28 rfl) rfl ?_
      refine V_sub (ls' := [(0, .ref v0), (1, .int v1), (4, .int v4)]) [0, 1, 3] rfl ?_
      exact tX7_bearing_b47 v0 v1 v4 (0 : Int32) μ c_v0 h
    · replace h := ite_t h c2
      refine V_sub (ls' := [(0, .ref v0), (1, .int v1), (4, .int v4)]) [0, 1, 3] rfl ?_
      exact tX7_bearing_b42 v0 v1 v4 μ c_v0 h
def fX7_bearing (n : Nat) (v0 : Nat) (v1 : Int32) (v2 : Int32) (μ : ZMem) : Option (ZMem × Int32) := chk (isC n 7 v0) (bd1 (zRc n 100 μ v0 10) (fun r1 => chk (inb v1 r1) ((if (zI μ r1 v1.toNatClampNeg) = (6 : Int32) then bd1 (fX7_body n v0 (71 : Int32) μ) (fun μ6 => bd1 (zRc n 100 μ6 v0 11) (fun r7 => chk (inb v1 r7) ((fX7_bearing_b32 n v0 v1 (zI μ r1 v1.toNatClampNeg) (v2 - (zI μ6 r7 v1.toNatClampNeg)) μ6)))) else (fX7_bearing_b32 n v0 v1 (zI μ r1 v1.toNatClampNeg) v2 μ)))))
theorem tX7_bearing {l : Launch} {fr : Bool} {n : Nat} {v0 : Nat} {v1 : Int32} {v2 : Int32} {μ : ZMem} {z : ZMem × Int32} (h : fX7_bearing n v0 v1 v2 μ = some z) : ZFn l mX7_bearing (rmd 3) [.ref v0, .int v1, .int v2] fr n μ (fr, n, z.1, some (.int z.2)) := by
  unfold fX7_bearing at h
  obtain ⟨c_v0, h⟩ := chk_some h
  refine ZFn.of (ls := [(0, .ref v0), (1, .int v1), (2, .int v2)]) (by decide) (fun ξ => Nat.le_of_ble_eq_true rfl) (fun ξ => rfl) ?_
  refine V_aload_n 0 (zdk tbX7_bearing_0_ok 0 rfl) rfl ?_
  obtain ⟨r1, q2, h⟩ := bd1_some h
  obtain ⟨q2, c_r1⟩ := zRc_some q2
  refine V_getR (zdk tbX7_bearing_0_ok 1 rfl) c_v0 fF7_32 rfl q2 ?_
  refine V_iload_n 1 (zdk tbX7_bearing_0_ok 2 rfl) rfl ?_
  obtain ⟨b3, h⟩ := chk_some h
  refine V_iald (zdk tbX7_bearing_0_ok 3 rfl) c_r1 b3 ?_
  refine V_istore_n (ls' := [(0, .ref v0), (1, .int v1), (2, .int v2), (3, .int (zI μ r1 v1.toNatClampNeg))]) [1, 2, 3, 0] (zdk tbX7_bearing_0_ok 4 rfl) (Nat.le_of_ble_eq_true rfl) rfl ?_
  refine V_iload_n 2 (zdk tbX7_bearing_0_ok 5 rfl) rfl ?_
  refine V_istore (ls' := [(0, .ref v0), (1, .int v1), (2, .int v2), (3, .int (zI μ r1 v1.toNatClampNeg)), (4, .int v2)]) [1, 2, 3, 4, 0] (zdk tbX7_bearing_0_ok 6 rfl) (Nat.le_of_ble_eq_true rfl) rfl ?_
  refine V_iload_n 3 (zdk tbX7_bearing_0_ok 7 rfl) rfl ?_
  refine V_bipush (v := 6) (zdk tbX7_bearing_0_ok 8 rfl) rfl ?_
  refine V_icmp_ne (tgt := 32) (zdk tbX7_bearing_0_ok 9 rfl) (by decide) (fun c4 => ?_) (fun c4 => ?_)
  · replace h := ite_f h c4
    refine V_sub (ls' := [(0, .ref v0), (1, .int v1), (3, .int (zI μ r1 v1.toNatClampNeg)), (4, .int v2)]) [0, 1, 3, 4] rfl ?_
    exact tX7_bearing_b32 v0 v1 (zI μ r1 v1.toNatClampNeg) v2 μ c_v0 h
  · replace h := ite_t h c4
    refine V_aload_n 0 (zdk tbX7_bearing_0_ok 10 rfl) rfl ?_
    refine V_bipush (v := 71) (zdk tbX7_bearing_0_ok 11 rfl) rfl ?_
    obtain ⟨μ6, q5, h⟩ := bd1_some h
    refine V_callV (R1 := (rmd 1)) (As := [.int (71 : Int32)]) (r := none) (zdk tbX7_bearing_0_ok 12 rfl) sC7_258 (tX7_body q5) (c_v0) rfl rfl rfl ⟨Nat.le_of_ble_eq_true rfl, Nat.le_of_ble_eq_true rfl⟩ (Nat.le_of_ble_eq_true rfl) ⟨rfl, rfl⟩ id ?_
    refine V_iload_n 2 (zdk tbX7_bearing_0_ok 13 rfl) rfl ?_
    refine V_aload_n 0 (zdk tbX7_bearing_0_ok 14 rfl) rfl ?_
    obtain ⟨r7, q8, h⟩ := bd1_some h
    obtain ⟨q8, c_r7⟩ := zRc_some q8
    refine V_getR (zdk tbX7_bearing_0_ok 15 rfl) c_v0 fF7_35 rfl q8 ?_
    refine V_iload_n 1 (zdk tbX7_bearing_0_ok 16 rfl) rfl ?_
    obtain ⟨b9, h⟩ := chk_some h
    refine V_iald (zdk tbX7_bearing_0_ok 17 rfl) c_r7 b9 ?_
    refine V_isub (zdk tbX7_bearing_0_ok 18 rfl) ?_
    refine V_istore (ls' := [(0, .ref v0), (1, .int v1), (3, .int (zI μ r1 v1.toNatClampNeg)), (4, .int (v2 - (zI μ6 r7 v1.toNatClampNeg)))]) [1, 2, 4, 0] (zdk tbX7_bearing_0_ok 19 rfl) (Nat.le_of_ble_eq_true rfl) rfl ?_
    exact tX7_bearing_b32 v0 v1 (zI μ r1 v1.toNatClampNeg) (v2 - (zI μ6 r7 v1.toNatClampNeg)) μ6 c_v0 h

-- WhoComplainsCarriesModel.speaking
def tbX7_speaking_0 : List (Nat × Instr × Nat) := [(0, .aload_n 0, 1), (1, .getfield 32, 3), (4, .iload_n 1, 1), (5, .iaload, 1), (6, .istore_n 3, 1), (7, .iload_n 3, 1), (8, .iconst 4, 1), (9, .if_icmp .eq 9, 3), (12, .iload_n 3, 1), (13, .bipush 6, 2), (15, .if_icmp .ne 7, 3), (18, .iconst 1, 1), (19, .goto 4, 3), (22, .iconst 0, 1), (23, .istore 4, 2), (25, .iload_n 3, 1), (26, .iconst 5, 1), (27, .if_icmp .ne 9, 3), (30, .aload_n 0, 1), (31, .bipush 60, 2), (33, .invokevirtual 258, 3), (36, .iload 4, 2), (38, .ifCond .eq 9, 3), (41, .aload_n 0, 1), (42, .bipush 50, 2), (44, .invokevirtual 258, 3), (47, .aload_n 0, 1), (48, .bipush 12, 2), (50, .invokevirtual 258, 3), (53, .aload_n 0, 1), (54, .iload_n 1, 1), (55, .iload_n 2, 1), (56, .invokevirtual 265, 3), (59, .istore 5, 2), (61, .iload 5, 2), (63, .aload_n 0, 1), (64, .iload_n 1, 1), (65, .iload_n 2, 1), (66, .aload_n 0, 1), (67, .getfield 35, 3), (70, .iload_n 1, 1), (71, .iaload, 1), (72, .isub, 1), (73, .invokevirtual 262, 3), (76, .ixor, 1), (77, .istore 5, 2), (79, .iload 4, 2), (81, .ifCond .eq 9, 3), (84, .iload 5, 2), (86, .ineg, 1)]
theorem tbX7_speaking_0_ok : ∀ q ∈ tbX7_speaking_0, decode cX7_speaking q.1 = .ok (q.2.1, q.2.2) := by decide +kernel
def tbX7_speaking_1 : List (Nat × Instr × Nat) := [(87, .goto 17, 3), (90, .iload_n 3, 1), (91, .iconst 5, 1), (92, .if_icmp .ne 10, 3), (95, .iload 5, 2), (97, .iconst 5, 1), (98, .ixor, 1), (99, .goto 5, 3), (102, .iload 5, 2), (104, .ireturn, 1)]
theorem tbX7_speaking_1_ok : ∀ q ∈ tbX7_speaking_1, decode cX7_speaking q.1 = .ok (q.2.1, q.2.2) := by decide +kernel
theorem wCX7_bearing : zCW mX7_bearing 2 := ⟨zin (i := 8) (by decide +kernel) rfl, zin (i := 1240) (by decide +kernel) rfl, by decide +kernel, by decide +kernel, by decide +kernel⟩
theorem sC7_265 : zCV RX7 265 mX7_bearing 2 := ⟨zin (i := 1237) (by decide +kernel) rfl, zin (i := 1239) (by decide +kernel) rfl, zinP (i := 67) (q := (yX7_bearing, 42)) (by decide +kernel) rfl, wCX7_bearing⟩
def fX7_speaking_b104 (n : Nat) (s0 : Int32) (μ : ZMem) : Option (ZMem × Int32) := some (μ, s0)
theorem tX7_speaking_b104 {l : Launch} {fr : Bool} {n : Nat} {z : ZMem × Int32} (s0 : Int32) (μ : ZMem) (h : fX7_speaking_b104 n s0 μ = some z) : V (zkI l mX7_speaking (rmd 4) fr n z) fr 104 [] [.int s0] n μ := by
  unfold fX7_speaking_b104 at h
  cases h
  exact V_iret (zdk tbX7_speaking_1_ok 9 rfl) rfl rfl
def fX7_speaking_b47 (n : Nat) (v0 : Nat) (v1 : Int32) (v2 : Int32) (v3 : Int32) (v4 : Int32) (μ : ZMem) : Option (ZMem × Int32) := bd1 (fX7_body n v0 (12 : Int32) μ) (fun μ2 => bd2 (fX7_bearing n v0 v1 v2 μ2) (fun μ4 r5 => bd1 (zRc n 100 μ4 v0 11) (fun r6 => chk (inb v1 r6) (bd2 (fX7_walking n v0 v1 (v2 - (zI μ4 r6 v1.toNatClampNeg)) μ4) (fun μ10 r11 => (if v4 = 0 then (if v3 = (5 : Int32) then (fX7_speaking_b104 n ((r5 ^^^ r11) ^^^ (5 : Int32)) μ10) else (fX7_speaking_b104 n (r5 ^^^ r11) μ10)) else (fX7_speaking_b104 n (-(r5 ^^^ r11)) μ10)))))))
theorem tX7_speaking_b47 {l : Launch} {fr : Bool} {n : Nat} {z : ZMem × Int32} (v0 : Nat) (v1 : Int32) (v2 : Int32) (v3 : Int32) (v4 : Int32) (μ : ZMem) (c_v0 : isC n 7 v0 = true) (h : fX7_speaking_b47 n v0 v1 v2 v3 v4 μ = some z) : V (zkI l mX7_speaking (rmd 4) fr n z) fr 47 [(0, .ref v0), (1, .int v1), (2, .int v2), (3, .int v3), (4, .int v4)] [] n μ := by
  unfold fX7_speaking_b47 at h
  refine V_aload_n 0 (zdk tbX7_speaking_0_ok 26 rfl) rfl ?_
  refine V_bipush (v := 12) (zdk tbX7_speaking_0_ok 27 rfl) rfl ?_
  obtain ⟨μ2, q1, h⟩ := bd1_some h
  refine V_callV (R1 := (rmd 1)) (As := [.int (12 : Int32)]) (r := none) (zdk tbX7_speaking_0_ok 28 rfl) sC7_258 (tX7_body q1) (c_v0) rfl rfl rfl ⟨Nat.le_of_ble_eq_true rfl, Nat.le_of_ble_eq_true rfl⟩ (Nat.le_of_ble_eq_true rfl) ⟨rfl, rfl⟩ id ?_
  refine V_aload_n 0 (zdk tbX7_speaking_0_ok 29 rfl) rfl ?_
  refine V_iload_n 1 (zdk tbX7_speaking_0_ok 30 rfl) rfl ?_
  refine V_iload_n 2 (zdk tbX7_speaking_0_ok 31 rfl) rfl ?_
  obtain ⟨μ4, r5, q3, h⟩ := bd2_some h
  refine V_callV (R1 := (rmd 3)) (As := [.int v1, .int v2]) (r := (some (.int r5))) (zdk tbX7_speaking_0_ok 32 rfl) sC7_265 (tX7_bearing q3) (c_v0) rfl rfl rfl ⟨Nat.le_of_ble_eq_true rfl, Nat.le_of_ble_eq_true rfl⟩ (Nat.le_of_ble_eq_true rfl) ⟨rfl, rfl⟩ id ?_
  refine V_istore (ls' := [(0, .ref v0), (1, .int v1), (2, .int v2), (3, .int v3), (4, .int v4), (5, .int r5)]) [1, 2, 3, 4, 5, 0] (zdk tbX7_speaking_0_ok 33 rfl) (Nat.le_of_ble_eq_true rfl) rfl ?_
  refine V_iload 5 (zdk tbX7_speaking_0_ok 34 rfl) rfl ?_
  refine V_aload_n 0 (zdk tbX7_speaking_0_ok 35 rfl) rfl ?_
  refine V_iload_n 1 (zdk tbX7_speaking_0_ok 36 rfl) rfl ?_
  refine V_iload_n 2 (zdk tbX7_speaking_0_ok 37 rfl) rfl ?_
  refine V_aload_n 0 (zdk tbX7_speaking_0_ok 38 rfl) rfl ?_
  obtain ⟨r6, q7, h⟩ := bd1_some h
  obtain ⟨q7, c_r6⟩ := zRc_some q7
  refine V_getR (zdk tbX7_speaking_0_ok 39 rfl) c_v0 fF7_35 rfl q7 ?_
  refine V_iload_n 1 (zdk tbX7_speaking_0_ok 40 rfl) rfl ?_
  obtain ⟨b8, h⟩ := chk_some h
  refine V_iald (zdk tbX7_speaking_0_ok 41 rfl) c_r6 b8 ?_
  refine V_isub (zdk tbX7_speaking_0_ok 42 rfl) ?_
  obtain ⟨μ10, r11, q9, h⟩ := bd2_some h
  refine V_callV (R1 := (rmd 2)) (As := [.int v1, .int (v2 - (zI μ4 r6 v1.toNatClampNeg))]) (r := (some (.int r11))) (zdk tbX7_speaking_0_ok 43 rfl) sC7_262 (tX7_walking q9) (c_v0) rfl rfl rfl ⟨Nat.le_of_ble_eq_true rfl, Nat.le_of_ble_eq_true rfl⟩ (Nat.le_of_ble_eq_true rfl) ⟨rfl, rfl⟩ id ?_
  refine V_ixor (zdk tbX7_speaking_0_ok 44 rfl) ?_
  refine V_istore (ls' := [(3, .int v3), (4, .int v4), (5, .int (r5 ^^^ r11))]) [4, 5, 0] (zdk tbX7_speaking_0_ok 45 rfl) (Nat.le_of_ble_eq_true rfl) rfl ?_
  refine V_iload 1 (zdk tbX7_speaking_0_ok 46 rfl) rfl ?_
  refine V_if_eq (tgt := 90) (zdk tbX7_speaking_0_ok 47 rfl) (by decide) (fun c12 => ?_) (fun c12 => ?_)
  · replace h := ite_t h c12
    refine V_iload_n 0 (zdk tbX7_speaking_1_ok 1 rfl) rfl ?_
    refine V_iconst (v := 5) (zdk tbX7_speaking_1_ok 2 rfl) rfl ?_
    refine V_icmp_ne (tgt := 102) (zdk tbX7_speaking_1_ok 3 rfl) (by decide) (fun c13 => ?_) (fun c13 => ?_)
    · replace h := ite_f h c13
      refine V_iload 2 (zdk tbX7_speaking_1_ok 8 rfl) rfl ?_
      refine V_sub (ls' := []) [] rfl ?_
      exact tX7_speaking_b104 (r5 ^^^ r11) μ10  h
    · replace h := ite_t h c13
      refine V_iload 2 (zdk tbX7_speaking_1_ok 4 rfl) rfl ?_
      refine V_iconst (v := 5) (zdk tbX7_speaking_1_ok 5 rfl) rfl ?_
      refine V_ixor (zdk tbX7_speaking_1_ok 6 rfl) ?_
      refine V_goto (tgt := 104) (zdk tbX7_speaking_1_ok 7 rfl) (by decide) ?_
      refine V_sub (ls' := []) [] rfl ?_
      exact tX7_speaking_b104 ((r5 ^^^ r11) ^^^ (5 : Int32)) μ10  h
  · replace h := ite_f h c12
    refine V_iload 2 (zdk tbX7_speaking_0_ok 48 rfl) rfl ?_
    refine V_ineg (zdk tbX7_speaking_0_ok 49 rfl) ?_
    refine V_goto (tgt := 104) (zdk tbX7_speaking_1_ok 0 rfl) (by decide) ?_
    refine V_sub (ls' := []) [] rfl ?_
    exact tX7_speaking_b104 (-(r5 ^^^ r11)) μ10  h
def fX7_speaking_b36 (n : Nat) (v0 : Nat) (v1 : Int32) (v2 : Int32) (v3 : Int32) (v4 : Int32) (μ : ZMem) : Option (ZMem × Int32) := (if v4 = 0 then (fX7_speaking_b47 n v0 v1 v2 v3 v4 μ) else bd1 (fX7_body n v0 (50 : Int32) μ) (fun μ3 => (fX7_speaking_b47 n v0 v1 v2 v3 v4 μ3)))
theorem tX7_speaking_b36 {l : Launch} {fr : Bool} {n : Nat} {z : ZMem × Int32} (v0 : Nat) (v1 : Int32) (v2 : Int32) (v3 : Int32) (v4 : Int32) (μ : ZMem) (c_v0 : isC n 7 v0 = true) (h : fX7_speaking_b36 n v0 v1 v2 v3 v4 μ = some z) : V (zkI l mX7_speaking (rmd 4) fr n z) fr 36 [(0, .ref v0), (1, .int v1), (2, .int v2), (3, .int v3), (4, .int v4)] [] n μ := by
  unfold fX7_speaking_b36 at h
  refine V_iload 4 (zdk tbX7_speaking_0_ok 21 rfl) rfl ?_
  refine V_if_eq (tgt := 47) (zdk tbX7_speaking_0_ok 22 rfl) (by decide) (fun c1 => ?_) (fun c1 => ?_)
  · replace h := ite_t h c1
    exact tX7_speaking_b47 v0 v1 v2 v3 v4 μ c_v0 h
  · replace h := ite_f h c1
    refine V_aload_n 0 (zdk tbX7_speaking_0_ok 23 rfl) rfl ?_
    refine V_bipush (v := 50) (zdk tbX7_speaking_0_ok 24 rfl) rfl ?_
    obtain ⟨μ3, q2, h⟩ := bd1_some h
    refine V_callV (R1 := (rmd 1)) (As := [.int (50 : Int32)]) (r := none) (zdk tbX7_speaking_0_ok 25 rfl) sC7_258 (tX7_body q2) (c_v0) rfl rfl rfl ⟨Nat.le_of_ble_eq_true rfl, Nat.le_of_ble_eq_true rfl⟩ (Nat.le_of_ble_eq_true rfl) ⟨rfl, rfl⟩ id ?_
    exact tX7_speaking_b47 v0 v1 v2 v3 v4 μ3 c_v0 h
def fX7_speaking_b23 (n : Nat) (v0 : Nat) (v1 : Int32) (v2 : Int32) (v3 : Int32) (s0 : Int32) (μ : ZMem) : Option (ZMem × Int32) := (if v3 = (5 : Int32) then bd1 (fX7_body n v0 (60 : Int32) μ) (fun μ3 => (fX7_speaking_b36 n v0 v1 v2 v3 s0 μ3)) else (fX7_speaking_b36 n v0 v1 v2 v3 s0 μ))
theorem tX7_speaking_b23 {l : Launch} {fr : Bool} {n : Nat} {z : ZMem × Int32} (v0 : Nat) (v1 : Int32) (v2 : Int32) (v3 : Int32) (s0 : Int32) (μ : ZMem) (c_v0 : isC n 7 v0 = true) (h : fX7_speaking_b23 n v0 v1 v2 v3 s0 μ = some z) : V (zkI l mX7_speaking (rmd 4) fr n z) fr 23 [(0, .ref v0), (1, .int v1), (2, .int v2), (3, .int v3)] [.int s0] n μ := by
  unfold fX7_speaking_b23 at h
  refine V_istore (ls' := [(0, .ref v0), (1, .int v1), (2, .int v2), (3, .int v3), (4, .int s0)]) [1, 2, 3, 4, 0] (zdk tbX7_speaking_0_ok 14 rfl) (Nat.le_of_ble_eq_true rfl) rfl ?_
  refine V_iload_n 3 (zdk tbX7_speaking_0_ok 15 rfl) rfl ?_
  refine V_iconst (v := 5) (zdk tbX7_speaking_0_ok 16 rfl) rfl ?_
  refine V_icmp_ne (tgt := 36) (zdk tbX7_speaking_0_ok 17 rfl) (by decide) (fun c1 => ?_) (fun c1 => ?_)
  · replace h := ite_f h c1
    exact tX7_speaking_b36 v0 v1 v2 v3 s0 μ c_v0 h
  · replace h := ite_t h c1
    refine V_aload_n 0 (zdk tbX7_speaking_0_ok 18 rfl) rfl ?_
    refine V_bipush (v := 60) (zdk tbX7_speaking_0_ok 19 rfl) rfl ?_
    obtain ⟨μ3, q2, h⟩ := bd1_some h
    refine V_callV (R1 := (rmd 1)) (As := [.int (60 : Int32)]) (r := none) (zdk tbX7_speaking_0_ok 20 rfl) sC7_258 (tX7_body q2) (c_v0) rfl rfl rfl ⟨Nat.le_of_ble_eq_true rfl, Nat.le_of_ble_eq_true rfl⟩ (Nat.le_of_ble_eq_true rfl) ⟨rfl, rfl⟩ id ?_
    exact tX7_speaking_b36 v0 v1 v2 v3 s0 μ3 c_v0 h
def fX7_speaking_b18 (n : Nat) (v0 : Nat) (v1 : Int32) (v2 : Int32) (v3 : Int32) (μ : ZMem) : Option (ZMem × Int32) := (fX7_speaking_b23 n v0 v1 v2 v3 (1 : Int32) μ)
theorem tX7_speaking_b18 {l : Launch} {fr : Bool} {n : Nat} {z : ZMem × Int32} (v0 : Nat) (v1 : Int32) (v2 : Int32) (v3 : Int32) (μ : ZMem) (c_v0 : isC n 7 v0 = true) (h : fX7_speaking_b18 n v0 v1 v2 v3 μ = some z) : V (zkI l mX7_speaking (rmd 4) fr n z) fr 18 [(0, .ref v0), (1, .int v1), (2, .int v2), (3, .int v3)] [] n μ := by
  unfold fX7_speaking_b18 at h
  refine V_iconst (v := 1) (zdk tbX7_speaking_0_ok 11 rfl) rfl ?_
  refine V_goto (tgt := 23) (zdk tbX7_speaking_0_ok 12 rfl) (by decide) ?_
  exact tX7_speaking_b23 v0 v1 v2 v3 (1 : Int32) μ c_v0 h
def fX7_speaking (n : Nat) (v0 : Nat) (v1 : Int32) (v2 : Int32) (μ : ZMem) : Option (ZMem × Int32) := chk (isC n 7 v0) (bd1 (zRc n 100 μ v0 10) (fun r1 => chk (inb v1 r1) ((if (zI μ r1 v1.toNatClampNeg) = (4 : Int32) then (fX7_speaking_b18 n v0 v1 v2 (zI μ r1 v1.toNatClampNeg) μ) else (if (zI μ r1 v1.toNatClampNeg) = (6 : Int32) then (fX7_speaking_b18 n v0 v1 v2 (zI μ r1 v1.toNatClampNeg) μ) else (fX7_speaking_b23 n v0 v1 v2 (zI μ r1 v1.toNatClampNeg) (0 : Int32) μ))))))
theorem tX7_speaking {l : Launch} {fr : Bool} {n : Nat} {v0 : Nat} {v1 : Int32} {v2 : Int32} {μ : ZMem} {z : ZMem × Int32} (h : fX7_speaking n v0 v1 v2 μ = some z) : ZFn l mX7_speaking (rmd 4) [.ref v0, .int v1, .int v2] fr n μ (fr, n, z.1, some (.int z.2)) := by
  unfold fX7_speaking at h
  obtain ⟨c_v0, h⟩ := chk_some h
  refine ZFn.of (ls := [(0, .ref v0), (1, .int v1), (2, .int v2)]) (by decide) (fun ξ => Nat.le_of_ble_eq_true rfl) (fun ξ => rfl) ?_
  refine V_aload_n 0 (zdk tbX7_speaking_0_ok 0 rfl) rfl ?_
  obtain ⟨r1, q2, h⟩ := bd1_some h
  obtain ⟨q2, c_r1⟩ := zRc_some q2
  refine V_getR (zdk tbX7_speaking_0_ok 1 rfl) c_v0 fF7_32 rfl q2 ?_
  refine V_iload_n 1 (zdk tbX7_speaking_0_ok 2 rfl) rfl ?_
  obtain ⟨b3, h⟩ := chk_some h
  refine V_iald (zdk tbX7_speaking_0_ok 3 rfl) c_r1 b3 ?_
  refine V_istore_n (ls' := [(0, .ref v0), (1, .int v1), (2, .int v2), (3, .int (zI μ r1 v1.toNatClampNeg))]) [1, 2, 3, 0] (zdk tbX7_speaking_0_ok 4 rfl) (Nat.le_of_ble_eq_true rfl) rfl ?_
  refine V_iload_n 3 (zdk tbX7_speaking_0_ok 5 rfl) rfl ?_
  refine V_iconst (v := 4) (zdk tbX7_speaking_0_ok 6 rfl) rfl ?_
  refine V_icmp_eq (tgt := 18) (zdk tbX7_speaking_0_ok 7 rfl) (by decide) (fun c4 => ?_) (fun c4 => ?_)
  · replace h := ite_t h c4
    exact tX7_speaking_b18 v0 v1 v2 (zI μ r1 v1.toNatClampNeg) μ c_v0 h
  · replace h := ite_f h c4
    refine V_iload_n 3 (zdk tbX7_speaking_0_ok 8 rfl) rfl ?_
    refine V_bipush (v := 6) (zdk tbX7_speaking_0_ok 9 rfl) rfl ?_
    refine V_icmp_ne (tgt := 22) (zdk tbX7_speaking_0_ok 10 rfl) (by decide) (fun c5 => ?_) (fun c5 => ?_)
    · replace h := ite_f h c5
      refine V_iconst (v := 0) (zdk tbX7_speaking_0_ok 13 rfl) rfl ?_
      exact tX7_speaking_b23 v0 v1 v2 (zI μ r1 v1.toNatClampNeg) (0 : Int32) μ c_v0 h
    · replace h := ite_t h c5
      exact tX7_speaking_b18 v0 v1 v2 (zI μ r1 v1.toNatClampNeg) μ c_v0 h

-- WhoComplainsCarriesModel.act
def tbX7_act_0 : List (Nat × Instr × Nat) := [(0, .aload_n 0, 1), (1, .iconst 0, 1), (2, .putfield 255, 3), (5, .aload_n 0, 1), (6, .iload_n 1, 1), (7, .invokevirtual 110, 3), (10, .ifCond .eq 12, 3), (13, .iload_n 2, 1), (14, .ifCond .lt 8, 3), (17, .iload_n 2, 1), (18, .iconst 2, 1), (19, .if_icmp .le 5, 3), (22, .iconst 0, 1), (23, .ireturn, 1), (24, .iload_n 2, 1), (25, .ifCond .ne 12, 3), (28, .aload_n 0, 1), (29, .iload_n 1, 1), (30, .iload_n 3, 1), (31, .invokevirtual 262, 3), (34, .goto 23, 3), (37, .iload_n 2, 1), (38, .iconst 1, 1), (39, .if_icmp .ne 12, 3), (42, .aload_n 0, 1), (43, .iload_n 1, 1), (44, .iload_n 3, 1), (45, .invokevirtual 265, 3), (48, .goto 9, 3), (51, .aload_n 0, 1), (52, .iload_n 1, 1), (53, .iload_n 3, 1), (54, .invokevirtual 268, 3), (57, .ireturn, 1)]
theorem tbX7_act_0_ok : ∀ q ∈ tbX7_act_0, decode cX7_act q.1 = .ok (q.2.1, q.2.2) := by decide +kernel
theorem wCX7_speaking : zCW mX7_speaking 2 := ⟨zin (i := 8) (by decide +kernel) rfl, zin (i := 1244) (by decide +kernel) rfl, by decide +kernel, by decide +kernel, by decide +kernel⟩
theorem sC7_268 : zCV RX7 268 mX7_speaking 2 := ⟨zin (i := 1241) (by decide +kernel) rfl, zin (i := 1243) (by decide +kernel) rfl, zinP (i := 68) (q := (yX7_speaking, 42)) (by decide +kernel) rfl, wCX7_speaking⟩
def fX7_act_b22 (n : Nat) (μ : ZMem) : Option (ZMem × Int32) := some (μ, (0 : Int32))
theorem tX7_act_b22 {l : Launch} {fr : Bool} {n : Nat} {z : ZMem × Int32} (μ : ZMem) (h : fX7_act_b22 n μ = some z) : V (zkI l mX7_act (rmd 5) fr n z) fr 22 [] [] n μ := by
  unfold fX7_act_b22 at h
  refine V_iconst (v := 0) (zdk tbX7_act_0_ok 12 rfl) rfl ?_
  cases h
  exact V_iret (zdk tbX7_act_0_ok 13 rfl) rfl rfl
def fX7_act_b57 (n : Nat) (s0 : Int32) (μ : ZMem) : Option (ZMem × Int32) := some (μ, s0)
theorem tX7_act_b57 {l : Launch} {fr : Bool} {n : Nat} {z : ZMem × Int32} (s0 : Int32) (μ : ZMem) (h : fX7_act_b57 n s0 μ = some z) : V (zkI l mX7_act (rmd 5) fr n z) fr 57 [] [.int s0] n μ := by
  unfold fX7_act_b57 at h
  cases h
  exact V_iret (zdk tbX7_act_0_ok 33 rfl) rfl rfl
def fX7_act (n : Nat) (v0 : Nat) (v1 : Int32) (v2 : Int32) (v3 : Int32) (μ : ZMem) : Option (ZMem × Int32) := chk (isC n 7 v0) (lt (zpI μ v0 40 (0 : Int32)) (fun μ1 => bd2 (fX7_isOne n v0 v1 μ1) (fun μ4 r5 => (if r5 = 0 then (fX7_act_b22 n  μ4) else (if v2 < 0 then (fX7_act_b22 n  μ4) else (if v2 ≤ (2 : Int32) then (if v2 = 0 then bd2 (fX7_walking n v0 v1 v3 μ4) (fun μ18 r19 => (fX7_act_b57 n r19 μ18)) else (if v2 = (1 : Int32) then bd2 (fX7_bearing n v0 v1 v3 μ4) (fun μ15 r16 => (fX7_act_b57 n r16 μ15)) else bd2 (fX7_speaking n v0 v1 v3 μ4) (fun μ12 r13 => (fX7_act_b57 n r13 μ12)))) else (fX7_act_b22 n  μ4)))))))
theorem tX7_act {l : Launch} {fr : Bool} {n : Nat} {v0 : Nat} {v1 : Int32} {v2 : Int32} {v3 : Int32} {μ : ZMem} {z : ZMem × Int32} (h : fX7_act n v0 v1 v2 v3 μ = some z) : ZFn l mX7_act (rmd 5) [.ref v0, .int v1, .int v2, .int v3] fr n μ (fr, n, z.1, some (.int z.2)) := by
  unfold fX7_act at h
  obtain ⟨c_v0, h⟩ := chk_some h
  refine ZFn.of (ls := [(0, .ref v0), (1, .int v1), (2, .int v2), (3, .int v3)]) (by decide) (fun ξ => Nat.le_of_ble_eq_true rfl) (fun ξ => rfl) ?_
  refine V_aload_n 0 (zdk tbX7_act_0_ok 0 rfl) rfl ?_
  refine V_iconst (v := 0) (zdk tbX7_act_0_ok 1 rfl) rfl ?_
  obtain ⟨μ1, e2, h⟩ := lt_some h
  refine V_putI (zdk tbX7_act_0_ok 2 rfl) c_v0 fF7_255 rfl rfl rfl e2 ?_
  refine V_aload_n 0 (zdk tbX7_act_0_ok 3 rfl) rfl ?_
  refine V_iload_n 1 (zdk tbX7_act_0_ok 4 rfl) rfl ?_
  obtain ⟨μ4, r5, q3, h⟩ := bd2_some h
  refine V_callV (R1 := (rmd 1)) (As := [.int v1]) (r := (some (.int r5))) (zdk tbX7_act_0_ok 5 rfl) sC7_110 (tX7_isOne q3) (c_v0) rfl rfl rfl ⟨Nat.le_of_ble_eq_true rfl, Nat.le_of_ble_eq_true rfl⟩ (Nat.le_of_ble_eq_true rfl) ⟨rfl, rfl⟩ id ?_
  refine V_if_eq (tgt := 22) (zdk tbX7_act_0_ok 6 rfl) (by decide) (fun c6 => ?_) (fun c6 => ?_)
  · replace h := ite_t h c6
    refine V_sub (ls' := []) [] rfl ?_
    exact tX7_act_b22  μ4  h
  · replace h := ite_f h c6
    refine V_iload_n 2 (zdk tbX7_act_0_ok 7 rfl) rfl ?_
    refine V_if_lt (tgt := 22) (zdk tbX7_act_0_ok 8 rfl) (by decide) (fun c7 => ?_) (fun c7 => ?_)
    · replace h := ite_t h c7
      refine V_sub (ls' := []) [] rfl ?_
      exact tX7_act_b22  μ4  h
    · replace h := ite_f h c7
      refine V_iload_n 2 (zdk tbX7_act_0_ok 9 rfl) rfl ?_
      refine V_iconst (v := 2) (zdk tbX7_act_0_ok 10 rfl) rfl ?_
      refine V_icmp_le (tgt := 24) (zdk tbX7_act_0_ok 11 rfl) (by decide) (fun c8 => ?_) (fun c8 => ?_)
      · replace h := ite_t h c8
        refine V_iload_n 2 (zdk tbX7_act_0_ok 14 rfl) rfl ?_
        refine V_if_ne (tgt := 37) (zdk tbX7_act_0_ok 15 rfl) (by decide) (fun c9 => ?_) (fun c9 => ?_)
        · replace h := ite_f h c9
          refine V_iload_n 2 (zdk tbX7_act_0_ok 21 rfl) rfl ?_
          refine V_iconst (v := 1) (zdk tbX7_act_0_ok 22 rfl) rfl ?_
          refine V_icmp_ne (tgt := 51) (zdk tbX7_act_0_ok 23 rfl) (by decide) (fun c10 => ?_) (fun c10 => ?_)
          · replace h := ite_f h c10
            refine V_aload_n 0 (zdk tbX7_act_0_ok 29 rfl) rfl ?_
            refine V_iload_n 1 (zdk tbX7_act_0_ok 30 rfl) rfl ?_
            refine V_iload_n 3 (zdk tbX7_act_0_ok 31 rfl) rfl ?_
            obtain ⟨μ12, r13, q11, h⟩ := bd2_some h
            refine V_callV (R1 := (rmd 4)) (As := [.int v1, .int v3]) (r := (some (.int r13))) (zdk tbX7_act_0_ok 32 rfl) sC7_268 (tX7_speaking q11) (c_v0) rfl rfl rfl ⟨Nat.le_of_ble_eq_true rfl, Nat.le_of_ble_eq_true rfl⟩ (Nat.le_of_ble_eq_true rfl) ⟨rfl, rfl⟩ id ?_
            refine V_sub (ls' := []) [] rfl ?_
            exact tX7_act_b57 r13 μ12  h
          · replace h := ite_t h c10
            refine V_aload_n 0 (zdk tbX7_act_0_ok 24 rfl) rfl ?_
            refine V_iload_n 1 (zdk tbX7_act_0_ok 25 rfl) rfl ?_
            refine V_iload_n 3 (zdk tbX7_act_0_ok 26 rfl) rfl ?_
            obtain ⟨μ15, r16, q14, h⟩ := bd2_some h
            refine V_callV (R1 := (rmd 3)) (As := [.int v1, .int v3]) (r := (some (.int r16))) (zdk tbX7_act_0_ok 27 rfl) sC7_265 (tX7_bearing q14) (c_v0) rfl rfl rfl ⟨Nat.le_of_ble_eq_true rfl, Nat.le_of_ble_eq_true rfl⟩ (Nat.le_of_ble_eq_true rfl) ⟨rfl, rfl⟩ id ?_
            refine V_goto (tgt := 57) (zdk tbX7_act_0_ok 28 rfl) (by decide) ?_
            refine V_sub (ls' := []) [] rfl ?_
            exact tX7_act_b57 r16 μ15  h
        · replace h := ite_t h c9
          refine V_aload_n 0 (zdk tbX7_act_0_ok 16 rfl) rfl ?_
          refine V_iload_n 1 (zdk tbX7_act_0_ok 17 rfl) rfl ?_
          refine V_iload_n 3 (zdk tbX7_act_0_ok 18 rfl) rfl ?_
          obtain ⟨μ18, r19, q17, h⟩ := bd2_some h
          refine V_callV (R1 := (rmd 2)) (As := [.int v1, .int v3]) (r := (some (.int r19))) (zdk tbX7_act_0_ok 19 rfl) sC7_262 (tX7_walking q17) (c_v0) rfl rfl rfl ⟨Nat.le_of_ble_eq_true rfl, Nat.le_of_ble_eq_true rfl⟩ (Nat.le_of_ble_eq_true rfl) ⟨rfl, rfl⟩ id ?_
          refine V_goto (tgt := 57) (zdk tbX7_act_0_ok 20 rfl) (by decide) ?_
          refine V_sub (ls' := []) [] rfl ?_
          exact tX7_act_b57 r19 μ18  h
      · replace h := ite_f h c8
        refine V_sub (ls' := []) [] rfl ?_
        exact tX7_act_b22  μ4  h

-- WhoComplainsCarriesModel.trace
def tbX7_trace_0 : List (Nat × Instr × Nat) := [(0, .iload_n 1, 1), (1, .ifCond .lt 26, 3), (4, .iload_n 1, 1), (5, .bipush 20, 2), (7, .if_icmp .ge 20, 3), (10, .iload_n 1, 1), (11, .aload_n 0, 1), (12, .getfield 255, 3), (15, .if_icmp .ge 12, 3), (18, .aload_n 0, 1), (19, .getfield 96, 3), (22, .iload_n 1, 1), (23, .iaload, 1), (24, .goto 4, 3), (27, .iconst (-1), 1), (28, .ireturn, 1)]
theorem tbX7_trace_0_ok : ∀ q ∈ tbX7_trace_0, decode cX7_trace q.1 = .ok (q.2.1, q.2.2) := by decide +kernel
def fX7_trace_b28 (n : Nat) (s0 : Int32) (μ : ZMem) : Option (ZMem × Int32) := some (μ, s0)
theorem tX7_trace_b28 {l : Launch} {fr : Bool} {n : Nat} {z : ZMem × Int32} (s0 : Int32) (μ : ZMem) (h : fX7_trace_b28 n s0 μ = some z) : V (zkI l mX7_trace (rmd 1) fr n z) fr 28 [] [.int s0] n μ := by
  unfold fX7_trace_b28 at h
  cases h
  exact V_iret (zdk tbX7_trace_0_ok 15 rfl) rfl rfl
def fX7_trace_b27 (n : Nat) (μ : ZMem) : Option (ZMem × Int32) := (fX7_trace_b28 n (-1 : Int32) μ)
theorem tX7_trace_b27 {l : Launch} {fr : Bool} {n : Nat} {z : ZMem × Int32} (μ : ZMem) (h : fX7_trace_b27 n μ = some z) : V (zkI l mX7_trace (rmd 1) fr n z) fr 27 [] [] n μ := by
  unfold fX7_trace_b27 at h
  refine V_iconst (v := (-1)) (zdk tbX7_trace_0_ok 14 rfl) rfl ?_
  exact tX7_trace_b28 (-1 : Int32) μ  h
def fX7_trace (n : Nat) (v0 : Nat) (v1 : Int32) (μ : ZMem) : Option (ZMem × Int32) := chk (isC n 7 v0) ((if v1 < 0 then (fX7_trace_b27 n  μ) else (if (20 : Int32) ≤ v1 then (fX7_trace_b27 n  μ) else (if (zI μ v0 40) ≤ v1 then (fX7_trace_b27 n  μ) else bd1 (zRc n 100 μ v0 39) (fun r4 => chk (inb v1 r4) ((fX7_trace_b28 n (zI μ r4 v1.toNatClampNeg) μ)))))))
theorem tX7_trace {l : Launch} {fr : Bool} {n : Nat} {v0 : Nat} {v1 : Int32} {μ : ZMem} {z : ZMem × Int32} (h : fX7_trace n v0 v1 μ = some z) : ZFn l mX7_trace (rmd 1) [.ref v0, .int v1] fr n μ (fr, n, z.1, some (.int z.2)) := by
  unfold fX7_trace at h
  obtain ⟨c_v0, h⟩ := chk_some h
  refine ZFn.of (ls := [(0, .ref v0), (1, .int v1)]) (by decide) (fun ξ => Nat.le_of_ble_eq_true rfl) (fun ξ => rfl) ?_
  refine V_iload_n 1 (zdk tbX7_trace_0_ok 0 rfl) rfl ?_
  refine V_if_lt (tgt := 27) (zdk tbX7_trace_0_ok 1 rfl) (by decide) (fun c1 => ?_) (fun c1 => ?_)
  · replace h := ite_t h c1
    refine V_sub (ls' := []) [] rfl ?_
    exact tX7_trace_b27  μ  h
  · replace h := ite_f h c1
    refine V_iload_n 1 (zdk tbX7_trace_0_ok 2 rfl) rfl ?_
    refine V_bipush (v := 20) (zdk tbX7_trace_0_ok 3 rfl) rfl ?_
    refine V_icmp_ge (tgt := 27) (zdk tbX7_trace_0_ok 4 rfl) (by decide) (fun c2 => ?_) (fun c2 => ?_)
    · replace h := ite_t h c2
      refine V_sub (ls' := []) [] rfl ?_
      exact tX7_trace_b27  μ  h
    · replace h := ite_f h c2
      refine V_iload_n 1 (zdk tbX7_trace_0_ok 5 rfl) rfl ?_
      refine V_aload_n 0 (zdk tbX7_trace_0_ok 6 rfl) rfl ?_
      refine V_getI (zdk tbX7_trace_0_ok 7 rfl) c_v0 fF7_255 rfl ?_
      refine V_icmp_ge (tgt := 27) (zdk tbX7_trace_0_ok 8 rfl) (by decide) (fun c3 => ?_) (fun c3 => ?_)
      · replace h := ite_t h c3
        refine V_sub (ls' := []) [] rfl ?_
        exact tX7_trace_b27  μ  h
      · replace h := ite_f h c3
        refine V_aload_n 0 (zdk tbX7_trace_0_ok 9 rfl) rfl ?_
        obtain ⟨r4, q5, h⟩ := bd1_some h
        obtain ⟨q5, c_r4⟩ := zRc_some q5
        refine V_getR (zdk tbX7_trace_0_ok 10 rfl) c_v0 fF7_96 rfl q5 ?_
        refine V_iload_n 1 (zdk tbX7_trace_0_ok 11 rfl) rfl ?_
        obtain ⟨b6, h⟩ := chk_some h
        refine V_iald (zdk tbX7_trace_0_ok 12 rfl) c_r4 b6 ?_
        refine V_goto (tgt := 28) (zdk tbX7_trace_0_ok 13 rfl) (by decide) ?_
        refine V_sub (ls' := []) [] rfl ?_
        exact tX7_trace_b28 (zI μ r4 v1.toNatClampNeg) μ  h

-- WhoComplainsCarriesModel.image
def tbX7_image_0 : List (Nat × Instr × Nat) := [(0, .aload_n 0, 1), (1, .iconst 1, 1), (2, .putfield 271, 3), (5, .aload_n 0, 1), (6, .aload_n 0, 1), (7, .getfield 81, 3), (10, .iconst 0, 1), (11, .invokevirtual 182, 3), (14, .aload_n 0, 1), (15, .getfield 99, 3), (18, .ireturn, 1)]
theorem tbX7_image_0_ok : ∀ q ∈ tbX7_image_0, decode cX7_image q.1 = .ok (q.2.1, q.2.2) := by decide +kernel
theorem fF7_271 : zF RX7 271 7 41 := ⟨_, rfl, by decide, zin (i := 858) (by decide +kernel) rfl⟩
def fX7_image (n : Nat) (v0 : Nat) (μ : ZMem) : Option (ZMem × Int32) := chk (isC n 7 v0) (lt (zpI μ v0 41 (1 : Int32)) (fun μ1 => bd1 (zRc n 100 μ1 v0 31) (fun r3 => bd1 (fX7_all n v0 r3 (0 : Int32) μ1) (fun μ6 => some (μ6, (zI μ6 v0 0))))))
theorem tX7_image {l : Launch} {fr : Bool} {n : Nat} {v0 : Nat} {μ : ZMem} {z : ZMem × Int32} (h : fX7_image n v0 μ = some z) : ZFn l mX7_image (rmd 3) [.ref v0] fr n μ (fr, n, z.1, some (.int z.2)) := by
  unfold fX7_image at h
  obtain ⟨c_v0, h⟩ := chk_some h
  refine ZFn.of (ls := [(0, .ref v0)]) (by decide) (fun ξ => Nat.le_of_ble_eq_true rfl) (fun ξ => rfl) ?_
  refine V_aload_n 0 (zdk tbX7_image_0_ok 0 rfl) rfl ?_
  refine V_iconst (v := 1) (zdk tbX7_image_0_ok 1 rfl) rfl ?_
  obtain ⟨μ1, e2, h⟩ := lt_some h
  refine V_putZ (zdk tbX7_image_0_ok 2 rfl) c_v0 fF7_271 rfl rfl rfl (by decide) (by decide) e2 ?_
  refine V_aload_n 0 (zdk tbX7_image_0_ok 3 rfl) rfl ?_
  refine V_aload_n 0 (zdk tbX7_image_0_ok 4 rfl) rfl ?_
  obtain ⟨r3, q4, h⟩ := bd1_some h
  obtain ⟨q4, c_r3⟩ := zRc_some q4
  refine V_getR (zdk tbX7_image_0_ok 5 rfl) c_v0 fF7_81 rfl q4 ?_
  refine V_iconst (v := 0) (zdk tbX7_image_0_ok 6 rfl) rfl ?_
  obtain ⟨μ6, q5, h⟩ := bd1_some h
  refine V_callV (R1 := (rmd 2)) (As := [.ref r3, .int (0 : Int32)]) (r := none) (zdk tbX7_image_0_ok 7 rfl) sC7_182 (tX7_all q5) (c_v0) rfl rfl rfl ⟨Nat.le_of_ble_eq_true rfl, Nat.le_of_ble_eq_true rfl⟩ (Nat.le_of_ble_eq_true rfl) ⟨rfl, rfl⟩ id ?_
  refine V_aload_n 0 (zdk tbX7_image_0_ok 8 rfl) rfl ?_
  refine V_getI (zdk tbX7_image_0_ok 9 rfl) c_v0 fF7_99 rfl ?_
  cases h
  exact V_iret (zdk tbX7_image_0_ok 10 rfl) rfl rfl

-- WhoComplainsCarriesModel.restore
def tbX7_restore_0 : List (Nat × Instr × Nat) := [(0, .aload_n 0, 1), (1, .getfield 271, 3), (4, .ifCond .ne 10, 3), (7, .aload_n 0, 1), (8, .bipush (-6), 2), (10, .invokevirtual 106, 3), (13, .ireturn, 1), (14, .aload_n 0, 1), (15, .aload_n 0, 1), (16, .getfield 81, 3), (19, .iconst 1, 1), (20, .invokevirtual 182, 3), (23, .iconst 0, 1), (24, .istore_n 1, 1), (25, .iload_n 1, 1), (26, .bipush 8, 2), (28, .if_icmp .ge 39, 3), (31, .aload_n 0, 1), (32, .getfield 47, 3), (35, .iload_n 1, 1), (36, .iaload, 1), (37, .iconst 2, 1), (38, .if_icmp .ne 23, 3), (41, .aload_n 0, 1), (42, .getfield 56, 3), (45, .iload_n 1, 1), (46, .iaload, 1), (47, .aload_n 0, 1), (48, .getfield 99, 3), (51, .if_icmp .lt 10, 3), (54, .aload_n 0, 1), (55, .getfield 47, 3), (58, .iload_n 1, 1), (59, .iconst 0, 1), (60, .iastore, 1), (61, .iinc 1 1, 3), (64, .goto (-39), 3), (67, .aload_n 0, 1), (68, .getfield 99, 3), (71, .ireturn, 1)]
theorem tbX7_restore_0_ok : ∀ q ∈ tbX7_restore_0, decode cX7_restore q.1 = .ok (q.2.1, q.2.2) := by decide +kernel
def fX7_restore_b61 (g25 : Nat → Int32 → ZMem → Option (ZMem × Int32)) (n : Nat) (v0 : Nat) (v1 : Int32) (μ : ZMem) : Option (ZMem × Int32) := (g25 v0 (v1 + (1 : Int32)) μ)
theorem tX7_restore_b61 {l : Launch} {fr : Bool} {n : Nat} {z : ZMem × Int32} {g25 : Nat → Int32 → ZMem → Option (ZMem × Int32)} (hg25 : ∀ (v0 : Nat) (v1 : Int32) (μ : ZMem), isC n 7 v0 = true → g25 v0 v1 μ = some z → V (zkI l mX7_restore (rmd 3) fr n z) fr 25 [(0, .ref v0), (1, .int v1)] [] n μ) (v0 : Nat) (v1 : Int32) (μ : ZMem) (c_v0 : isC n 7 v0 = true) (h : fX7_restore_b61 g25 n v0 v1 μ = some z) : V (zkI l mX7_restore (rmd 3) fr n z) fr 61 [(0, .ref v0), (1, .int v1)] [] n μ := by
  unfold fX7_restore_b61 at h
  refine V_inc (dx := 1) (ls' := [(0, .ref v0), (1, .int (v1 + (1 : Int32)))]) 1 [1, 0] (zdk tbX7_restore_0_ok 35 rfl) rfl (Nat.le_of_ble_eq_true rfl) rfl rfl ?_
  refine V_goto (tgt := 25) (zdk tbX7_restore_0_ok 36 rfl) (by decide) ?_
  exact hg25 v0 (v1 + (1 : Int32)) μ c_v0 h
def fX7_restore_b25 (n : Nat) : Nat → Nat → Int32 → ZMem → Option (ZMem × Int32)
  | 0, _, _, _ => none
  | k + 1, v0, v1, μ => (if (8 : Int32) ≤ v1 then some (μ, (zI μ v0 0)) else bd1 (zRc n 100 μ v0 15) (fun r2 => chk (inb v1 r2) ((if (zI μ r2 v1.toNatClampNeg) = (2 : Int32) then bd1 (zRc n 100 μ v0 18) (fun r6 => chk (inb v1 r6) ((if (zI μ r6 v1.toNatClampNeg) < (zI μ v0 0) then (fX7_restore_b61 (fX7_restore_b25 n k) n v0 v1 μ) else bd1 (zRc n 100 μ v0 15) (fun r10 => chk (inb v1 r10) (lt (zpI μ r10 v1.toNatClampNeg (0 : Int32)) (fun μ13 => (fX7_restore_b61 (fX7_restore_b25 n k) n v0 v1 μ13))))))) else (fX7_restore_b61 (fX7_restore_b25 n k) n v0 v1 μ)))))
theorem tX7_restore_b25 {l : Launch} {fr : Bool} {n : Nat} {z : ZMem × Int32} : ∀ (k : Nat) (v0 : Nat) (v1 : Int32) (μ : ZMem) (c_v0 : isC n 7 v0 = true), fX7_restore_b25 n k v0 v1 μ = some z → V (zkI l mX7_restore (rmd 3) fr n z) fr 25 [(0, .ref v0), (1, .int v1)] [] n μ := by
  intro k
  induction k with
  | zero =>
    intro v0 v1 μ c_v0 h
    unfold fX7_restore_b25 at h
    cases h
  | succ k ih =>
    intro v0 v1 μ c_v0 h
    unfold fX7_restore_b25 at h
    refine V_iload_n 1 (zdk tbX7_restore_0_ok 14 rfl) rfl ?_
    refine V_bipush (v := 8) (zdk tbX7_restore_0_ok 15 rfl) rfl ?_
    refine V_icmp_ge (tgt := 67) (zdk tbX7_restore_0_ok 16 rfl) (by decide) (fun c1 => ?_) (fun c1 => ?_)
    · replace h := ite_t h c1
      refine V_aload_n 0 (zdk tbX7_restore_0_ok 37 rfl) rfl ?_
      refine V_getI (zdk tbX7_restore_0_ok 38 rfl) c_v0 fF7_99 rfl ?_
      cases h
      exact V_iret (zdk tbX7_restore_0_ok 39 rfl) rfl rfl
    · replace h := ite_f h c1
      refine V_aload_n 0 (zdk tbX7_restore_0_ok 17 rfl) rfl ?_
      obtain ⟨r2, q3, h⟩ := bd1_some h
      obtain ⟨q3, c_r2⟩ := zRc_some q3
      refine V_getR (zdk tbX7_restore_0_ok 18 rfl) c_v0 fF7_47 rfl q3 ?_
      refine V_iload_n 1 (zdk tbX7_restore_0_ok 19 rfl) rfl ?_
      obtain ⟨b4, h⟩ := chk_some h
      refine V_iald (zdk tbX7_restore_0_ok 20 rfl) c_r2 b4 ?_
      refine V_iconst (v := 2) (zdk tbX7_restore_0_ok 21 rfl) rfl ?_
      refine V_icmp_ne (tgt := 61) (zdk tbX7_restore_0_ok 22 rfl) (by decide) (fun c5 => ?_) (fun c5 => ?_)
      · replace h := ite_f h c5
        exact tX7_restore_b61 (fun v0 v1 μ y0 h => ih v0 v1 μ y0 h) v0 v1 μ c_v0 h
      · replace h := ite_t h c5
        refine V_aload_n 0 (zdk tbX7_restore_0_ok 23 rfl) rfl ?_
        obtain ⟨r6, q7, h⟩ := bd1_some h
        obtain ⟨q7, c_r6⟩ := zRc_some q7
        refine V_getR (zdk tbX7_restore_0_ok 24 rfl) c_v0 fF7_56 rfl q7 ?_
        refine V_iload_n 1 (zdk tbX7_restore_0_ok 25 rfl) rfl ?_
        obtain ⟨b8, h⟩ := chk_some h
        refine V_iald (zdk tbX7_restore_0_ok 26 rfl) c_r6 b8 ?_
        refine V_aload_n 0 (zdk tbX7_restore_0_ok 27 rfl) rfl ?_
        refine V_getI (zdk tbX7_restore_0_ok 28 rfl) c_v0 fF7_99 rfl ?_
        refine V_icmp_lt (tgt := 61) (zdk tbX7_restore_0_ok 29 rfl) (by decide) (fun c9 => ?_) (fun c9 => ?_)
        · replace h := ite_t h c9
          exact tX7_restore_b61 (fun v0 v1 μ y0 h => ih v0 v1 μ y0 h) v0 v1 μ c_v0 h
        · replace h := ite_f h c9
          refine V_aload_n 0 (zdk tbX7_restore_0_ok 30 rfl) rfl ?_
          obtain ⟨r10, q11, h⟩ := bd1_some h
          obtain ⟨q11, c_r10⟩ := zRc_some q11
          refine V_getR (zdk tbX7_restore_0_ok 31 rfl) c_v0 fF7_47 rfl q11 ?_
          refine V_iload_n 1 (zdk tbX7_restore_0_ok 32 rfl) rfl ?_
          refine V_iconst (v := 0) (zdk tbX7_restore_0_ok 33 rfl) rfl ?_
          obtain ⟨b12, h⟩ := chk_some h
          obtain ⟨μ13, e14, h⟩ := lt_some h
          refine V_iast (zdk tbX7_restore_0_ok 34 rfl) c_r10 b12 e14 ?_
          exact tX7_restore_b61 (fun v0 v1 μ y0 h => ih v0 v1 μ y0 h) v0 v1 μ13 c_v0 h
def fX7_restore (n : Nat) (v0 : Nat) (μ : ZMem) : Option (ZMem × Int32) := chk (isC n 7 v0) ((if (zI μ v0 41) = 0 then bd2 (fX7_no n v0 (-6 : Int32) μ) (fun μ7 r8 => some (μ7, r8)) else bd1 (zRc n 100 μ v0 31) (fun r2 => bd1 (fX7_all n v0 r2 (1 : Int32) μ) (fun μ5 => (fX7_restore_b25 n FU v0 (0 : Int32) μ5)))))
theorem tX7_restore {l : Launch} {fr : Bool} {n : Nat} {v0 : Nat} {μ : ZMem} {z : ZMem × Int32} (h : fX7_restore n v0 μ = some z) : ZFn l mX7_restore (rmd 3) [.ref v0] fr n μ (fr, n, z.1, some (.int z.2)) := by
  unfold fX7_restore at h
  obtain ⟨c_v0, h⟩ := chk_some h
  refine ZFn.of (ls := [(0, .ref v0)]) (by decide) (fun ξ => Nat.le_of_ble_eq_true rfl) (fun ξ => rfl) ?_
  refine V_aload_n 0 (zdk tbX7_restore_0_ok 0 rfl) rfl ?_
  refine V_getI (zdk tbX7_restore_0_ok 1 rfl) c_v0 fF7_271 rfl ?_
  refine V_if_ne (tgt := 14) (zdk tbX7_restore_0_ok 2 rfl) (by decide) (fun c1 => ?_) (fun c1 => ?_)
  · replace h := ite_f h c1
    refine V_aload_n 0 (zdk tbX7_restore_0_ok 7 rfl) rfl ?_
    refine V_aload_n 0 (zdk tbX7_restore_0_ok 8 rfl) rfl ?_
    obtain ⟨r2, q3, h⟩ := bd1_some h
    obtain ⟨q3, c_r2⟩ := zRc_some q3
    refine V_getR (zdk tbX7_restore_0_ok 9 rfl) c_v0 fF7_81 rfl q3 ?_
    refine V_iconst (v := 1) (zdk tbX7_restore_0_ok 10 rfl) rfl ?_
    obtain ⟨μ5, q4, h⟩ := bd1_some h
    refine V_callV (R1 := (rmd 2)) (As := [.ref r2, .int (1 : Int32)]) (r := none) (zdk tbX7_restore_0_ok 11 rfl) sC7_182 (tX7_all q4) (c_v0) rfl rfl rfl ⟨Nat.le_of_ble_eq_true rfl, Nat.le_of_ble_eq_true rfl⟩ (Nat.le_of_ble_eq_true rfl) ⟨rfl, rfl⟩ id ?_
    refine V_iconst (v := 0) (zdk tbX7_restore_0_ok 12 rfl) rfl ?_
    refine V_istore_n (ls' := [(0, .ref v0), (1, .int (0 : Int32))]) [1, 0] (zdk tbX7_restore_0_ok 13 rfl) (Nat.le_of_ble_eq_true rfl) rfl ?_
    exact tX7_restore_b25 FU v0 (0 : Int32) μ5 c_v0 h
  · replace h := ite_t h c1
    refine V_aload_n 0 (zdk tbX7_restore_0_ok 3 rfl) rfl ?_
    refine V_bipush (v := (-6)) (zdk tbX7_restore_0_ok 4 rfl) rfl ?_
    obtain ⟨μ7, r8, q6, h⟩ := bd2_some h
    refine V_callV (R1 := (rmd 1)) (As := [.int (-6 : Int32)]) (r := (some (.int r8))) (zdk tbX7_restore_0_ok 5 rfl) sC7_106 (tX7_no q6) (c_v0) rfl rfl rfl ⟨Nat.le_of_ble_eq_true rfl, Nat.le_of_ble_eq_true rfl⟩ (Nat.le_of_ble_eq_true rfl) ⟨rfl, rfl⟩ id ?_
    cases h
    exact V_iret (zdk tbX7_restore_0_ok 6 rfl) rfl rfl

-- WhoComplainsCarriesModel.status
def tbX7_status_0 : List (Nat × Instr × Nat) := [(0, .iload_n 1, 1), (1, .bipush 11, 2), (3, .if_icmp .lt 19, 3), (6, .iload_n 1, 1), (7, .bipush 17, 2), (9, .if_icmp .gt 13, 3), (12, .aload_n 0, 1), (13, .getfield 28, 3), (16, .iload_n 1, 1), (17, .bipush 10, 2), (19, .isub, 1), (20, .iaload, 1), (21, .ireturn, 1), (22, .iload_n 1, 1), (23, .tableswitch 127 0 9 #[53, 58, 63, 68, 73, 78, 83, 88, 117, 122], 53), (76, .aload_n 0, 1), (77, .getfield 99, 3), (80, .ireturn, 1), (81, .aload_n 0, 1), (82, .getfield 7, 3), (85, .ireturn, 1), (86, .aload_n 0, 1), (87, .getfield 13, 3), (90, .ireturn, 1), (91, .aload_n 0, 1), (92, .getfield 130, 3), (95, .ireturn, 1), (96, .aload_n 0, 1), (97, .getfield 16, 3), (100, .ireturn, 1), (101, .aload_n 0, 1), (102, .getfield 176, 3), (105, .ireturn, 1), (106, .aload_n 0, 1), (107, .getfield 19, 3), (110, .ireturn, 1), (111, .iconst 0, 1), (112, .istore_n 2, 1), (113, .iconst 0, 1), (114, .istore_n 3, 1), (115, .iload_n 3, 1), (116, .aload_n 0, 1), (117, .getfield 99, 3), (120, .if_icmp .ge 18, 3), (123, .iload_n 2, 1), (124, .aload_n 0, 1), (125, .getfield 44, 3), (128, .iload_n 3, 1), (129, .iaload, 1), (130, .iadd, 1)]
theorem tbX7_status_0_ok : ∀ q ∈ tbX7_status_0, decode cX7_status q.1 = .ok (q.2.1, q.2.2) := by decide +kernel
def tbX7_status_1 : List (Nat × Instr × Nat) := [(131, .istore_n 2, 1), (132, .iinc 3 1, 3), (135, .goto (-20), 3), (138, .iload_n 2, 1), (139, .ireturn, 1), (140, .aload_n 0, 1), (141, .getfield 22, 3), (144, .ireturn, 1), (145, .aload_n 0, 1), (146, .getfield 255, 3), (149, .ireturn, 1), (150, .iconst (-1), 1), (151, .ireturn, 1)]
theorem tbX7_status_1_ok : ∀ q ∈ tbX7_status_1, decode cX7_status q.1 = .ok (q.2.1, q.2.2) := by decide +kernel
def fX7_status_b115 (n : Nat) : Nat → Nat → Int32 → Int32 → ZMem → Option (ZMem × Int32)
  | 0, _, _, _, _ => none
  | k + 1, v0, v2, v3, μ => (if (zI μ v0 0) ≤ v3 then some (μ, v2) else bd1 (zRc n 100 μ v0 14) (fun r2 => chk (inb v3 r2) ((fX7_status_b115 n k v0 (v2 + (zI μ r2 v3.toNatClampNeg)) (v3 + (1 : Int32)) μ))))
theorem tX7_status_b115 {l : Launch} {fr : Bool} {n : Nat} {z : ZMem × Int32} : ∀ (k : Nat) (v0 : Nat) (v2 : Int32) (v3 : Int32) (μ : ZMem) (c_v0 : isC n 7 v0 = true), fX7_status_b115 n k v0 v2 v3 μ = some z → V (zkI l mX7_status (rmd 1) fr n z) fr 115 [(0, .ref v0), (2, .int v2), (3, .int v3)] [] n μ := by
  intro k
  induction k with
  | zero =>
    intro v0 v2 v3 μ c_v0 h
    unfold fX7_status_b115 at h
    cases h
  | succ k ih =>
    intro v0 v2 v3 μ c_v0 h
    unfold fX7_status_b115 at h
    refine V_iload_n 2 (zdk tbX7_status_0_ok 40 rfl) rfl ?_
    refine V_aload_n 0 (zdk tbX7_status_0_ok 41 rfl) rfl ?_
    refine V_getI (zdk tbX7_status_0_ok 42 rfl) c_v0 fF7_99 rfl ?_
    refine V_icmp_ge (tgt := 138) (zdk tbX7_status_0_ok 43 rfl) (by decide) (fun c1 => ?_) (fun c1 => ?_)
    · replace h := ite_t h c1
      refine V_iload_n 1 (zdk tbX7_status_1_ok 3 rfl) rfl ?_
      cases h
      exact V_iret (zdk tbX7_status_1_ok 4 rfl) rfl rfl
    · replace h := ite_f h c1
      refine V_iload_n 1 (zdk tbX7_status_0_ok 44 rfl) rfl ?_
      refine V_aload_n 0 (zdk tbX7_status_0_ok 45 rfl) rfl ?_
      obtain ⟨r2, q3, h⟩ := bd1_some h
      obtain ⟨q3, c_r2⟩ := zRc_some q3
      refine V_getR (zdk tbX7_status_0_ok 46 rfl) c_v0 fF7_44 rfl q3 ?_
      refine V_iload_n 2 (zdk tbX7_status_0_ok 47 rfl) rfl ?_
      obtain ⟨b4, h⟩ := chk_some h
      refine V_iald (zdk tbX7_status_0_ok 48 rfl) c_r2 b4 ?_
      refine V_iadd (zdk tbX7_status_0_ok 49 rfl) ?_
      refine V_istore_n (ls' := [(0, .ref v0), (2, .int (v2 + (zI μ r2 v3.toNatClampNeg))), (3, .int v3)]) [1, 0, 2] (zdk tbX7_status_1_ok 0 rfl) (Nat.le_of_ble_eq_true rfl) rfl ?_
      refine V_inc (dx := 1) (ls' := [(0, .ref v0), (2, .int (v2 + (zI μ r2 v3.toNatClampNeg))), (3, .int (v3 + (1 : Int32)))]) 2 [1, 2, 0] (zdk tbX7_status_1_ok 1 rfl) rfl (Nat.le_of_ble_eq_true rfl) rfl rfl ?_
      refine V_goto (tgt := 115) (zdk tbX7_status_1_ok 2 rfl) (by decide) ?_
      exact ih v0 (v2 + (zI μ r2 v3.toNatClampNeg)) (v3 + (1 : Int32)) μ c_v0 h
def fX7_status_b22 (n : Nat) (v0 : Nat) (v1 : Int32) (μ : ZMem) : Option (ZMem × Int32) := (if v1 = (0 : Int32) then some (μ, (zI μ v0 0)) else (if v1 = (1 : Int32) then some (μ, (zI μ v0 1)) else (if v1 = (2 : Int32) then some (μ, (zI μ v0 2)) else (if v1 = (3 : Int32) then some (μ, (zI μ v0 3)) else (if v1 = (4 : Int32) then some (μ, (zI μ v0 4)) else (if v1 = (5 : Int32) then some (μ, (zI μ v0 5)) else (if v1 = (6 : Int32) then some (μ, (zI μ v0 6)) else (if v1 = (7 : Int32) then (fX7_status_b115 n FU v0 (0 : Int32) (0 : Int32) μ) else (if v1 = (8 : Int32) then some (μ, (zI μ v0 7)) else (if v1 = (9 : Int32) then some (μ, (zI μ v0 40)) else some (μ, (-1 : Int32))))))))))))
theorem tX7_status_b22 {l : Launch} {fr : Bool} {n : Nat} {z : ZMem × Int32} (v0 : Nat) (v1 : Int32) (μ : ZMem) (c_v0 : isC n 7 v0 = true) (h : fX7_status_b22 n v0 v1 μ = some z) : V (zkI l mX7_status (rmd 1) fr n z) fr 22 [(0, .ref v0), (1, .int v1)] [] n μ := by
  unfold fX7_status_b22 at h
  refine V_iload_n 1 (zdk tbX7_status_0_ok 13 rfl) rfl ?_
  by_cases c1 : v1 = (0 : Int32)
  · replace h := ite_t h c1
    refine V_tsw (off := 53) (tgt := 76) 0 c1 (zdk tbX7_status_0_ok 14 rfl) (by decide) rfl (by decide) ?_
    refine V_aload_n 0 (zdk tbX7_status_0_ok 15 rfl) rfl ?_
    refine V_getI (zdk tbX7_status_0_ok 16 rfl) c_v0 fF7_99 rfl ?_
    cases h
    exact V_iret (zdk tbX7_status_0_ok 17 rfl) rfl rfl
  · replace h := ite_f h c1
    by_cases c2 : v1 = (1 : Int32)
    · replace h := ite_t h c2
      refine V_tsw (off := 58) (tgt := 81) 1 c2 (zdk tbX7_status_0_ok 14 rfl) (by decide) rfl (by decide) ?_
      refine V_aload_n 0 (zdk tbX7_status_0_ok 18 rfl) rfl ?_
      refine V_getI (zdk tbX7_status_0_ok 19 rfl) c_v0 fF7_7 rfl ?_
      cases h
      exact V_iret (zdk tbX7_status_0_ok 20 rfl) rfl rfl
    · replace h := ite_f h c2
      by_cases c3 : v1 = (2 : Int32)
      · replace h := ite_t h c3
        refine V_tsw (off := 63) (tgt := 86) 2 c3 (zdk tbX7_status_0_ok 14 rfl) (by decide) rfl (by decide) ?_
        refine V_aload_n 0 (zdk tbX7_status_0_ok 21 rfl) rfl ?_
        refine V_getI (zdk tbX7_status_0_ok 22 rfl) c_v0 fF7_13 rfl ?_
        cases h
        exact V_iret (zdk tbX7_status_0_ok 23 rfl) rfl rfl
      · replace h := ite_f h c3
        by_cases c4 : v1 = (3 : Int32)
        · replace h := ite_t h c4
          refine V_tsw (off := 68) (tgt := 91) 3 c4 (zdk tbX7_status_0_ok 14 rfl) (by decide) rfl (by decide) ?_
          refine V_aload_n 0 (zdk tbX7_status_0_ok 24 rfl) rfl ?_
          refine V_getI (zdk tbX7_status_0_ok 25 rfl) c_v0 fF7_130 rfl ?_
          cases h
          exact V_iret (zdk tbX7_status_0_ok 26 rfl) rfl rfl
        · replace h := ite_f h c4
          by_cases c5 : v1 = (4 : Int32)
          · replace h := ite_t h c5
            refine V_tsw (off := 73) (tgt := 96) 4 c5 (zdk tbX7_status_0_ok 14 rfl) (by decide) rfl (by decide) ?_
            refine V_aload_n 0 (zdk tbX7_status_0_ok 27 rfl) rfl ?_
            refine V_getI (zdk tbX7_status_0_ok 28 rfl) c_v0 fF7_16 rfl ?_
            cases h
            exact V_iret (zdk tbX7_status_0_ok 29 rfl) rfl rfl
          · replace h := ite_f h c5
            by_cases c6 : v1 = (5 : Int32)
            · replace h := ite_t h c6
              refine V_tsw (off := 78) (tgt := 101) 5 c6 (zdk tbX7_status_0_ok 14 rfl) (by decide) rfl (by decide) ?_
              refine V_aload_n 0 (zdk tbX7_status_0_ok 30 rfl) rfl ?_
              refine V_getI (zdk tbX7_status_0_ok 31 rfl) c_v0 fF7_176 rfl ?_
              cases h
              exact V_iret (zdk tbX7_status_0_ok 32 rfl) rfl rfl
            · replace h := ite_f h c6
              by_cases c7 : v1 = (6 : Int32)
              · replace h := ite_t h c7
                refine V_tsw (off := 83) (tgt := 106) 6 c7 (zdk tbX7_status_0_ok 14 rfl) (by decide) rfl (by decide) ?_
                refine V_aload_n 0 (zdk tbX7_status_0_ok 33 rfl) rfl ?_
                refine V_getI (zdk tbX7_status_0_ok 34 rfl) c_v0 fF7_19 rfl ?_
                cases h
                exact V_iret (zdk tbX7_status_0_ok 35 rfl) rfl rfl
              · replace h := ite_f h c7
                by_cases c8 : v1 = (7 : Int32)
                · replace h := ite_t h c8
                  refine V_tsw (off := 88) (tgt := 111) 7 c8 (zdk tbX7_status_0_ok 14 rfl) (by decide) rfl (by decide) ?_
                  refine V_iconst (v := 0) (zdk tbX7_status_0_ok 36 rfl) rfl ?_
                  refine V_istore_n (ls' := [(0, .ref v0), (2, .int (0 : Int32))]) [1, 0] (zdk tbX7_status_0_ok 37 rfl) (Nat.le_of_ble_eq_true rfl) rfl ?_
                  refine V_iconst (v := 0) (zdk tbX7_status_0_ok 38 rfl) rfl ?_
                  refine V_istore_n (ls' := [(0, .ref v0), (2, .int (0 : Int32)), (3, .int (0 : Int32))]) [1, 2, 0] (zdk tbX7_status_0_ok 39 rfl) (Nat.le_of_ble_eq_true rfl) rfl ?_
                  exact tX7_status_b115 FU v0 (0 : Int32) (0 : Int32) μ c_v0 h
                · replace h := ite_f h c8
                  by_cases c9 : v1 = (8 : Int32)
                  · replace h := ite_t h c9
                    refine V_tsw (off := 117) (tgt := 140) 8 c9 (zdk tbX7_status_0_ok 14 rfl) (by decide) rfl (by decide) ?_
                    refine V_aload_n 0 (zdk tbX7_status_1_ok 5 rfl) rfl ?_
                    refine V_getI (zdk tbX7_status_1_ok 6 rfl) c_v0 fF7_22 rfl ?_
                    cases h
                    exact V_iret (zdk tbX7_status_1_ok 7 rfl) rfl rfl
                  · replace h := ite_f h c9
                    by_cases c10 : v1 = (9 : Int32)
                    · replace h := ite_t h c10
                      refine V_tsw (off := 122) (tgt := 145) 9 c10 (zdk tbX7_status_0_ok 14 rfl) (by decide) rfl (by decide) ?_
                      refine V_aload_n 0 (zdk tbX7_status_1_ok 8 rfl) rfl ?_
                      refine V_getI (zdk tbX7_status_1_ok 9 rfl) c_v0 fF7_255 rfl ?_
                      cases h
                      exact V_iret (zdk tbX7_status_1_ok 10 rfl) rfl rfl
                    · replace h := ite_f h c10
                      refine V_tsw0 (tgt := 150) [0, 1, 2, 3, 4, 5, 6, 7, 8, 9] (List.forall_mem_cons.mpr ⟨c1, List.forall_mem_cons.mpr ⟨c2, List.forall_mem_cons.mpr ⟨c3, List.forall_mem_cons.mpr ⟨c4, List.forall_mem_cons.mpr ⟨c5, List.forall_mem_cons.mpr ⟨c6, List.forall_mem_cons.mpr ⟨c7, List.forall_mem_cons.mpr ⟨c8, List.forall_mem_cons.mpr ⟨c9, List.forall_mem_cons.mpr ⟨c10, fun _ h => absurd h List.not_mem_nil⟩⟩⟩⟩⟩⟩⟩⟩⟩⟩) (zdk tbX7_status_0_ok 14 rfl) (by decide) (by decide) (by decide) ?_
                      refine V_iconst (v := (-1)) (zdk tbX7_status_1_ok 11 rfl) rfl ?_
                      cases h
                      exact V_iret (zdk tbX7_status_1_ok 12 rfl) rfl rfl
def fX7_status (n : Nat) (v0 : Nat) (v1 : Int32) (μ : ZMem) : Option (ZMem × Int32) := chk (isC n 7 v0) ((if v1 < (11 : Int32) then (fX7_status_b22 n v0 v1 μ) else (if (17 : Int32) < v1 then (fX7_status_b22 n v0 v1 μ) else bd1 (zRc n 100 μ v0 9) (fun r3 => chk (inb (v1 - (10 : Int32)) r3) (some (μ, (zI μ r3 (v1 - (10 : Int32)).toNatClampNeg)))))))
theorem tX7_status {l : Launch} {fr : Bool} {n : Nat} {v0 : Nat} {v1 : Int32} {μ : ZMem} {z : ZMem × Int32} (h : fX7_status n v0 v1 μ = some z) : ZFn l mX7_status (rmd 1) [.ref v0, .int v1] fr n μ (fr, n, z.1, some (.int z.2)) := by
  unfold fX7_status at h
  obtain ⟨c_v0, h⟩ := chk_some h
  refine ZFn.of (ls := [(0, .ref v0), (1, .int v1)]) (by decide) (fun ξ => Nat.le_of_ble_eq_true rfl) (fun ξ => rfl) ?_
  refine V_iload_n 1 (zdk tbX7_status_0_ok 0 rfl) rfl ?_
  refine V_bipush (v := 11) (zdk tbX7_status_0_ok 1 rfl) rfl ?_
  refine V_icmp_lt (tgt := 22) (zdk tbX7_status_0_ok 2 rfl) (by decide) (fun c1 => ?_) (fun c1 => ?_)
  · replace h := ite_t h c1
    exact tX7_status_b22 v0 v1 μ c_v0 h
  · replace h := ite_f h c1
    refine V_iload_n 1 (zdk tbX7_status_0_ok 3 rfl) rfl ?_
    refine V_bipush (v := 17) (zdk tbX7_status_0_ok 4 rfl) rfl ?_
    refine V_icmp_gt (tgt := 22) (zdk tbX7_status_0_ok 5 rfl) (by decide) (fun c2 => ?_) (fun c2 => ?_)
    · replace h := ite_t h c2
      exact tX7_status_b22 v0 v1 μ c_v0 h
    · replace h := ite_f h c2
      refine V_aload_n 0 (zdk tbX7_status_0_ok 6 rfl) rfl ?_
      obtain ⟨r3, q4, h⟩ := bd1_some h
      obtain ⟨q4, c_r3⟩ := zRc_some q4
      refine V_getR (zdk tbX7_status_0_ok 7 rfl) c_v0 fF7_28 rfl q4 ?_
      refine V_iload_n 1 (zdk tbX7_status_0_ok 8 rfl) rfl ?_
      refine V_bipush (v := 10) (zdk tbX7_status_0_ok 9 rfl) rfl ?_
      refine V_isub (zdk tbX7_status_0_ok 10 rfl) ?_
      obtain ⟨b5, h⟩ := chk_some h
      refine V_iald (zdk tbX7_status_0_ok 11 rfl) c_r3 b5 ?_
      cases h
      exact V_iret (zdk tbX7_status_0_ok 12 rfl) rfl rfl

