/-! The count of bits of fourteen. -/
def popN (y : Nat) : Nat := 0 + y / 1 % 2 + y / 2 % 2 + y / 4 % 2 + y / 8 % 2 + y / 16 % 2 + y / 32 % 2 + y / 64 % 2 + y / 128 % 2 + y / 256 % 2 + y / 512 % 2 + y / 1024 % 2 + y / 2048 % 2 + y / 4096 % 2 + y / 8192 % 2
theorem qbc0 : ∀ a, a < 128 → f_J6_bitCount_0f7a4 (nI (0 * 128 + a)) = some (nI (popN (0 * 128 + a))) := by decide +kernel
theorem qbc1 : ∀ a, a < 128 → f_J6_bitCount_0f7a4 (nI (1 * 128 + a)) = some (nI (popN (1 * 128 + a))) := by decide +kernel
theorem qbc2 : ∀ a, a < 128 → f_J6_bitCount_0f7a4 (nI (2 * 128 + a)) = some (nI (popN (2 * 128 + a))) := by decide +kernel
theorem qbc3 : ∀ a, a < 128 → f_J6_bitCount_0f7a4 (nI (3 * 128 + a)) = some (nI (popN (3 * 128 + a))) := by decide +kernel
theorem qbc4 : ∀ a, a < 128 → f_J6_bitCount_0f7a4 (nI (4 * 128 + a)) = some (nI (popN (4 * 128 + a))) := by decide +kernel
theorem qbc5 : ∀ a, a < 128 → f_J6_bitCount_0f7a4 (nI (5 * 128 + a)) = some (nI (popN (5 * 128 + a))) := by decide +kernel
theorem qbc6 : ∀ a, a < 128 → f_J6_bitCount_0f7a4 (nI (6 * 128 + a)) = some (nI (popN (6 * 128 + a))) := by decide +kernel
theorem qbc7 : ∀ a, a < 128 → f_J6_bitCount_0f7a4 (nI (7 * 128 + a)) = some (nI (popN (7 * 128 + a))) := by decide +kernel
theorem qbc8 : ∀ a, a < 128 → f_J6_bitCount_0f7a4 (nI (8 * 128 + a)) = some (nI (popN (8 * 128 + a))) := by decide +kernel
theorem qbc9 : ∀ a, a < 128 → f_J6_bitCount_0f7a4 (nI (9 * 128 + a)) = some (nI (popN (9 * 128 + a))) := by decide +kernel
theorem qbc10 : ∀ a, a < 128 → f_J6_bitCount_0f7a4 (nI (10 * 128 + a)) = some (nI (popN (10 * 128 + a))) := by decide +kernel
theorem qbc11 : ∀ a, a < 128 → f_J6_bitCount_0f7a4 (nI (11 * 128 + a)) = some (nI (popN (11 * 128 + a))) := by decide +kernel
theorem qbc12 : ∀ a, a < 128 → f_J6_bitCount_0f7a4 (nI (12 * 128 + a)) = some (nI (popN (12 * 128 + a))) := by decide +kernel
theorem qbc13 : ∀ a, a < 128 → f_J6_bitCount_0f7a4 (nI (13 * 128 + a)) = some (nI (popN (13 * 128 + a))) := by decide +kernel
theorem qbc14 : ∀ a, a < 128 → f_J6_bitCount_0f7a4 (nI (14 * 128 + a)) = some (nI (popN (14 * 128 + a))) := by decide +kernel
theorem qbc15 : ∀ a, a < 128 → f_J6_bitCount_0f7a4 (nI (15 * 128 + a)) = some (nI (popN (15 * 128 + a))) := by decide +kernel
theorem qbc16 : ∀ a, a < 128 → f_J6_bitCount_0f7a4 (nI (16 * 128 + a)) = some (nI (popN (16 * 128 + a))) := by decide +kernel
theorem qbc17 : ∀ a, a < 128 → f_J6_bitCount_0f7a4 (nI (17 * 128 + a)) = some (nI (popN (17 * 128 + a))) := by decide +kernel
theorem qbc18 : ∀ a, a < 128 → f_J6_bitCount_0f7a4 (nI (18 * 128 + a)) = some (nI (popN (18 * 128 + a))) := by decide +kernel
theorem qbc19 : ∀ a, a < 128 → f_J6_bitCount_0f7a4 (nI (19 * 128 + a)) = some (nI (popN (19 * 128 + a))) := by decide +kernel
theorem qbc20 : ∀ a, a < 128 → f_J6_bitCount_0f7a4 (nI (20 * 128 + a)) = some (nI (popN (20 * 128 + a))) := by decide +kernel
theorem qbc21 : ∀ a, a < 128 → f_J6_bitCount_0f7a4 (nI (21 * 128 + a)) = some (nI (popN (21 * 128 + a))) := by decide +kernel
theorem qbc22 : ∀ a, a < 128 → f_J6_bitCount_0f7a4 (nI (22 * 128 + a)) = some (nI (popN (22 * 128 + a))) := by decide +kernel
theorem qbc23 : ∀ a, a < 128 → f_J6_bitCount_0f7a4 (nI (23 * 128 + a)) = some (nI (popN (23 * 128 + a))) := by decide +kernel
theorem qbc24 : ∀ a, a < 128 → f_J6_bitCount_0f7a4 (nI (24 * 128 + a)) = some (nI (popN (24 * 128 + a))) := by decide +kernel
theorem qbc25 : ∀ a, a < 128 → f_J6_bitCount_0f7a4 (nI (25 * 128 + a)) = some (nI (popN (25 * 128 + a))) := by decide +kernel
theorem qbc26 : ∀ a, a < 128 → f_J6_bitCount_0f7a4 (nI (26 * 128 + a)) = some (nI (popN (26 * 128 + a))) := by decide +kernel
theorem qbc27 : ∀ a, a < 128 → f_J6_bitCount_0f7a4 (nI (27 * 128 + a)) = some (nI (popN (27 * 128 + a))) := by decide +kernel
theorem qbc28 : ∀ a, a < 128 → f_J6_bitCount_0f7a4 (nI (28 * 128 + a)) = some (nI (popN (28 * 128 + a))) := by decide +kernel
theorem qbc29 : ∀ a, a < 128 → f_J6_bitCount_0f7a4 (nI (29 * 128 + a)) = some (nI (popN (29 * 128 + a))) := by decide +kernel
theorem qbc30 : ∀ a, a < 128 → f_J6_bitCount_0f7a4 (nI (30 * 128 + a)) = some (nI (popN (30 * 128 + a))) := by decide +kernel
theorem qbc31 : ∀ a, a < 128 → f_J6_bitCount_0f7a4 (nI (31 * 128 + a)) = some (nI (popN (31 * 128 + a))) := by decide +kernel
theorem qbc32 : ∀ a, a < 128 → f_J6_bitCount_0f7a4 (nI (32 * 128 + a)) = some (nI (popN (32 * 128 + a))) := by decide +kernel
theorem qbc33 : ∀ a, a < 128 → f_J6_bitCount_0f7a4 (nI (33 * 128 + a)) = some (nI (popN (33 * 128 + a))) := by decide +kernel
theorem qbc34 : ∀ a, a < 128 → f_J6_bitCount_0f7a4 (nI (34 * 128 + a)) = some (nI (popN (34 * 128 + a))) := by decide +kernel
theorem qbc35 : ∀ a, a < 128 → f_J6_bitCount_0f7a4 (nI (35 * 128 + a)) = some (nI (popN (35 * 128 + a))) := by decide +kernel
theorem qbc36 : ∀ a, a < 128 → f_J6_bitCount_0f7a4 (nI (36 * 128 + a)) = some (nI (popN (36 * 128 + a))) := by decide +kernel
theorem qbc37 : ∀ a, a < 128 → f_J6_bitCount_0f7a4 (nI (37 * 128 + a)) = some (nI (popN (37 * 128 + a))) := by decide +kernel
theorem qbc38 : ∀ a, a < 128 → f_J6_bitCount_0f7a4 (nI (38 * 128 + a)) = some (nI (popN (38 * 128 + a))) := by decide +kernel
theorem qbc39 : ∀ a, a < 128 → f_J6_bitCount_0f7a4 (nI (39 * 128 + a)) = some (nI (popN (39 * 128 + a))) := by decide +kernel
theorem qbc40 : ∀ a, a < 128 → f_J6_bitCount_0f7a4 (nI (40 * 128 + a)) = some (nI (popN (40 * 128 + a))) := by decide +kernel
theorem qbc41 : ∀ a, a < 128 → f_J6_bitCount_0f7a4 (nI (41 * 128 + a)) = some (nI (popN (41 * 128 + a))) := by decide +kernel
theorem qbc42 : ∀ a, a < 128 → f_J6_bitCount_0f7a4 (nI (42 * 128 + a)) = some (nI (popN (42 * 128 + a))) := by decide +kernel
theorem qbc43 : ∀ a, a < 128 → f_J6_bitCount_0f7a4 (nI (43 * 128 + a)) = some (nI (popN (43 * 128 + a))) := by decide +kernel
theorem qbc44 : ∀ a, a < 128 → f_J6_bitCount_0f7a4 (nI (44 * 128 + a)) = some (nI (popN (44 * 128 + a))) := by decide +kernel
theorem qbc45 : ∀ a, a < 128 → f_J6_bitCount_0f7a4 (nI (45 * 128 + a)) = some (nI (popN (45 * 128 + a))) := by decide +kernel
theorem qbc46 : ∀ a, a < 128 → f_J6_bitCount_0f7a4 (nI (46 * 128 + a)) = some (nI (popN (46 * 128 + a))) := by decide +kernel
theorem qbc47 : ∀ a, a < 128 → f_J6_bitCount_0f7a4 (nI (47 * 128 + a)) = some (nI (popN (47 * 128 + a))) := by decide +kernel
theorem qbc48 : ∀ a, a < 128 → f_J6_bitCount_0f7a4 (nI (48 * 128 + a)) = some (nI (popN (48 * 128 + a))) := by decide +kernel
theorem qbc49 : ∀ a, a < 128 → f_J6_bitCount_0f7a4 (nI (49 * 128 + a)) = some (nI (popN (49 * 128 + a))) := by decide +kernel
theorem qbc50 : ∀ a, a < 128 → f_J6_bitCount_0f7a4 (nI (50 * 128 + a)) = some (nI (popN (50 * 128 + a))) := by decide +kernel
theorem qbc51 : ∀ a, a < 128 → f_J6_bitCount_0f7a4 (nI (51 * 128 + a)) = some (nI (popN (51 * 128 + a))) := by decide +kernel
theorem qbc52 : ∀ a, a < 128 → f_J6_bitCount_0f7a4 (nI (52 * 128 + a)) = some (nI (popN (52 * 128 + a))) := by decide +kernel
theorem qbc53 : ∀ a, a < 128 → f_J6_bitCount_0f7a4 (nI (53 * 128 + a)) = some (nI (popN (53 * 128 + a))) := by decide +kernel
theorem qbc54 : ∀ a, a < 128 → f_J6_bitCount_0f7a4 (nI (54 * 128 + a)) = some (nI (popN (54 * 128 + a))) := by decide +kernel
theorem qbc55 : ∀ a, a < 128 → f_J6_bitCount_0f7a4 (nI (55 * 128 + a)) = some (nI (popN (55 * 128 + a))) := by decide +kernel
theorem qbc56 : ∀ a, a < 128 → f_J6_bitCount_0f7a4 (nI (56 * 128 + a)) = some (nI (popN (56 * 128 + a))) := by decide +kernel
theorem qbc57 : ∀ a, a < 128 → f_J6_bitCount_0f7a4 (nI (57 * 128 + a)) = some (nI (popN (57 * 128 + a))) := by decide +kernel
theorem qbc58 : ∀ a, a < 128 → f_J6_bitCount_0f7a4 (nI (58 * 128 + a)) = some (nI (popN (58 * 128 + a))) := by decide +kernel
theorem qbc59 : ∀ a, a < 128 → f_J6_bitCount_0f7a4 (nI (59 * 128 + a)) = some (nI (popN (59 * 128 + a))) := by decide +kernel
theorem qbc60 : ∀ a, a < 128 → f_J6_bitCount_0f7a4 (nI (60 * 128 + a)) = some (nI (popN (60 * 128 + a))) := by decide +kernel
theorem qbc61 : ∀ a, a < 128 → f_J6_bitCount_0f7a4 (nI (61 * 128 + a)) = some (nI (popN (61 * 128 + a))) := by decide +kernel
theorem qbc62 : ∀ a, a < 128 → f_J6_bitCount_0f7a4 (nI (62 * 128 + a)) = some (nI (popN (62 * 128 + a))) := by decide +kernel
theorem qbc63 : ∀ a, a < 128 → f_J6_bitCount_0f7a4 (nI (63 * 128 + a)) = some (nI (popN (63 * 128 + a))) := by decide +kernel
theorem qbc64 : ∀ a, a < 128 → f_J6_bitCount_0f7a4 (nI (64 * 128 + a)) = some (nI (popN (64 * 128 + a))) := by decide +kernel
theorem qbc65 : ∀ a, a < 128 → f_J6_bitCount_0f7a4 (nI (65 * 128 + a)) = some (nI (popN (65 * 128 + a))) := by decide +kernel
theorem qbc66 : ∀ a, a < 128 → f_J6_bitCount_0f7a4 (nI (66 * 128 + a)) = some (nI (popN (66 * 128 + a))) := by decide +kernel
theorem qbc67 : ∀ a, a < 128 → f_J6_bitCount_0f7a4 (nI (67 * 128 + a)) = some (nI (popN (67 * 128 + a))) := by decide +kernel
theorem qbc68 : ∀ a, a < 128 → f_J6_bitCount_0f7a4 (nI (68 * 128 + a)) = some (nI (popN (68 * 128 + a))) := by decide +kernel
theorem qbc69 : ∀ a, a < 128 → f_J6_bitCount_0f7a4 (nI (69 * 128 + a)) = some (nI (popN (69 * 128 + a))) := by decide +kernel
theorem qbc70 : ∀ a, a < 128 → f_J6_bitCount_0f7a4 (nI (70 * 128 + a)) = some (nI (popN (70 * 128 + a))) := by decide +kernel
theorem qbc71 : ∀ a, a < 128 → f_J6_bitCount_0f7a4 (nI (71 * 128 + a)) = some (nI (popN (71 * 128 + a))) := by decide +kernel
theorem qbc72 : ∀ a, a < 128 → f_J6_bitCount_0f7a4 (nI (72 * 128 + a)) = some (nI (popN (72 * 128 + a))) := by decide +kernel
theorem qbc73 : ∀ a, a < 128 → f_J6_bitCount_0f7a4 (nI (73 * 128 + a)) = some (nI (popN (73 * 128 + a))) := by decide +kernel
theorem qbc74 : ∀ a, a < 128 → f_J6_bitCount_0f7a4 (nI (74 * 128 + a)) = some (nI (popN (74 * 128 + a))) := by decide +kernel
theorem qbc75 : ∀ a, a < 128 → f_J6_bitCount_0f7a4 (nI (75 * 128 + a)) = some (nI (popN (75 * 128 + a))) := by decide +kernel
theorem qbc76 : ∀ a, a < 128 → f_J6_bitCount_0f7a4 (nI (76 * 128 + a)) = some (nI (popN (76 * 128 + a))) := by decide +kernel
theorem qbc77 : ∀ a, a < 128 → f_J6_bitCount_0f7a4 (nI (77 * 128 + a)) = some (nI (popN (77 * 128 + a))) := by decide +kernel
theorem qbc78 : ∀ a, a < 128 → f_J6_bitCount_0f7a4 (nI (78 * 128 + a)) = some (nI (popN (78 * 128 + a))) := by decide +kernel
theorem qbc79 : ∀ a, a < 128 → f_J6_bitCount_0f7a4 (nI (79 * 128 + a)) = some (nI (popN (79 * 128 + a))) := by decide +kernel
theorem qbc80 : ∀ a, a < 128 → f_J6_bitCount_0f7a4 (nI (80 * 128 + a)) = some (nI (popN (80 * 128 + a))) := by decide +kernel
theorem qbc81 : ∀ a, a < 128 → f_J6_bitCount_0f7a4 (nI (81 * 128 + a)) = some (nI (popN (81 * 128 + a))) := by decide +kernel
theorem qbc82 : ∀ a, a < 128 → f_J6_bitCount_0f7a4 (nI (82 * 128 + a)) = some (nI (popN (82 * 128 + a))) := by decide +kernel
theorem qbc83 : ∀ a, a < 128 → f_J6_bitCount_0f7a4 (nI (83 * 128 + a)) = some (nI (popN (83 * 128 + a))) := by decide +kernel
theorem qbc84 : ∀ a, a < 128 → f_J6_bitCount_0f7a4 (nI (84 * 128 + a)) = some (nI (popN (84 * 128 + a))) := by decide +kernel
theorem qbc85 : ∀ a, a < 128 → f_J6_bitCount_0f7a4 (nI (85 * 128 + a)) = some (nI (popN (85 * 128 + a))) := by decide +kernel
theorem qbc86 : ∀ a, a < 128 → f_J6_bitCount_0f7a4 (nI (86 * 128 + a)) = some (nI (popN (86 * 128 + a))) := by decide +kernel
theorem qbc87 : ∀ a, a < 128 → f_J6_bitCount_0f7a4 (nI (87 * 128 + a)) = some (nI (popN (87 * 128 + a))) := by decide +kernel
theorem qbc88 : ∀ a, a < 128 → f_J6_bitCount_0f7a4 (nI (88 * 128 + a)) = some (nI (popN (88 * 128 + a))) := by decide +kernel
theorem qbc89 : ∀ a, a < 128 → f_J6_bitCount_0f7a4 (nI (89 * 128 + a)) = some (nI (popN (89 * 128 + a))) := by decide +kernel
theorem qbc90 : ∀ a, a < 128 → f_J6_bitCount_0f7a4 (nI (90 * 128 + a)) = some (nI (popN (90 * 128 + a))) := by decide +kernel
theorem qbc91 : ∀ a, a < 128 → f_J6_bitCount_0f7a4 (nI (91 * 128 + a)) = some (nI (popN (91 * 128 + a))) := by decide +kernel
theorem qbc92 : ∀ a, a < 128 → f_J6_bitCount_0f7a4 (nI (92 * 128 + a)) = some (nI (popN (92 * 128 + a))) := by decide +kernel
theorem qbc93 : ∀ a, a < 128 → f_J6_bitCount_0f7a4 (nI (93 * 128 + a)) = some (nI (popN (93 * 128 + a))) := by decide +kernel
theorem qbc94 : ∀ a, a < 128 → f_J6_bitCount_0f7a4 (nI (94 * 128 + a)) = some (nI (popN (94 * 128 + a))) := by decide +kernel
theorem qbc95 : ∀ a, a < 128 → f_J6_bitCount_0f7a4 (nI (95 * 128 + a)) = some (nI (popN (95 * 128 + a))) := by decide +kernel
theorem qbc96 : ∀ a, a < 128 → f_J6_bitCount_0f7a4 (nI (96 * 128 + a)) = some (nI (popN (96 * 128 + a))) := by decide +kernel
theorem qbc97 : ∀ a, a < 128 → f_J6_bitCount_0f7a4 (nI (97 * 128 + a)) = some (nI (popN (97 * 128 + a))) := by decide +kernel
theorem qbc98 : ∀ a, a < 128 → f_J6_bitCount_0f7a4 (nI (98 * 128 + a)) = some (nI (popN (98 * 128 + a))) := by decide +kernel
theorem qbc99 : ∀ a, a < 128 → f_J6_bitCount_0f7a4 (nI (99 * 128 + a)) = some (nI (popN (99 * 128 + a))) := by decide +kernel
theorem qbc100 : ∀ a, a < 128 → f_J6_bitCount_0f7a4 (nI (100 * 128 + a)) = some (nI (popN (100 * 128 + a))) := by decide +kernel
theorem qbc101 : ∀ a, a < 128 → f_J6_bitCount_0f7a4 (nI (101 * 128 + a)) = some (nI (popN (101 * 128 + a))) := by decide +kernel
theorem qbc102 : ∀ a, a < 128 → f_J6_bitCount_0f7a4 (nI (102 * 128 + a)) = some (nI (popN (102 * 128 + a))) := by decide +kernel
theorem qbc103 : ∀ a, a < 128 → f_J6_bitCount_0f7a4 (nI (103 * 128 + a)) = some (nI (popN (103 * 128 + a))) := by decide +kernel
theorem qbc104 : ∀ a, a < 128 → f_J6_bitCount_0f7a4 (nI (104 * 128 + a)) = some (nI (popN (104 * 128 + a))) := by decide +kernel
theorem qbc105 : ∀ a, a < 128 → f_J6_bitCount_0f7a4 (nI (105 * 128 + a)) = some (nI (popN (105 * 128 + a))) := by decide +kernel
theorem qbc106 : ∀ a, a < 128 → f_J6_bitCount_0f7a4 (nI (106 * 128 + a)) = some (nI (popN (106 * 128 + a))) := by decide +kernel
theorem qbc107 : ∀ a, a < 128 → f_J6_bitCount_0f7a4 (nI (107 * 128 + a)) = some (nI (popN (107 * 128 + a))) := by decide +kernel
theorem qbc108 : ∀ a, a < 128 → f_J6_bitCount_0f7a4 (nI (108 * 128 + a)) = some (nI (popN (108 * 128 + a))) := by decide +kernel
theorem qbc109 : ∀ a, a < 128 → f_J6_bitCount_0f7a4 (nI (109 * 128 + a)) = some (nI (popN (109 * 128 + a))) := by decide +kernel
theorem qbc110 : ∀ a, a < 128 → f_J6_bitCount_0f7a4 (nI (110 * 128 + a)) = some (nI (popN (110 * 128 + a))) := by decide +kernel
theorem qbc111 : ∀ a, a < 128 → f_J6_bitCount_0f7a4 (nI (111 * 128 + a)) = some (nI (popN (111 * 128 + a))) := by decide +kernel
theorem qbc112 : ∀ a, a < 128 → f_J6_bitCount_0f7a4 (nI (112 * 128 + a)) = some (nI (popN (112 * 128 + a))) := by decide +kernel
theorem qbc113 : ∀ a, a < 128 → f_J6_bitCount_0f7a4 (nI (113 * 128 + a)) = some (nI (popN (113 * 128 + a))) := by decide +kernel
theorem qbc114 : ∀ a, a < 128 → f_J6_bitCount_0f7a4 (nI (114 * 128 + a)) = some (nI (popN (114 * 128 + a))) := by decide +kernel
theorem qbc115 : ∀ a, a < 128 → f_J6_bitCount_0f7a4 (nI (115 * 128 + a)) = some (nI (popN (115 * 128 + a))) := by decide +kernel
theorem qbc116 : ∀ a, a < 128 → f_J6_bitCount_0f7a4 (nI (116 * 128 + a)) = some (nI (popN (116 * 128 + a))) := by decide +kernel
theorem qbc117 : ∀ a, a < 128 → f_J6_bitCount_0f7a4 (nI (117 * 128 + a)) = some (nI (popN (117 * 128 + a))) := by decide +kernel
theorem qbc118 : ∀ a, a < 128 → f_J6_bitCount_0f7a4 (nI (118 * 128 + a)) = some (nI (popN (118 * 128 + a))) := by decide +kernel
theorem qbc119 : ∀ a, a < 128 → f_J6_bitCount_0f7a4 (nI (119 * 128 + a)) = some (nI (popN (119 * 128 + a))) := by decide +kernel
theorem qbc120 : ∀ a, a < 128 → f_J6_bitCount_0f7a4 (nI (120 * 128 + a)) = some (nI (popN (120 * 128 + a))) := by decide +kernel
theorem qbc121 : ∀ a, a < 128 → f_J6_bitCount_0f7a4 (nI (121 * 128 + a)) = some (nI (popN (121 * 128 + a))) := by decide +kernel
theorem qbc122 : ∀ a, a < 128 → f_J6_bitCount_0f7a4 (nI (122 * 128 + a)) = some (nI (popN (122 * 128 + a))) := by decide +kernel
theorem qbc123 : ∀ a, a < 128 → f_J6_bitCount_0f7a4 (nI (123 * 128 + a)) = some (nI (popN (123 * 128 + a))) := by decide +kernel
theorem qbc124 : ∀ a, a < 128 → f_J6_bitCount_0f7a4 (nI (124 * 128 + a)) = some (nI (popN (124 * 128 + a))) := by decide +kernel
theorem qbc125 : ∀ a, a < 128 → f_J6_bitCount_0f7a4 (nI (125 * 128 + a)) = some (nI (popN (125 * 128 + a))) := by decide +kernel
theorem qbc126 : ∀ a, a < 128 → f_J6_bitCount_0f7a4 (nI (126 * 128 + a)) = some (nI (popN (126 * 128 + a))) := by decide +kernel
theorem qbc127 : ∀ a, a < 128 → f_J6_bitCount_0f7a4 (nI (127 * 128 + a)) = some (nI (popN (127 * 128 + a))) := by decide +kernel
theorem bc_all {a b : Nat} (ha : a < 128) (hb : b < 128) : f_J6_bitCount_0f7a4 (nI (b * 128 + a)) = some (nI (popN (b * 128 + a))) := by
  rcases Nat.lt_or_ge b 64 with h1 | h1
  · rcases Nat.lt_or_ge b 32 with h2 | h2
    · rcases Nat.lt_or_ge b 16 with h3 | h3
      · rcases Nat.lt_or_ge b 8 with h4 | h4
        · rcases Nat.lt_or_ge b 4 with h5 | h5
          · rcases Nat.lt_or_ge b 2 with h6 | h6
            · rcases Nat.lt_or_ge b 1 with h7 | h7
              · rw [show b = 0 by omega]; exact qbc0 a ha
              · rw [show b = 1 by omega]; exact qbc1 a ha
            · rcases Nat.lt_or_ge b 3 with h7 | h7
              · rw [show b = 2 by omega]; exact qbc2 a ha
              · rw [show b = 3 by omega]; exact qbc3 a ha
          · rcases Nat.lt_or_ge b 6 with h6 | h6
            · rcases Nat.lt_or_ge b 5 with h7 | h7
              · rw [show b = 4 by omega]; exact qbc4 a ha
              · rw [show b = 5 by omega]; exact qbc5 a ha
            · rcases Nat.lt_or_ge b 7 with h7 | h7
              · rw [show b = 6 by omega]; exact qbc6 a ha
              · rw [show b = 7 by omega]; exact qbc7 a ha
        · rcases Nat.lt_or_ge b 12 with h5 | h5
          · rcases Nat.lt_or_ge b 10 with h6 | h6
            · rcases Nat.lt_or_ge b 9 with h7 | h7
              · rw [show b = 8 by omega]; exact qbc8 a ha
              · rw [show b = 9 by omega]; exact qbc9 a ha
            · rcases Nat.lt_or_ge b 11 with h7 | h7
              · rw [show b = 10 by omega]; exact qbc10 a ha
              · rw [show b = 11 by omega]; exact qbc11 a ha
          · rcases Nat.lt_or_ge b 14 with h6 | h6
            · rcases Nat.lt_or_ge b 13 with h7 | h7
              · rw [show b = 12 by omega]; exact qbc12 a ha
              · rw [show b = 13 by omega]; exact qbc13 a ha
            · rcases Nat.lt_or_ge b 15 with h7 | h7
              · rw [show b = 14 by omega]; exact qbc14 a ha
              · rw [show b = 15 by omega]; exact qbc15 a ha
      · rcases Nat.lt_or_ge b 24 with h4 | h4
        · rcases Nat.lt_or_ge b 20 with h5 | h5
          · rcases Nat.lt_or_ge b 18 with h6 | h6
            · rcases Nat.lt_or_ge b 17 with h7 | h7
              · rw [show b = 16 by omega]; exact qbc16 a ha
              · rw [show b = 17 by omega]; exact qbc17 a ha
            · rcases Nat.lt_or_ge b 19 with h7 | h7
              · rw [show b = 18 by omega]; exact qbc18 a ha
              · rw [show b = 19 by omega]; exact qbc19 a ha
          · rcases Nat.lt_or_ge b 22 with h6 | h6
            · rcases Nat.lt_or_ge b 21 with h7 | h7
              · rw [show b = 20 by omega]; exact qbc20 a ha
              · rw [show b = 21 by omega]; exact qbc21 a ha
            · rcases Nat.lt_or_ge b 23 with h7 | h7
              · rw [show b = 22 by omega]; exact qbc22 a ha
              · rw [show b = 23 by omega]; exact qbc23 a ha
        · rcases Nat.lt_or_ge b 28 with h5 | h5
          · rcases Nat.lt_or_ge b 26 with h6 | h6
            · rcases Nat.lt_or_ge b 25 with h7 | h7
              · rw [show b = 24 by omega]; exact qbc24 a ha
              · rw [show b = 25 by omega]; exact qbc25 a ha
            · rcases Nat.lt_or_ge b 27 with h7 | h7
              · rw [show b = 26 by omega]; exact qbc26 a ha
              · rw [show b = 27 by omega]; exact qbc27 a ha
          · rcases Nat.lt_or_ge b 30 with h6 | h6
            · rcases Nat.lt_or_ge b 29 with h7 | h7
              · rw [show b = 28 by omega]; exact qbc28 a ha
              · rw [show b = 29 by omega]; exact qbc29 a ha
            · rcases Nat.lt_or_ge b 31 with h7 | h7
              · rw [show b = 30 by omega]; exact qbc30 a ha
              · rw [show b = 31 by omega]; exact qbc31 a ha
    · rcases Nat.lt_or_ge b 48 with h3 | h3
      · rcases Nat.lt_or_ge b 40 with h4 | h4
        · rcases Nat.lt_or_ge b 36 with h5 | h5
          · rcases Nat.lt_or_ge b 34 with h6 | h6
            · rcases Nat.lt_or_ge b 33 with h7 | h7
              · rw [show b = 32 by omega]; exact qbc32 a ha
              · rw [show b = 33 by omega]; exact qbc33 a ha
            · rcases Nat.lt_or_ge b 35 with h7 | h7
              · rw [show b = 34 by omega]; exact qbc34 a ha
              · rw [show b = 35 by omega]; exact qbc35 a ha
          · rcases Nat.lt_or_ge b 38 with h6 | h6
            · rcases Nat.lt_or_ge b 37 with h7 | h7
              · rw [show b = 36 by omega]; exact qbc36 a ha
              · rw [show b = 37 by omega]; exact qbc37 a ha
            · rcases Nat.lt_or_ge b 39 with h7 | h7
              · rw [show b = 38 by omega]; exact qbc38 a ha
              · rw [show b = 39 by omega]; exact qbc39 a ha
        · rcases Nat.lt_or_ge b 44 with h5 | h5
          · rcases Nat.lt_or_ge b 42 with h6 | h6
            · rcases Nat.lt_or_ge b 41 with h7 | h7
              · rw [show b = 40 by omega]; exact qbc40 a ha
              · rw [show b = 41 by omega]; exact qbc41 a ha
            · rcases Nat.lt_or_ge b 43 with h7 | h7
              · rw [show b = 42 by omega]; exact qbc42 a ha
              · rw [show b = 43 by omega]; exact qbc43 a ha
          · rcases Nat.lt_or_ge b 46 with h6 | h6
            · rcases Nat.lt_or_ge b 45 with h7 | h7
              · rw [show b = 44 by omega]; exact qbc44 a ha
              · rw [show b = 45 by omega]; exact qbc45 a ha
            · rcases Nat.lt_or_ge b 47 with h7 | h7
              · rw [show b = 46 by omega]; exact qbc46 a ha
              · rw [show b = 47 by omega]; exact qbc47 a ha
      · rcases Nat.lt_or_ge b 56 with h4 | h4
        · rcases Nat.lt_or_ge b 52 with h5 | h5
          · rcases Nat.lt_or_ge b 50 with h6 | h6
            · rcases Nat.lt_or_ge b 49 with h7 | h7
              · rw [show b = 48 by omega]; exact qbc48 a ha
              · rw [show b = 49 by omega]; exact qbc49 a ha
            · rcases Nat.lt_or_ge b 51 with h7 | h7
              · rw [show b = 50 by omega]; exact qbc50 a ha
              · rw [show b = 51 by omega]; exact qbc51 a ha
          · rcases Nat.lt_or_ge b 54 with h6 | h6
            · rcases Nat.lt_or_ge b 53 with h7 | h7
              · rw [show b = 52 by omega]; exact qbc52 a ha
              · rw [show b = 53 by omega]; exact qbc53 a ha
            · rcases Nat.lt_or_ge b 55 with h7 | h7
              · rw [show b = 54 by omega]; exact qbc54 a ha
              · rw [show b = 55 by omega]; exact qbc55 a ha
        · rcases Nat.lt_or_ge b 60 with h5 | h5
          · rcases Nat.lt_or_ge b 58 with h6 | h6
            · rcases Nat.lt_or_ge b 57 with h7 | h7
              · rw [show b = 56 by omega]; exact qbc56 a ha
              · rw [show b = 57 by omega]; exact qbc57 a ha
            · rcases Nat.lt_or_ge b 59 with h7 | h7
              · rw [show b = 58 by omega]; exact qbc58 a ha
              · rw [show b = 59 by omega]; exact qbc59 a ha
          · rcases Nat.lt_or_ge b 62 with h6 | h6
            · rcases Nat.lt_or_ge b 61 with h7 | h7
              · rw [show b = 60 by omega]; exact qbc60 a ha
              · rw [show b = 61 by omega]; exact qbc61 a ha
            · rcases Nat.lt_or_ge b 63 with h7 | h7
              · rw [show b = 62 by omega]; exact qbc62 a ha
              · rw [show b = 63 by omega]; exact qbc63 a ha
  · rcases Nat.lt_or_ge b 96 with h2 | h2
    · rcases Nat.lt_or_ge b 80 with h3 | h3
      · rcases Nat.lt_or_ge b 72 with h4 | h4
        · rcases Nat.lt_or_ge b 68 with h5 | h5
          · rcases Nat.lt_or_ge b 66 with h6 | h6
            · rcases Nat.lt_or_ge b 65 with h7 | h7
              · rw [show b = 64 by omega]; exact qbc64 a ha
              · rw [show b = 65 by omega]; exact qbc65 a ha
            · rcases Nat.lt_or_ge b 67 with h7 | h7
              · rw [show b = 66 by omega]; exact qbc66 a ha
              · rw [show b = 67 by omega]; exact qbc67 a ha
          · rcases Nat.lt_or_ge b 70 with h6 | h6
            · rcases Nat.lt_or_ge b 69 with h7 | h7
              · rw [show b = 68 by omega]; exact qbc68 a ha
              · rw [show b = 69 by omega]; exact qbc69 a ha
            · rcases Nat.lt_or_ge b 71 with h7 | h7
              · rw [show b = 70 by omega]; exact qbc70 a ha
              · rw [show b = 71 by omega]; exact qbc71 a ha
        · rcases Nat.lt_or_ge b 76 with h5 | h5
          · rcases Nat.lt_or_ge b 74 with h6 | h6
            · rcases Nat.lt_or_ge b 73 with h7 | h7
              · rw [show b = 72 by omega]; exact qbc72 a ha
              · rw [show b = 73 by omega]; exact qbc73 a ha
            · rcases Nat.lt_or_ge b 75 with h7 | h7
              · rw [show b = 74 by omega]; exact qbc74 a ha
              · rw [show b = 75 by omega]; exact qbc75 a ha
          · rcases Nat.lt_or_ge b 78 with h6 | h6
            · rcases Nat.lt_or_ge b 77 with h7 | h7
              · rw [show b = 76 by omega]; exact qbc76 a ha
              · rw [show b = 77 by omega]; exact qbc77 a ha
            · rcases Nat.lt_or_ge b 79 with h7 | h7
              · rw [show b = 78 by omega]; exact qbc78 a ha
              · rw [show b = 79 by omega]; exact qbc79 a ha
      · rcases Nat.lt_or_ge b 88 with h4 | h4
        · rcases Nat.lt_or_ge b 84 with h5 | h5
          · rcases Nat.lt_or_ge b 82 with h6 | h6
            · rcases Nat.lt_or_ge b 81 with h7 | h7
              · rw [show b = 80 by omega]; exact qbc80 a ha
              · rw [show b = 81 by omega]; exact qbc81 a ha
            · rcases Nat.lt_or_ge b 83 with h7 | h7
              · rw [show b = 82 by omega]; exact qbc82 a ha
              · rw [show b = 83 by omega]; exact qbc83 a ha
          · rcases Nat.lt_or_ge b 86 with h6 | h6
            · rcases Nat.lt_or_ge b 85 with h7 | h7
              · rw [show b = 84 by omega]; exact qbc84 a ha
              · rw [show b = 85 by omega]; exact qbc85 a ha
            · rcases Nat.lt_or_ge b 87 with h7 | h7
              · rw [show b = 86 by omega]; exact qbc86 a ha
              · rw [show b = 87 by omega]; exact qbc87 a ha
        · rcases Nat.lt_or_ge b 92 with h5 | h5
          · rcases Nat.lt_or_ge b 90 with h6 | h6
            · rcases Nat.lt_or_ge b 89 with h7 | h7
              · rw [show b = 88 by omega]; exact qbc88 a ha
              · rw [show b = 89 by omega]; exact qbc89 a ha
            · rcases Nat.lt_or_ge b 91 with h7 | h7
              · rw [show b = 90 by omega]; exact qbc90 a ha
              · rw [show b = 91 by omega]; exact qbc91 a ha
          · rcases Nat.lt_or_ge b 94 with h6 | h6
            · rcases Nat.lt_or_ge b 93 with h7 | h7
              · rw [show b = 92 by omega]; exact qbc92 a ha
              · rw [show b = 93 by omega]; exact qbc93 a ha
            · rcases Nat.lt_or_ge b 95 with h7 | h7
              · rw [show b = 94 by omega]; exact qbc94 a ha
              · rw [show b = 95 by omega]; exact qbc95 a ha
    · rcases Nat.lt_or_ge b 112 with h3 | h3
      · rcases Nat.lt_or_ge b 104 with h4 | h4
        · rcases Nat.lt_or_ge b 100 with h5 | h5
          · rcases Nat.lt_or_ge b 98 with h6 | h6
            · rcases Nat.lt_or_ge b 97 with h7 | h7
              · rw [show b = 96 by omega]; exact qbc96 a ha
              · rw [show b = 97 by omega]; exact qbc97 a ha
            · rcases Nat.lt_or_ge b 99 with h7 | h7
              · rw [show b = 98 by omega]; exact qbc98 a ha
              · rw [show b = 99 by omega]; exact qbc99 a ha
          · rcases Nat.lt_or_ge b 102 with h6 | h6
            · rcases Nat.lt_or_ge b 101 with h7 | h7
              · rw [show b = 100 by omega]; exact qbc100 a ha
              · rw [show b = 101 by omega]; exact qbc101 a ha
            · rcases Nat.lt_or_ge b 103 with h7 | h7
              · rw [show b = 102 by omega]; exact qbc102 a ha
              · rw [show b = 103 by omega]; exact qbc103 a ha
        · rcases Nat.lt_or_ge b 108 with h5 | h5
          · rcases Nat.lt_or_ge b 106 with h6 | h6
            · rcases Nat.lt_or_ge b 105 with h7 | h7
              · rw [show b = 104 by omega]; exact qbc104 a ha
              · rw [show b = 105 by omega]; exact qbc105 a ha
            · rcases Nat.lt_or_ge b 107 with h7 | h7
              · rw [show b = 106 by omega]; exact qbc106 a ha
              · rw [show b = 107 by omega]; exact qbc107 a ha
          · rcases Nat.lt_or_ge b 110 with h6 | h6
            · rcases Nat.lt_or_ge b 109 with h7 | h7
              · rw [show b = 108 by omega]; exact qbc108 a ha
              · rw [show b = 109 by omega]; exact qbc109 a ha
            · rcases Nat.lt_or_ge b 111 with h7 | h7
              · rw [show b = 110 by omega]; exact qbc110 a ha
              · rw [show b = 111 by omega]; exact qbc111 a ha
      · rcases Nat.lt_or_ge b 120 with h4 | h4
        · rcases Nat.lt_or_ge b 116 with h5 | h5
          · rcases Nat.lt_or_ge b 114 with h6 | h6
            · rcases Nat.lt_or_ge b 113 with h7 | h7
              · rw [show b = 112 by omega]; exact qbc112 a ha
              · rw [show b = 113 by omega]; exact qbc113 a ha
            · rcases Nat.lt_or_ge b 115 with h7 | h7
              · rw [show b = 114 by omega]; exact qbc114 a ha
              · rw [show b = 115 by omega]; exact qbc115 a ha
          · rcases Nat.lt_or_ge b 118 with h6 | h6
            · rcases Nat.lt_or_ge b 117 with h7 | h7
              · rw [show b = 116 by omega]; exact qbc116 a ha
              · rw [show b = 117 by omega]; exact qbc117 a ha
            · rcases Nat.lt_or_ge b 119 with h7 | h7
              · rw [show b = 118 by omega]; exact qbc118 a ha
              · rw [show b = 119 by omega]; exact qbc119 a ha
        · rcases Nat.lt_or_ge b 124 with h5 | h5
          · rcases Nat.lt_or_ge b 122 with h6 | h6
            · rcases Nat.lt_or_ge b 121 with h7 | h7
              · rw [show b = 120 by omega]; exact qbc120 a ha
              · rw [show b = 121 by omega]; exact qbc121 a ha
            · rcases Nat.lt_or_ge b 123 with h7 | h7
              · rw [show b = 122 by omega]; exact qbc122 a ha
              · rw [show b = 123 by omega]; exact qbc123 a ha
          · rcases Nat.lt_or_ge b 126 with h6 | h6
            · rcases Nat.lt_or_ge b 125 with h7 | h7
              · rw [show b = 124 by omega]; exact qbc124 a ha
              · rw [show b = 125 by omega]; exact qbc125 a ha
            · rcases Nat.lt_or_ge b 127 with h7 | h7
              · rw [show b = 126 by omega]; exact qbc126 a ha
              · rw [show b = 127 by omega]; exact qbc127 a ha
theorem bc_n {y : Nat} (h : y < 16384) : f_J6_bitCount_0f7a4 (nI y) = some (nI (popN y)) := by
  have := bc_all (a := y % 128) (b := y / 128) (by omega) (by omega)
  rw [show y / 128 * 128 + y % 128 = y by omega] at this
  exact this
