/-! ===== THE CONSTRUCTORS: instructions and words, printed by wip/whole/ctors.py ===== -/
def kc_Ed_init : List (Nat × Ent) := [(0, .aload_n 0, 1, (0, 0, 0), 0), (1, .invokespecial 3, 3, (0, 0, 1), 0), (4, .aload_n 0, 1, (0, 0, 0), 0), (5, .bipush 12, 2, (0, 0, 0), 0), (7, .newarray .int, 2, (0, 0, 0), 0), (9, .putfield 11, 3, (0, 0, 1), 0), (12, .aload_n 0, 1, (0, 0, 0), 0), (13, .bipush 12, 2, (0, 0, 0), 0), (15, .newarray .int, 2, (0, 0, 0), 0), (17, .putfield 15, 3, (0, 1, 1), 0), (20, .aload_n 0, 1, (0, 0, 0), 0), (21, .bipush 12, 2, (0, 0, 0), 0), (23, .newarray .int, 2, (0, 0, 0), 0), (25, .putfield 18, 3, (0, 2, 1), 0), (28, .aload_n 0, 1, (0, 0, 0), 0), (29, .bipush 12, 2, (0, 0, 0), 0), (31, .newarray .int, 2, (0, 0, 0), 0), (33, .putfield 21, 3, (0, 3, 1), 0), (36, .aload_n 0, 1, (0, 0, 0), 0), (37, .bipush 12, 2, (0, 0, 0), 0), (39, .newarray .int, 2, (0, 0, 0), 0), (41, .putfield 24, 3, (0, 4, 1), 0), (44, .aload_n 0, 1, (0, 0, 0), 0), (45, .bipush 12, 2, (0, 0, 0), 0), (47, .newarray .int, 2, (0, 0, 0), 0), (49, .putfield 27, 3, (0, 5, 1), 0), (52, .aload_n 0, 1, (0, 0, 0), 0), (53, .bipush 6, 2, (0, 0, 0), 0), (55, .newarray .int, 2, (0, 0, 0), 0), (57, .putfield 32, 3, (0, 6, 1), 0), (60, .aload_n 0, 1, (0, 0, 0), 0), (61, .bipush 6, 2, (0, 0, 0), 0), (63, .newarray .int, 2, (0, 0, 0), 0), (65, .putfield 35, 3, (0, 7, 1), 0), (68, .return_, 1, (0, 0, 0), 0)]
def kc_Ey_init : List (Nat × Ent) := [(0, .aload_n 0, 1, (0, 0, 0), 0), (1, .invokespecial 3, 3, (0, 0, 1), 0), (4, .aload_n 0, 1, (0, 0, 0), 0), (5, .bipush 7, 2, (0, 0, 0), 0), (7, .newarray .int, 2, (0, 0, 0), 0), (9, .putfield 11, 3, (1, 2, 1), 0), (12, .aload_n 0, 1, (0, 0, 0), 0), (13, .bipush 72, 2, (0, 0, 0), 0), (15, .newarray .int, 2, (0, 0, 0), 0), (17, .putfield 19, 3, (1, 3, 1), 0), (20, .aload_n 0, 1, (0, 0, 0), 0), (21, .aload_n 1, 1, (0, 0, 0), 0), (22, .putfield 22, 3, (1, 0, 1), 0), (25, .aload_n 0, 1, (0, 0, 0), 0), (26, .aload_n 2, 1, (0, 0, 0), 0), (27, .putfield 26, 3, (1, 1, 1), 0), (30, .return_, 1, (0, 0, 0), 0)]
def kc_Ha_init : List (Nat × Ent) := [(0, .aload_n 0, 1, (0, 0, 0), 0), (1, .invokespecial 1, 3, (0, 0, 1), 0), (4, .aload_n 0, 1, (0, 0, 0), 0), (5, .bipush 8, 2, (0, 0, 0), 0), (7, .newarray .int, 2, (0, 0, 0), 0), (9, .putfield 9, 3, (2, 2, 1), 0), (12, .aload_n 0, 1, (0, 0, 0), 0), (13, .bipush 8, 2, (0, 0, 0), 0), (15, .newarray .int, 2, (0, 0, 0), 0), (17, .putfield 15, 3, (2, 3, 1), 0), (20, .aload_n 0, 1, (0, 0, 0), 0), (21, .aload_n 1, 1, (0, 0, 0), 0), (22, .putfield 18, 3, (2, 0, 1), 0), (25, .aload_n 0, 1, (0, 0, 0), 0), (26, .aload_n 2, 1, (0, 0, 0), 0), (27, .putfield 22, 3, (2, 1, 1), 0), (30, .return_, 1, (0, 0, 0), 0)]
def kc_Mk_init : List (Nat × Ent) := [(0, .aload_n 0, 1, (0, 0, 0), 0), (1, .invokespecial 5, 3, (0, 0, 1), 0), (4, .aload_n 0, 1, (0, 0, 0), 0), (5, .iconst 4, 1, (0, 0, 0), 0), (6, .newarray .int, 2, (0, 0, 0), 0), (8, .putfield 11, 3, (3, 0, 1), 0), (11, .aload_n 0, 1, (0, 0, 0), 0), (12, .bipush 120, 2, (0, 0, 0), 0), (14, .newarray .int, 2, (0, 0, 0), 0), (16, .putfield 15, 3, (3, 1, 1), 0), (19, .return_, 1, (0, 0, 0), 0)]
def kc_Pa_init : List (Nat × Ent) := [(0, .aload_n 0, 1, (0, 0, 0), 0), (1, .invokespecial 1, 3, (0, 0, 1), 0), (4, .aload_n 0, 1, (0, 0, 0), 0), (5, .sipush 7000, 3, (0, 0, 0), 0), (8, .newarray .int, 2, (0, 0, 0), 0), (10, .putfield 11, 3, (4, 0, 1), 0), (13, .return_, 1, (0, 0, 0), 0)]
def kc_Pl_init : List (Nat × Ent) := [(0, .aload_n 0, 1, (0, 0, 0), 0), (1, .invokespecial 3, 3, (0, 0, 1), 0), (4, .aload_n 0, 1, (0, 0, 0), 0), (5, .iconst 5, 1, (0, 0, 0), 0), (6, .bipush 60, 2, (0, 0, 0), 0), (8, .multianewarray 11 2, 4, (0, 0, 0), 0), (12, .putfield 13, 3, (5, 0, 1), 0), (15, .aload_n 0, 1, (0, 0, 0), 0), (16, .iconst 5, 1, (0, 0, 0), 0), (17, .newarray .int, 2, (0, 0, 0), 0), (19, .putfield 16, 3, (5, 1, 1), 0), (22, .aload_n 0, 1, (0, 0, 0), 0), (23, .aload_n 1, 1, (0, 0, 0), 0), (24, .putfield 20, 3, (5, 2, 1), 0), (27, .return_, 1, (0, 0, 0), 0)]
def kc_Se_init : List (Nat × Ent) := [(0, .aload_n 0, 1, (0, 0, 0), 0), (1, .invokespecial 5, 3, (0, 0, 1), 0), (4, .aload_n 0, 1, (0, 0, 0), 0), (5, .sipush 256, 3, (0, 0, 0), 0), (8, .newarray .int, 2, (0, 0, 0), 0), (10, .putfield 13, 3, (6, 2, 1), 0), (13, .aload_n 0, 1, (0, 0, 0), 0), (14, .sipush 256, 3, (0, 0, 0), 0), (17, .newarray .int, 2, (0, 0, 0), 0), (19, .putfield 17, 3, (6, 3, 1), 0), (22, .aload_n 0, 1, (0, 0, 0), 0), (23, .sipush 256, 3, (0, 0, 0), 0), (26, .newarray .int, 2, (0, 0, 0), 0), (28, .putfield 20, 3, (6, 4, 1), 0), (31, .aload_n 0, 1, (0, 0, 0), 0), (32, .bipush 8, 2, (0, 0, 0), 0), (34, .newarray .int, 2, (0, 0, 0), 0), (36, .putfield 23, 3, (6, 5, 1), 0), (39, .aload_n 0, 1, (0, 0, 0), 0), (40, .aload_n 1, 1, (0, 0, 0), 0), (41, .putfield 26, 3, (6, 0, 1), 0), (44, .aload_n 0, 1, (0, 0, 0), 0), (45, .aload_n 2, 1, (0, 0, 0), 0), (46, .putfield 30, 3, (6, 1, 1), 0), (49, .return_, 1, (0, 0, 0), 0)]
def kc_St_init : List (Nat × Ent) := [(0, .aload_n 0, 1, (0, 0, 0), 0), (1, .invokespecial 7, 3, (0, 0, 1), 0), (4, .aload_n 0, 1, (0, 0, 0), 0), (5, .sipush 175, 3, (0, 0, 0), 0), (8, .newarray .int, 2, (0, 0, 0), 0), (10, .putfield 13, 3, (7, 1, 1), 0), (13, .aload_n 0, 1, (0, 0, 0), 0), (14, .aload_n 1, 1, (0, 0, 0), 0), (15, .putfield 17, 3, (7, 0, 1), 0), (18, .return_, 1, (0, 0, 0), 0)]
def kc_Ta_init : List (Nat × Ent) := [(0, .aload_n 0, 1, (0, 0, 0), 0), (1, .invokespecial 3, 3, (0, 0, 1), 0), (4, .aload_n 0, 1, (0, 0, 0), 0), (5, .sipush 240, 3, (0, 0, 0), 0), (8, .newarray .int, 2, (0, 0, 0), 0), (10, .putfield 11, 3, (8, 0, 1), 0), (13, .return_, 1, (0, 0, 0), 0)]
def kc_Ts_init : List (Nat × Ent) := [(0, .aload_n 0, 1, (0, 0, 0), 0), (1, .invokespecial 3, 3, (0, 0, 1), 0), (4, .aload_n 0, 1, (0, 0, 0), 0), (5, .iconst 5, 1, (0, 0, 0), 0), (6, .sipush 240, 3, (0, 0, 0), 0), (9, .multianewarray 11 2, 4, (0, 0, 0), 0), (13, .putfield 13, 3, (9, 0, 1), 0), (16, .aload_n 0, 1, (0, 0, 0), 0), (17, .iconst 5, 1, (0, 0, 0), 0), (18, .newarray .int, 2, (0, 0, 0), 0), (20, .putfield 18, 3, (9, 1, 1), 0), (23, .aload_n 0, 1, (0, 0, 0), 0), (24, .bipush 64, 2, (0, 0, 0), 0), (26, .newarray .int, 2, (0, 0, 0), 0), (28, .putfield 22, 3, (9, 2, 1), 0), (31, .aload_n 0, 1, (0, 0, 0), 0), (32, .iconst (-1), 1, (0, 0, 0), 0), (33, .putfield 25, 3, (9, 5, 0), 0), (36, .aload_n 0, 1, (0, 0, 0), 0), (37, .aload_n 1, 1, (0, 0, 0), 0), (38, .putfield 29, 3, (9, 3, 1), 0), (41, .return_, 1, (0, 0, 0), 0)]
def kc_F_init : List (Nat × Ent) := [(0, .aload_n 0, 1, (0, 0, 0), 0), (1, .invokespecial 1, 3, (0, 0, 1), 0), (4, .aload_n 0, 1, (0, 0, 0), 0), (5, .new 7, 3, (8, 0, 0), 0), (8, .dup, 1, (0, 0, 0), 0), (9, .invokespecial 9, 3, (98, 1, 3), 0), (12, .putfield 10, 3, (10, 0, 1), 0), (15, .aload_n 0, 1, (0, 0, 0), 0), (16, .new 16, 3, (3, 0, 0), 0), (19, .dup, 1, (0, 0, 0), 0), (20, .invokespecial 18, 3, (18, 1, 3), 0), (23, .putfield 19, 3, (10, 1, 1), 0), (26, .aload_n 0, 1, (0, 0, 0), 0), (27, .new 16, 3, (3, 0, 0), 0), (30, .dup, 1, (0, 0, 0), 0), (31, .invokespecial 18, 3, (18, 1, 3), 0), (34, .putfield 23, 3, (10, 2, 1), 0), (37, .aload_n 0, 1, (0, 0, 0), 0), (38, .new 26, 3, (9, 0, 0), 0), (41, .dup, 1, (0, 0, 0), 0), (42, .aload_n 0, 1, (0, 0, 0), 0), (43, .getfield 10, 3, (10, 0, 1), 0), (46, .invokespecial 28, 3, (108, 2, 2), 0), (49, .putfield 31, 3, (10, 3, 1), 0), (52, .aload_n 0, 1, (0, 0, 0), 0), (53, .new 35, 3, (5, 0, 0), 0), (56, .dup, 1, (0, 0, 0), 0), (57, .aload_n 0, 1, (0, 0, 0), 0), (58, .getfield 10, 3, (10, 0, 1), 0), (61, .invokespecial 37, 3, (48, 2, 2), 0), (64, .putfield 38, 3, (10, 4, 1), 0), (67, .aload_n 0, 1, (0, 0, 0), 0), (68, .new 42, 3, (7, 0, 0), 0), (71, .dup, 1, (0, 0, 0), 0), (72, .aload_n 0, 1, (0, 0, 0), 0), (73, .getfield 19, 3, (10, 1, 1), 0), (76, .invokespecial 44, 3, (62, 2, 2), 0), (79, .putfield 47, 3, (10, 5, 1), 0), (82, .aload_n 0, 1, (0, 0, 0), 0), (83, .new 42, 3, (7, 0, 0), 0), (86, .dup, 1, (0, 0, 0), 0), (87, .aload_n 0, 1, (0, 0, 0), 0), (88, .getfield 19, 3, (10, 1, 1), 0), (91, .invokespecial 44, 3, (62, 2, 2), 0), (94, .putfield 51, 3, (10, 6, 1), 0), (97, .aload_n 0, 1, (0, 0, 0), 0), (98, .new 54, 3, (4, 0, 0), 0), (101, .dup, 1, (0, 0, 0), 0), (102, .invokespecial 56, 3, (44, 1, 3), 0), (105, .putfield 57, 3, (10, 7, 1), 0), (108, .aload_n 0, 1, (0, 0, 0), 0), (109, .sipush 175, 3, (0, 0, 0), 0), (112, .newarray .int, 2, (0, 0, 0), 0), (114, .putfield 61, 3, (10, 8, 1), 0), (117, .aload_n 0, 1, (0, 0, 0), 0), (118, .new 65, 3, (1, 0, 0), 0), (121, .dup, 1, (0, 0, 0), 0), (122, .aload_n 0, 1, (0, 0, 0), 0), (123, .getfield 19, 3, (10, 1, 1), 0), (126, .aload_n 0, 1, (0, 0, 0), 0), (127, .getfield 31, 3, (10, 3, 1), 0), (130, .invokespecial 67, 3, (8, 3, 2), 0), (133, .putfield 70, 3, (10, 9, 1), 0), (136, .aload_n 0, 1, (0, 0, 0), 0), (137, .new 74, 3, (2, 0, 0), 0), (140, .dup, 1, (0, 0, 0), 0), (141, .aload_n 0, 1, (0, 0, 0), 0), (142, .getfield 19, 3, (10, 1, 1), 0), (145, .aload_n 0, 1, (0, 0, 0), 0), (146, .getfield 70, 3, (10, 9, 1), 0), (149, .invokespecial 76, 3, (13, 3, 2), 0), (152, .putfield 79, 3, (10, 10, 1), 0), (155, .aload_n 0, 1, (0, 0, 0), 0), (156, .new 83, 3, (6, 0, 0), 0), (159, .dup, 1, (0, 0, 0), 0), (160, .aload_n 0, 1, (0, 0, 0), 0), (161, .getfield 19, 3, (10, 1, 1), 0), (164, .aload_n 0, 1, (0, 0, 0), 0), (165, .getfield 79, 3, (10, 10, 1), 0), (168, .invokespecial 85, 3, (56, 3, 2), 0), (171, .putfield 88, 3, (10, 11, 1), 0), (174, .aload_n 0, 1, (0, 0, 0), 0), (175, .new 92, 3, (0, 0, 0), 0), (178, .dup, 1, (0, 0, 0), 0), (179, .invokespecial 94, 3, (0, 1, 3), 0), (182, .putfield 95, 3, (10, 12, 1), 0), (185, .return_, 1, (0, 0, 0), 0)]
def kc_R_init : List (Nat × Ent) := [(0, .aload_n 0, 1, (0, 0, 0), 0), (1, .invokespecial 3, 3, (0, 0, 1), 0), (4, .aload_n 0, 1, (0, 0, 0), 0), (5, .sipush 240, 3, (0, 0, 0), 0), (8, .newarray .int, 2, (0, 0, 0), 0), (10, .putfield 9, 3, (11, 1, 1), 0), (13, .aload_n 0, 1, (0, 0, 0), 0), (14, .sipush 2600, 3, (0, 0, 0), 0), (17, .newarray .int, 2, (0, 0, 0), 0), (19, .putfield 13, 3, (11, 6, 1), 0), (22, .aload_n 0, 1, (0, 0, 0), 0), (23, .sipush 2600, 3, (0, 0, 0), 0), (26, .newarray .int, 2, (0, 0, 0), 0), (28, .putfield 16, 3, (11, 7, 1), 0), (31, .aload_n 0, 1, (0, 0, 0), 0), (32, .iconst 5, 1, (0, 0, 0), 0), (33, .newarray .int, 2, (0, 0, 0), 0), (35, .putfield 19, 3, (11, 8, 1), 0), (38, .aload_n 0, 1, (0, 0, 0), 0), (39, .iconst 5, 1, (0, 0, 0), 0), (40, .newarray .int, 2, (0, 0, 0), 0), (42, .putfield 22, 3, (11, 9, 1), 0), (45, .aload_n 0, 1, (0, 0, 0), 0), (46, .sipush 700, 3, (0, 0, 0), 0), (49, .newarray .int, 2, (0, 0, 0), 0), (51, .putfield 25, 3, (11, 10, 1), 0), (54, .aload_n 0, 1, (0, 0, 0), 0), (55, .sipush 700, 3, (0, 0, 0), 0), (58, .newarray .int, 2, (0, 0, 0), 0), (60, .putfield 28, 3, (11, 11, 1), 0), (63, .aload_n 0, 1, (0, 0, 0), 0), (64, .sipush 700, 3, (0, 0, 0), 0), (67, .newarray .int, 2, (0, 0, 0), 0), (69, .putfield 31, 3, (11, 12, 1), 0), (72, .aload_n 0, 1, (0, 0, 0), 0), (73, .bipush 7, 2, (0, 0, 0), 0), (75, .newarray .int, 2, (0, 0, 0), 0), (77, .putfield 34, 3, (11, 15, 1), 0), (80, .aload_n 0, 1, (0, 0, 0), 0), (81, .bipush 80, 2, (0, 0, 0), 0), (83, .newarray .int, 2, (0, 0, 0), 0), (85, .putfield 37, 3, (11, 16, 1), 0), (88, .aload_n 0, 1, (0, 0, 0), 0), (89, .bipush 16, 2, (0, 0, 0), 0), (91, .newarray .int, 2, (0, 0, 0), 0), (93, .putfield 40, 3, (11, 17, 1), 0), (96, .aload_n 0, 1, (0, 0, 0), 0), (97, .bipush 18, 2, (0, 0, 0), 0), (99, .newarray .int, 2, (0, 0, 0), 0), (101, .putfield 43, 3, (11, 18, 1), 0), (104, .aload_n 0, 1, (0, 0, 0), 0), (105, .bipush 30, 2, (0, 0, 0), 0), (107, .newarray .int, 2, (0, 0, 0), 0), (109, .putfield 46, 3, (11, 19, 1), 0), (112, .aload_n 0, 1, (0, 0, 0), 0), (113, .bipush 12, 2, (0, 0, 0), 0), (115, .newarray .int, 2, (0, 0, 0), 0), (117, .putfield 49, 3, (11, 20, 1), 0), (120, .aload_n 0, 1, (0, 0, 0), 0), (121, .sipush 300, 3, (0, 0, 0), 0), (124, .newarray .int, 2, (0, 0, 0), 0), (126, .putfield 52, 3, (11, 25, 1), 0), (129, .aload_n 0, 1, (0, 0, 0), 0), (130, .iconst 5, 1, (0, 0, 0), 0), (131, .newarray .int, 2, (0, 0, 0), 0), (133, .putfield 55, 3, (11, 26, 1), 0), (136, .aload_n 0, 1, (0, 0, 0), 0), (137, .sipush 355, 3, (0, 0, 0), 0), (140, .newarray .int, 2, (0, 0, 0), 0), (142, .putfield 58, 3, (11, 28, 1), 0), (145, .aload_n 0, 1, (0, 0, 0), 0), (146, .bipush 8, 2, (0, 0, 0), 0), (148, .newarray .int, 2, (0, 0, 0), 0), (150, .putfield 61, 3, (11, 29, 1), 0), (153, .aload_n 0, 1, (0, 0, 0), 0), (154, .bipush 8, 2, (0, 0, 0), 0), (156, .newarray .int, 2, (0, 0, 0), 0), (158, .putfield 64, 3, (11, 30, 1), 0), (161, .aload_n 0, 1, (0, 0, 0), 0), (162, .bipush 6, 2, (0, 0, 0), 0), (164, .newarray .int, 2, (0, 0, 0), 0), (166, .putfield 67, 3, (11, 31, 1), 0), (169, .aload_n 0, 1, (0, 0, 0), 0), (170, .bipush 10, 2, (0, 0, 0), 0), (172, .newarray .int, 2, (0, 0, 0), 0), (174, .putfield 70, 3, (11, 32, 1), 0), (177, .aload_n 0, 1, (0, 0, 0), 0), (178, .bipush 10, 2, (0, 0, 0), 0), (180, .newarray .int, 2, (0, 0, 0), 0), (182, .putfield 73, 3, (11, 33, 1), 0), (185, .aload_n 0, 1, (0, 0, 0), 0), (186, .bipush 10, 2, (0, 0, 0), 0), (188, .newarray .int, 2, (0, 0, 0), 0), (190, .putfield 76, 3, (11, 34, 1), 0), (193, .aload_n 0, 1, (0, 0, 0), 0), (194, .bipush 6, 2, (0, 0, 0), 0), (196, .newarray .int, 2, (0, 0, 0), 0), (198, .putfield 79, 3, (11, 35, 1), 0), (201, .aload_n 0, 1, (0, 0, 0), 0), (202, .bipush 6, 2, (0, 0, 0), 0), (204, .newarray .int, 2, (0, 0, 0), 0), (206, .putfield 82, 3, (11, 36, 1), 0), (209, .aload_n 0, 1, (0, 0, 0), 0), (210, .iconst (-1), 1, (0, 0, 0), 0), (211, .putfield 85, 3, (11, 42, 0), 0), (214, .aload_n 0, 1, (0, 0, 0), 0), (215, .sipush 14200, 3, (0, 0, 0), 0), (218, .newarray .int, 2, (0, 0, 0), 0), (220, .putfield 89, 3, (11, 44, 1), 0), (223, .aload_n 0, 1, (0, 0, 0), 0), (224, .sipush 355, 3, (0, 0, 0), 0), (227, .newarray .int, 2, (0, 0, 0), 0), (229, .putfield 92, 3, (11, 46, 1), 0), (232, .aload_n 0, 1, (0, 0, 0), 0), (233, .bipush 90, 2, (0, 0, 0), 0), (235, .newarray .int, 2, (0, 0, 0), 0), (237, .putfield 95, 3, (11, 47, 1), 0), (240, .aload_n 0, 1, (0, 0, 0), 0), (241, .bipush 12, 2, (0, 0, 0), 0), (243, .newarray .int, 2, (0, 0, 0), 0), (245, .putfield 98, 3, (11, 53, 1), 0), (248, .aload_n 0, 1, (0, 0, 0), 0), (249, .bipush 12, 2, (0, 0, 0), 0), (251, .newarray .int, 2, (0, 0, 0), 0), (253, .putfield 101, 3, (11, 54, 1), 0), (256, .aload_n 0, 1, (0, 0, 0), 0), (257, .bipush 12, 2, (0, 0, 0), 0), (259, .newarray .int, 2, (0, 0, 0), 0), (261, .putfield 104, 3, (11, 56, 1), 0), (264, .aload_n 0, 1, (0, 0, 0), 0), (265, .bipush 12, 2, (0, 0, 0), 0), (267, .newarray .int, 2, (0, 0, 0), 0), (269, .putfield 107, 3, (11, 57, 1), 0), (272, .aload_n 0, 1, (0, 0, 0), 0), (273, .bipush 12, 2, (0, 0, 0), 0), (275, .newarray .int, 2, (0, 0, 0), 0), (277, .putfield 110, 3, (11, 58, 1), 0), (280, .aload_n 0, 1, (0, 0, 0), 0), (281, .bipush 12, 2, (0, 0, 0), 0), (283, .newarray .int, 2, (0, 0, 0), 0), (285, .putfield 113, 3, (11, 59, 1), 0), (288, .aload_n 0, 1, (0, 0, 0), 0), (289, .sipush 355, 3, (0, 0, 0), 0), (292, .newarray .int, 2, (0, 0, 0), 0), (294, .putfield 116, 3, (11, 62, 1), 0), (297, .return_, 1, (0, 0, 0), 0)]
def kc_L_law : List (Nat × Ent) := [(0, .new 8, 3, (10, 0, 0), 0), (3, .dup, 1, (0, 0, 0), 0), (4, .invokespecial 15, 3, (123, 1, 2), 0), (7, .astore_n 1, 1, (0, 0, 0), 0), (8, .new 16, 3, (11, 0, 0), 0), (11, .dup, 1, (0, 0, 0), 0), (12, .invokespecial 18, 3, (181, 1, 2), 0), (15, .astore_n 2, 1, (0, 0, 0), 0), (16, .iconst 1, 1, (0, 0, 0), 0), (17, .newarray .long, 2, (0, 0, 0), 0), (19, .astore_n 3, 1, (0, 0, 0), 0), (20, .iconst 0, 1, (0, 0, 0), 0), (21, .istore 4, 2, (0, 0, 0), 0)]
def kco (M : Nat) : List (Nat × Ent) := bif Nat.beq M 0 then kc_Ed_init else (bif Nat.beq M 8 then kc_Ey_init else (bif Nat.beq M 13 then kc_Ha_init else (bif Nat.beq M 18 then kc_Mk_init else (bif Nat.beq M 44 then kc_Pa_init else (bif Nat.beq M 48 then kc_Pl_init else (bif Nat.beq M 56 then kc_Se_init else (bif Nat.beq M 62 then kc_St_init else (bif Nat.beq M 98 then kc_Ta_init else (bif Nat.beq M 108 then kc_Ts_init else (bif Nat.beq M 123 then kc_F_init else (bif Nat.beq M 181 then kc_R_init else (bif Nat.beq M 319 then kc_L_law else ([])))))))))))))
def mIni : List Nat := [0, 8, 13, 18, 44, 48, 56, 62, 98, 108, 123, 181]
def kFLk : List (Nat × Nat × Nat × Nat) := [(0, 11, 0, 0), (0, 15, 0, 1), (0, 18, 0, 2), (0, 21, 0, 3), (0, 24, 0, 4), (0, 27, 0, 5), (0, 32, 0, 6), (0, 35, 0, 7), (1, 11, 1, 2), (1, 19, 1, 3), (1, 22, 1, 0), (1, 26, 1, 1), (2, 9, 2, 2), (2, 15, 2, 3), (2, 18, 2, 0), (2, 22, 2, 1), (3, 11, 3, 0), (3, 15, 3, 1), (5, 11, 4, 0), (6, 13, 5, 0), (6, 16, 5, 1), (6, 20, 5, 2), (7, 13, 6, 2), (7, 17, 6, 3), (7, 20, 6, 4), (7, 23, 6, 5), (7, 26, 6, 0), (7, 30, 6, 1), (8, 13, 7, 1), (8, 17, 7, 0), (9, 11, 8, 0), (10, 13, 9, 0), (10, 18, 9, 1), (10, 22, 9, 2), (10, 25, 9, 5), (10, 29, 9, 3), (11, 10, 10, 0), (11, 19, 10, 1), (11, 23, 10, 2), (11, 31, 10, 3), (11, 38, 10, 4), (11, 47, 10, 5), (11, 51, 10, 6), (11, 57, 10, 7), (11, 61, 10, 8), (11, 70, 10, 9), (11, 79, 10, 10), (11, 88, 10, 11), (11, 95, 10, 12), (12, 9, 11, 1), (12, 13, 11, 6), (12, 16, 11, 7), (12, 19, 11, 8), (12, 22, 11, 9), (12, 25, 11, 10), (12, 28, 11, 11), (12, 31, 11, 12), (12, 34, 11, 15), (12, 37, 11, 16), (12, 40, 11, 17), (12, 43, 11, 18), (12, 46, 11, 19), (12, 49, 11, 20), (12, 52, 11, 25), (12, 55, 11, 26), (12, 58, 11, 28), (12, 61, 11, 29), (12, 64, 11, 30), (12, 67, 11, 31), (12, 70, 11, 32), (12, 73, 11, 33), (12, 76, 11, 34), (12, 79, 11, 35), (12, 82, 11, 36), (12, 85, 11, 42), (12, 89, 11, 44), (12, 92, 11, 46), (12, 95, 11, 47), (12, 98, 11, 53), (12, 101, 11, 54), (12, 104, 11, 56), (12, 107, 11, 57), (12, 110, 11, 58), (12, 113, 11, 59), (12, 116, 11, 62)]
def kFLi : List (Nat × Nat) := [(2, 6), (2, 7), (2, 8), (2, 9), (2, 10), (2, 11), (2, 12), (2, 13), (1, 163), (1, 164), (1, 161), (1, 162), (1, 182), (1, 184), (1, 180), (1, 181), (1, 63), (1, 67), (1, 144), (1, 110), (1, 111), (1, 112), (1, 219), (1, 221), (1, 223), (1, 225), (1, 217), (1, 218), (1, 131), (1, 130), (1, 36), (1, 81), (1, 82), (1, 83), (1, 87), (1, 84), (2, 39), (2, 40), (2, 41), (2, 42), (2, 43), (2, 44), (2, 45), (2, 46), (2, 47), (2, 48), (2, 49), (2, 50), (2, 51), (5, 228), (5, 233), (5, 234), (5, 235), (5, 236), (5, 237), (5, 238), (5, 239), (6, 2), (6, 3), (6, 4), (6, 5), (6, 6), (6, 7), (6, 12), (6, 13), (6, 15), (6, 16), (6, 17), (6, 18), (6, 19), (6, 20), (6, 21), (6, 22), (6, 23), (6, 29), (6, 31), (6, 33), (6, 34), (6, 40), (6, 41), (6, 43), (6, 44), (6, 45), (6, 46), (6, 49)]
set_option maxRecDepth 1000000 in
set_option maxHeartbeats 4000000 in
theorem kfl_ok_e : (kFLk.map FLw).map some = kFLi.map (fun i => (tsg i.1)[i.2]?) := rfl
set_option maxRecDepth 1000000 in
set_option maxHeartbeats 4000000 in
theorem kfl_ok_g : (kFLk.map FLw).all goodWord = true := rfl
theorem kfl_ok {w : Cond} (h : w ∈ kFLk.map FLw) : w ∈ TB := tb_mem kfl_ok_e kfl_ok_g h
def kCLk : List (Nat × Nat × String) := [(6, 11, "[[I"), (10, 11, "[[I"), (11, 7, "FirstTimes$Tape"), (11, 16, "FirstTimes$Market"), (11, 26, "FirstTimes$Tastes"), (11, 35, "FirstTimes$Plans"), (11, 42, "FirstTimes$State"), (11, 54, "FirstTimes$Past"), (11, 65, "FirstTimes$Eye"), (11, 74, "FirstTimes$Having"), (11, 83, "FirstTimes$Sets"), (11, 92, "FirstTimes$Evidence"), (13, 8, "FirstTimes"), (13, 16, "FirstTimesModel")]
def kCLw (f : Nat × Nat × String) : Cond := .classLink (cnm f.1) f.2.1 f.2.2
def kCLi : List (Nat × Nat) := [(1, 109), (1, 79), (1, 30), (1, 57), (1, 73), (1, 103), (1, 124), (1, 138), (1, 155), (1, 174), (1, 211), (2, 0), (1, 22), (5, 221)]
set_option maxRecDepth 1000000 in
set_option maxHeartbeats 4000000 in
theorem kcl_ok_e : (kCLk.map kCLw).map some = kCLi.map (fun i => (tsg i.1)[i.2]?) := rfl
set_option maxRecDepth 1000000 in
set_option maxHeartbeats 4000000 in
theorem kcl_ok_g : (kCLk.map kCLw).all goodWord = true := rfl
theorem kcl_ok {w : Cond} (h : w ∈ kCLk.map kCLw) : w ∈ TB := tb_mem kcl_ok_e kcl_ok_g h
def kMLk : List (Nat × Nat × Nat) := [(11, 28, 108), (11, 37, 48), (11, 44, 62), (11, 67, 8), (11, 76, 13), (11, 85, 56), (13, 15, 123), (13, 18, 181)]
def kMLi : List (Nat × Nat) := [(1, 75), (1, 105), (1, 126), (1, 157), (1, 176), (1, 213), (1, 24), (5, 223)]
set_option maxRecDepth 1000000 in
set_option maxHeartbeats 4000000 in
theorem kml_ok_e : (kMLk.map MLw).map some = kMLi.map (fun i => (tsg i.1)[i.2]?) := rfl
set_option maxRecDepth 1000000 in
set_option maxHeartbeats 4000000 in
theorem kml_ok_g : (kMLk.map MLw).all goodWord = true := rfl
theorem kml_ok {w : Cond} (h : w ∈ kMLk.map MLw) : w ∈ TB := tb_mem kml_ok_e kml_ok_g h
def kOLk : List (Nat × Nat) := [(0, 3), (1, 3), (2, 1), (3, 5), (5, 1), (6, 3), (7, 5), (8, 7), (9, 3), (10, 3), (11, 1), (12, 3)]
def kOLw (f : Nat × Nat) : Cond := .methodLink (cnm f.1) f.2 Lib.objectInit
def kOLi : List (Nat × Nat) := [(2, 5), (1, 160), (1, 179), (1, 62), (1, 143), (1, 108), (1, 216), (1, 129), (1, 35), (1, 78), (1, 27), (5, 226)]
set_option maxRecDepth 1000000 in
set_option maxHeartbeats 4000000 in
theorem kol_ok_e : (kOLk.map kOLw).map some = kOLi.map (fun i => (tsg i.1)[i.2]?) := rfl
set_option maxRecDepth 1000000 in
set_option maxHeartbeats 4000000 in
theorem kol_ok_g : (kOLk.map kOLw).all goodWord = true := rfl
theorem kol_ok {w : Cond} (h : w ∈ kOLk.map kOLw) : w ∈ TB := tb_mem kol_ok_e kol_ok_g h
def kOBs : List Cond := [.instanceMethod Lib.objectInit, .code Lib.objectInit ⟨#[0xb1]⟩ 1 none, .arrayClass .int, .arrayClass .long]
def kOBi : List (Nat × Nat) := [(1, 28), (1, 29), (1, 56), (8, 234)]
set_option maxRecDepth 1000000 in
set_option maxHeartbeats 4000000 in
theorem kob_ok_e : (kOBs).map some = kOBi.map (fun i => (tsg i.1)[i.2]?) := rfl
set_option maxRecDepth 1000000 in
set_option maxHeartbeats 4000000 in
theorem kob_ok_g : (kOBs).all goodWord = true := rfl
theorem kob_ok {w : Cond} (h : w ∈ kOBs) : w ∈ TB := tb_mem kob_ok_e kob_ok_g h
def wIni (M : Nat) : List Cond := [.code (yof M) (byt M) (mtb M).2.1 (rty M), .instanceMethod (yof M), .initialized (cnm (own M))]
def kIIi : List (Nat × Nat) := [(2, 4), (2, 3), (1, 11), (1, 159), (1, 158), (1, 8), (1, 178), (1, 177), (1, 9), (1, 61), (1, 60), (1, 3), (1, 142), (1, 141), (1, 7), (1, 107), (1, 106), (1, 5), (1, 215), (1, 214), (1, 10), (1, 128), (1, 127), (1, 6), (1, 34), (1, 33), (1, 2), (1, 77), (1, 76), (1, 4), (1, 26), (1, 25), (1, 1), (5, 225), (5, 224), (1, 12)]
set_option maxRecDepth 1000000 in
set_option maxHeartbeats 4000000 in
theorem kii_ok_e : (mIni.flatMap wIni).map some = kIIi.map (fun i => (tsg i.1)[i.2]?) := rfl
set_option maxRecDepth 1000000 in
set_option maxHeartbeats 4000000 in
theorem kii_ok_g : (mIni.flatMap wIni).all goodWord = true := rfl
theorem kii_ok {w : Cond} (h : w ∈ mIni.flatMap wIni) : w ∈ TB := tb_mem kii_ok_e kii_ok_g h
def wCls (c : Nat) : List Cond := [.instantiable (oC c) (fN c), .initialized (oC c)]
def kCSi : List (Nat × Nat) := [(2, 1), (1, 11), (1, 156), (1, 8), (1, 175), (1, 9), (1, 58), (1, 3), (1, 139), (1, 7), (1, 104), (1, 5), (1, 212), (1, 10), (1, 125), (1, 6), (1, 31), (1, 2), (1, 74), (1, 4), (1, 23), (1, 1), (5, 222), (1, 12)]
set_option maxRecDepth 1000000 in
set_option maxHeartbeats 4000000 in
theorem kcs_ok_e : ((List.range 12).flatMap wCls).map some = kCSi.map (fun i => (tsg i.1)[i.2]?) := rfl
set_option maxRecDepth 1000000 in
set_option maxHeartbeats 4000000 in
theorem kcs_ok_g : ((List.range 12).flatMap wCls).all goodWord = true := rfl
theorem kcs_ok {w : Cond} (h : w ∈ (List.range 12).flatMap wCls) : w ∈ TB := tb_mem kcs_ok_e kcs_ok_g h
def kNLk : List (Nat × Nat × Nat) := [(11, 9, 98), (11, 18, 18), (11, 56, 44), (11, 94, 0)]
def kNLw (f : Nat × Nat × Nat) : Cond := .methodLinkNest (cnm f.1) f.2.1 (yof f.2.2) "FirstTimes"
def kNLi : List (Nat × Nat) := [(1, 32), (1, 59), (1, 140), (2, 2)]
set_option maxRecDepth 1000000 in
theorem knl_e : (kNLk.map kNLw).map some = kNLi.map (fun i => (tsg i.1)[i.2]?) := rfl
theorem knl_ok {w : Cond} (hw : w ∈ kNLk.map kNLw) : w ∈ lw_tbl := by
  have h1 : some w ∈ (kNLk.map kNLw).map some := List.mem_map.mpr ⟨w, hw, rfl⟩
  rw [knl_e] at h1
  obtain ⟨i, -, hi⟩ := List.mem_map.mp h1
  exact tsg_in (List.mem_of_getElem? hi)
set_option maxRecDepth 1000000 in
theorem kao_ok : Cond.arrayOver (.array .int) ∈ lw_tbl := tsg_in (k := 1) (List.mem_of_getElem? (i := 80) rfl)
def memK : List (Nat × Nat × String) → Nat → Nat → String → Bool
  | [], _, _, _ => false
  | (a, b, c) :: r, x, y, z => (Nat.beq a x && Nat.beq b y && c == z) || memK r x y z
theorem memK_ok : ∀ (l : List (Nat × Nat × String)) {x y : Nat} {z : String}, memK l x y z = true → (x, y, z) ∈ l
  | [], _, _, _, h => by cases h
  | (a, b, c) :: r, x, y, z, h => by
    simp only [memK, Bool.or_eq_true, Bool.and_eq_true, Nat.beq_eq, beq_iff_eq] at h
    rcases h with ⟨⟨rfl, rfl⟩, rfl⟩ | h
    · exact List.mem_cons_self
    · exact List.mem_cons_of_mem _ (memK_ok r h)
def chkC (o pc : Nat) (e : Ent) : Bool := match e with
  | (i, n, (x, y, z), _) => match i with
    | .aload_n _ => Nat.beq n 1
    | .iconst _ => Nat.beq n 1
    | .bipush k => Nat.beq n 2 && decide (-128 ≤ k) && decide (k ≤ 127)
    | .sipush k => Nat.beq n 3 && decide (-32768 ≤ k) && decide (k ≤ 32767)
    | .dup => Nat.beq n 1
    | .new k => Nat.beq n 3 && memK kCLk o k (oC x) && Nat.blt x 12
    | .newarray _ => Nat.beq n 2
    | .multianewarray k q => Nat.beq n 4 && Nat.beq q 2 && memK kCLk o k "[[I"
    | .putfield k => Nat.beq n 3 && memF kFLk o k x y && Nat.beq z (fg x y) && Nat.blt x 12 && Nat.blt y (fN x) && oC x == cnm o && (fT x y).1 == cnm o
    | .getfield k => Nat.beq n 3 && memF kFLk o k x y && Nat.blt x 12 && Nat.blt y (fN x)
    | .invokespecial k => Nat.beq n 3 && (match z with
      | 1 => memP kOLk o k
      | 2 => memS kMLk o k x && memN mIni x
      | 3 => memS kNLk o k x && memN mIni x
      | _ => false)
    | .return_ => Nat.beq n 1
    | .astore_n _ => Nat.beq n 1
    | .istore _ => Nat.beq n 2
    | _ => false
def chkK (M : Nat) : Bool := (kco M).all (fun q => decide (decode (byt M) q.1 = .ok (q.2.1, q.2.2.1)) && chkC (own M) q.1 q.2)
set_option maxRecDepth 100000 in
theorem kck_0 : chkK 0 = true := by decide +kernel
set_option maxRecDepth 100000 in
theorem kck_8 : chkK 8 = true := by decide +kernel
set_option maxRecDepth 100000 in
theorem kck_13 : chkK 13 = true := by decide +kernel
set_option maxRecDepth 100000 in
theorem kck_18 : chkK 18 = true := by decide +kernel
set_option maxRecDepth 100000 in
theorem kck_44 : chkK 44 = true := by decide +kernel
set_option maxRecDepth 100000 in
theorem kck_48 : chkK 48 = true := by decide +kernel
set_option maxRecDepth 100000 in
theorem kck_56 : chkK 56 = true := by decide +kernel
set_option maxRecDepth 100000 in
theorem kck_62 : chkK 62 = true := by decide +kernel
set_option maxRecDepth 100000 in
theorem kck_98 : chkK 98 = true := by decide +kernel
set_option maxRecDepth 100000 in
theorem kck_108 : chkK 108 = true := by decide +kernel
set_option maxRecDepth 100000 in
theorem kck_123 : chkK 123 = true := by decide +kernel
set_option maxRecDepth 100000 in
theorem kck_181 : chkK 181 = true := by decide +kernel
set_option maxRecDepth 100000 in
theorem kck_319 : chkK 319 = true := by decide +kernel
theorem kck_all : ∀ M ∈ 319 :: mIni, chkK M = true := by
  intro M h
  simp only [mIni, List.mem_cons, List.not_mem_nil, or_false] at h
  rcases h with rfl | rfl | rfl | rfl | rfl | rfl | rfl | rfl | rfl | rfl | rfl | rfl | rfl
  · exact kck_319
  · exact kck_0
  · exact kck_8
  · exact kck_13
  · exact kck_18
  · exact kck_44
  · exact kck_48
  · exact kck_56
  · exact kck_62
  · exact kck_98
  · exact kck_108
  · exact kck_123
  · exact kck_181
