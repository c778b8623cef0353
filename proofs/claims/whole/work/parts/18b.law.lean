/-! the law: its blocks -/
def bW : List (List Ai) := [[(0, 0, 0, 0), (3, 3, 0, 0), (50, 1, 0, 0)], [(2, 3, 0, 0), (37, 0, 0, 0), (36, 0, 0, 0), (0, 6, 0, 0), (18, 0, 0, 0), (56, 86, 2, 0)], [(37, 0, 0, 0), (2, 3, 0, 0), (35, 0, 0, 0), (0, 63, 0, 0), (22, 0, 0, 0), (68, 85, 0, 0), (0, 3, 0, 0), (1, 5, 0, 0), (2, 7, 0, 0), (3, 9, 0, 0), (4, 17, 0, 0), (5, 19, 0, 0), (6, 21, 0, 0), (7, 23, 0, 0), (8, 25, 0, 0), (9, 27, 0, 0), (10, 29, 0, 0), (11, 31, 0, 0), (12, 33, 0, 0), (13, 35, 0, 0), (14, 37, 0, 0), (15, 39, 0, 0), (16, 41, 0, 0), (17, 43, 0, 0), (18, 45, 0, 0), (19, 47, 0, 0), (20, 49, 0, 0), (21, 51, 0, 0), (22, 53, 0, 0), (23, 55, 0, 0), (24, 57, 0, 0), (25, 59, 0, 0), (26, 61, 0, 0), (27, 63, 0, 0), (28, 65, 0, 0), (29, 67, 0, 0), (30, 69, 0, 0), (31, 71, 0, 0), (32, 73, 0, 0), (33, 75, 0, 0), (34, 77, 0, 0), (35, 79, 0, 0), (36, 81, 0, 0), (37, 83, 0, 0)], [(37, 1, 0, 0), (37, 0, 0, 0), (2, 3, 0, 0), (0, 1, 0, 0), (17, 0, 0, 0), (35, 0, 0, 0), (31, 0, 2, 13), (37, 2, 0, 0), (37, 0, 0, 0), (2, 3, 0, 0), (0, 1, 0, 0), (17, 0, 0, 0), (35, 0, 0, 0), (31, 80, 2, 17), (52, 85, 4, 0)], [(0, 0, 0, 0), (65, 0, 0, 0)], [(37, 1, 0, 0), (37, 0, 0, 0), (2, 3, 0, 0), (0, 1, 0, 0), (17, 0, 0, 0), (35, 0, 0, 0), (37, 0, 0, 0), (2, 3, 0, 0), (0, 2, 0, 0), (17, 0, 0, 0), (35, 0, 0, 0), (37, 0, 0, 0), (2, 3, 0, 0), (0, 3, 0, 0), (17, 0, 0, 0), (35, 0, 0, 0), (37, 0, 0, 0), (2, 3, 0, 0), (0, 4, 0, 0), (17, 0, 0, 0), (35, 0, 0, 0), (37, 0, 0, 0), (2, 3, 0, 0), (0, 5, 0, 0), (17, 0, 0, 0), (35, 0, 0, 0), (31, 1, 6, 18), (37, 2, 0, 0), (37, 0, 0, 0), (2, 3, 0, 0), (0, 1, 0, 0), (17, 0, 0, 0), (35, 0, 0, 0), (37, 0, 0, 0), (2, 3, 0, 0), (0, 2, 0, 0), (17, 0, 0, 0), (35, 0, 0, 0), (37, 0, 0, 0), (2, 3, 0, 0), (0, 3, 0, 0), (17, 0, 0, 0), (35, 0, 0, 0), (37, 0, 0, 0), (2, 3, 0, 0), (0, 4, 0, 0), (17, 0, 0, 0), (35, 0, 0, 0), (37, 0, 0, 0), (2, 3, 0, 0), (0, 5, 0, 0), (17, 0, 0, 0), (35, 0, 0, 0), (31, 45, 6, 22), (52, 85, 6, 0)], [(0, 0, 0, 0), (65, 0, 0, 0)], [(37, 1, 0, 0), (37, 0, 0, 0), (2, 3, 0, 0), (0, 1, 0, 0), (17, 0, 0, 0), (35, 0, 0, 0), (31, 2, 2, 23), (37, 2, 0, 0), (37, 0, 0, 0), (2, 3, 0, 0), (0, 1, 0, 0), (17, 0, 0, 0), (35, 0, 0, 0), (31, 46, 2, 27), (52, 85, 8, 0)], [(0, 0, 0, 0), (65, 0, 0, 0)], [(37, 1, 0, 0), (37, 0, 0, 0), (2, 3, 0, 0), (0, 1, 0, 0), (17, 0, 0, 0), (35, 0, 0, 0), (58, 11, 10, 0)], [(0, 1, 0, 0), (51, 12, 0, 0)], [(0, 0, 0, 0), (50, 12, 0, 0)], [(31, 3, 2, 28), (37, 2, 0, 0), (37, 0, 0, 0), (2, 3, 0, 0), (0, 1, 0, 0), (17, 0, 0, 0), (35, 0, 0, 0), (58, 14, 13, 0)], [(0, 1, 0, 0), (51, 15, 0, 0)], [(0, 0, 0, 0), (50, 15, 0, 0)], [(31, 82, 2, 32), (52, 85, 16, 0)], [(0, 0, 0, 0), (65, 0, 0, 0)], [(37, 1, 0, 0), (37, 0, 0, 0), (2, 3, 0, 0), (0, 1, 0, 0), (17, 0, 0, 0), (35, 0, 0, 0), (31, 4, 2, 33), (37, 2, 0, 0), (37, 0, 0, 0), (2, 3, 0, 0), (0, 1, 0, 0), (17, 0, 0, 0), (35, 0, 0, 0), (31, 83, 2, 36), (52, 85, 18, 0)], [(0, 0, 0, 0), (65, 0, 0, 0)], [(37, 1, 0, 0), (37, 0, 0, 0), (2, 3, 0, 0), (0, 1, 0, 0), (17, 0, 0, 0), (35, 0, 0, 0), (37, 0, 0, 0), (2, 3, 0, 0), (0, 2, 0, 0), (17, 0, 0, 0), (35, 0, 0, 0), (31, 8, 3, 37), (37, 2, 0, 0), (37, 0, 0, 0), (2, 3, 0, 0), (0, 1, 0, 0), (17, 0, 0, 0), (35, 0, 0, 0), (37, 0, 0, 0), (2, 3, 0, 0), (0, 2, 0, 0), (17, 0, 0, 0), (35, 0, 0, 0), (31, 84, 3, 41), (52, 85, 20, 0)], [(0, 0, 0, 0), (65, 0, 0, 0)], [(37, 1, 0, 0), (37, 0, 0, 0), (2, 3, 0, 0), (0, 1, 0, 0), (17, 0, 0, 0), (35, 0, 0, 0), (31, 9, 2, 42), (37, 2, 0, 0), (37, 0, 0, 0), (2, 3, 0, 0), (0, 1, 0, 0), (17, 0, 0, 0), (35, 0, 0, 0), (31, 88, 2, 45), (52, 85, 22, 0)], [(0, 0, 0, 0), (65, 0, 0, 0)], [(37, 1, 0, 0), (37, 0, 0, 0), (2, 3, 0, 0), (0, 1, 0, 0), (17, 0, 0, 0), (35, 0, 0, 0), (37, 0, 0, 0), (2, 3, 0, 0), (0, 2, 0, 0), (17, 0, 0, 0), (35, 0, 0, 0), (31, 10, 3, 46), (37, 2, 0, 0), (37, 0, 0, 0), (2, 3, 0, 0), (0, 1, 0, 0), (17, 0, 0, 0), (35, 0, 0, 0), (37, 0, 0, 0), (2, 3, 0, 0), (0, 2, 0, 0), (17, 0, 0, 0), (35, 0, 0, 0), (31, 89, 3, 49), (52, 85, 24, 0)], [(0, 0, 0, 0), (65, 0, 0, 0)], [(37, 1, 0, 0), (37, 0, 0, 0), (2, 3, 0, 0), (0, 1, 0, 0), (17, 0, 0, 0), (35, 0, 0, 0), (31, 11, 2, 50), (37, 2, 0, 0), (37, 0, 0, 0), (2, 3, 0, 0), (0, 1, 0, 0), (17, 0, 0, 0), (35, 0, 0, 0), (31, 90, 2, 53), (52, 85, 26, 0)], [(0, 0, 0, 0), (65, 0, 0, 0)], [(37, 1, 0, 0), (37, 0, 0, 0), (2, 3, 0, 0), (0, 1, 0, 0), (17, 0, 0, 0), (35, 0, 0, 0), (37, 0, 0, 0), (2, 3, 0, 0), (0, 2, 0, 0), (17, 0, 0, 0), (35, 0, 0, 0), (37, 0, 0, 0), (2, 3, 0, 0), (0, 3, 0, 0), (17, 0, 0, 0), (35, 0, 0, 0), (31, 12, 4, 54), (37, 2, 0, 0), (37, 0, 0, 0), (2, 3, 0, 0), (0, 1, 0, 0), (17, 0, 0, 0), (35, 0, 0, 0), (37, 0, 0, 0), (2, 3, 0, 0), (0, 2, 0, 0), (17, 0, 0, 0), (35, 0, 0, 0), (37, 0, 0, 0), (2, 3, 0, 0), (0, 3, 0, 0), (17, 0, 0, 0), (35, 0, 0, 0), (31, 92, 4, 58), (52, 85, 28, 0)], [(0, 0, 0, 0), (65, 0, 0, 0)], [(37, 1, 0, 0), (37, 0, 0, 0), (2, 3, 0, 0), (0, 1, 0, 0), (17, 0, 0, 0), (35, 0, 0, 0), (37, 0, 0, 0), (2, 3, 0, 0), (0, 2, 0, 0), (17, 0, 0, 0), (35, 0, 0, 0), (31, 13, 3, 59), (37, 2, 0, 0), (37, 0, 0, 0), (2, 3, 0, 0), (0, 1, 0, 0), (17, 0, 0, 0), (35, 0, 0, 0), (37, 0, 0, 0), (2, 3, 0, 0), (0, 2, 0, 0), (17, 0, 0, 0), (35, 0, 0, 0), (31, 93, 3, 62), (52, 85, 30, 0)], [(0, 0, 0, 0), (65, 0, 0, 0)], [(37, 1, 0, 0), (37, 0, 0, 0), (2, 3, 0, 0), (0, 1, 0, 0), (17, 0, 0, 0), (35, 0, 0, 0), (31, 14, 2, 63), (37, 2, 0, 0), (37, 0, 0, 0), (2, 3, 0, 0), (0, 1, 0, 0), (17, 0, 0, 0), (35, 0, 0, 0), (31, 94, 2, 66), (52, 85, 32, 0)], [(0, 0, 0, 0), (65, 0, 0, 0)], [(37, 1, 0, 0), (37, 0, 0, 0), (2, 3, 0, 0), (0, 1, 0, 0), (17, 0, 0, 0), (35, 0, 0, 0), (31, 15, 2, 67), (37, 2, 0, 0), (37, 0, 0, 0), (2, 3, 0, 0), (0, 1, 0, 0), (17, 0, 0, 0), (35, 0, 0, 0), (31, 95, 2, 70), (52, 85, 34, 0)], [(0, 0, 0, 0), (65, 0, 0, 0)], [(37, 1, 0, 0), (31, 16, 1, 71), (37, 2, 0, 0), (31, 96, 1, 75), (52, 85, 36, 0)], [(0, 0, 0, 0), (65, 0, 0, 0)], [(37, 1, 0, 0), (37, 0, 0, 0), (2, 3, 0, 0), (0, 1, 0, 0), (17, 0, 0, 0), (35, 0, 0, 0), (37, 0, 0, 0), (2, 3, 0, 0), (0, 2, 0, 0), (17, 0, 0, 0), (35, 0, 0, 0), (31, 17, 3, 76), (37, 2, 0, 0), (37, 0, 0, 0), (2, 3, 0, 0), (0, 1, 0, 0), (17, 0, 0, 0), (35, 0, 0, 0), (37, 0, 0, 0), (2, 3, 0, 0), (0, 2, 0, 0), (17, 0, 0, 0), (35, 0, 0, 0), (31, 97, 3, 79), (52, 85, 38, 0)], [(0, 0, 0, 0), (65, 0, 0, 0)], [(37, 1, 0, 0), (31, 22, 1, 80), (37, 2, 0, 0), (31, 115, 1, 83), (52, 85, 40, 0)], [(0, 0, 0, 0), (65, 0, 0, 0)], [(37, 1, 0, 0), (31, 23, 1, 84), (37, 2, 0, 0), (31, 116, 1, 87), (52, 85, 42, 0)], [(0, 0, 0, 0), (65, 0, 0, 0)], [(37, 1, 0, 0), (31, 24, 1, 88), (37, 2, 0, 0), (31, 124, 1, 91), (52, 85, 44, 0)], [(0, 0, 0, 0), (65, 0, 0, 0)], [(37, 1, 0, 0), (31, 25, 1, 92), (37, 2, 0, 0), (31, 125, 1, 95), (52, 85, 46, 0)], [(0, 0, 0, 0), (65, 0, 0, 0)], [(37, 1, 0, 0), (37, 0, 0, 0), (2, 3, 0, 0), (0, 1, 0, 0), (17, 0, 0, 0), (35, 0, 0, 0), (31, 26, 2, 96), (37, 2, 0, 0), (37, 0, 0, 0), (2, 3, 0, 0), (0, 1, 0, 0), (17, 0, 0, 0), (35, 0, 0, 0), (31, 104, 2, 99), (52, 85, 48, 0)], [(0, 0, 0, 0), (65, 0, 0, 0)], [(37, 1, 0, 0), (37, 0, 0, 0), (2, 3, 0, 0), (0, 1, 0, 0), (17, 0, 0, 0), (35, 0, 0, 0), (37, 0, 0, 0), (2, 3, 0, 0), (0, 2, 0, 0), (17, 0, 0, 0), (35, 0, 0, 0), (37, 0, 0, 0), (2, 3, 0, 0), (0, 3, 0, 0), (17, 0, 0, 0), (35, 0, 0, 0), (31, 27, 4, 100), (37, 2, 0, 0), (37, 0, 0, 0), (2, 3, 0, 0), (0, 1, 0, 0), (17, 0, 0, 0), (35, 0, 0, 0), (37, 0, 0, 0), (2, 3, 0, 0), (0, 2, 0, 0), (17, 0, 0, 0), (35, 0, 0, 0), (37, 0, 0, 0), (2, 3, 0, 0), (0, 3, 0, 0), (17, 0, 0, 0), (35, 0, 0, 0), (31, 106, 4, 103), (52, 85, 50, 0)], [(0, 0, 0, 0), (65, 0, 0, 0)], [(37, 1, 0, 0), (37, 0, 0, 0), (2, 3, 0, 0), (0, 1, 0, 0), (17, 0, 0, 0), (35, 0, 0, 0), (31, 28, 2, 104), (37, 2, 0, 0), (37, 0, 0, 0), (2, 3, 0, 0), (0, 1, 0, 0), (17, 0, 0, 0), (35, 0, 0, 0), (31, 105, 2, 107), (52, 85, 52, 0)], [(0, 0, 0, 0), (65, 0, 0, 0)], [(37, 1, 0, 0), (37, 0, 0, 0), (2, 3, 0, 0), (0, 1, 0, 0), (17, 0, 0, 0), (35, 0, 0, 0), (31, 29, 2, 108), (37, 2, 0, 0), (37, 0, 0, 0), (2, 3, 0, 0), (0, 1, 0, 0), (17, 0, 0, 0), (35, 0, 0, 0), (31, 108, 2, 111), (52, 85, 54, 0)], [(0, 0, 0, 0), (65, 0, 0, 0)], [(37, 1, 0, 0), (37, 0, 0, 0), (2, 3, 0, 0), (0, 1, 0, 0), (17, 0, 0, 0), (35, 0, 0, 0), (37, 0, 0, 0), (2, 3, 0, 0), (0, 2, 0, 0), (17, 0, 0, 0), (35, 0, 0, 0), (31, 30, 3, 112), (37, 2, 0, 0), (37, 0, 0, 0), (2, 3, 0, 0), (0, 1, 0, 0), (17, 0, 0, 0), (35, 0, 0, 0), (37, 0, 0, 0), (2, 3, 0, 0), (0, 2, 0, 0), (17, 0, 0, 0), (35, 0, 0, 0), (31, 109, 3, 115), (52, 85, 56, 0)], [(0, 0, 0, 0), (65, 0, 0, 0)], [(37, 1, 0, 0), (37, 0, 0, 0), (2, 3, 0, 0), (0, 1, 0, 0), (17, 0, 0, 0), (35, 0, 0, 0), (37, 0, 0, 0), (2, 3, 0, 0), (0, 2, 0, 0), (17, 0, 0, 0), (35, 0, 0, 0), (31, 37, 3, 116), (37, 2, 0, 0), (37, 0, 0, 0), (2, 3, 0, 0), (0, 1, 0, 0), (17, 0, 0, 0), (35, 0, 0, 0), (37, 0, 0, 0), (2, 3, 0, 0), (0, 2, 0, 0), (17, 0, 0, 0), (35, 0, 0, 0), (31, 131, 3, 119), (52, 85, 58, 0)], [(0, 0, 0, 0), (65, 0, 0, 0)], [(37, 1, 0, 0), (37, 0, 0, 0), (2, 3, 0, 0), (0, 1, 0, 0), (17, 0, 0, 0), (35, 0, 0, 0), (31, 38, 2, 120), (37, 2, 0, 0), (37, 0, 0, 0), (2, 3, 0, 0), (0, 1, 0, 0), (17, 0, 0, 0), (35, 0, 0, 0), (31, 137, 2, 123), (52, 85, 60, 0)], [(0, 0, 0, 0), (65, 0, 0, 0)], [(37, 1, 0, 0), (37, 0, 0, 0), (2, 3, 0, 0), (0, 1, 0, 0), (17, 0, 0, 0), (35, 0, 0, 0), (31, 39, 2, 124), (37, 2, 0, 0), (37, 0, 0, 0), (2, 3, 0, 0), (0, 1, 0, 0), (17, 0, 0, 0), (35, 0, 0, 0), (31, 139, 2, 127), (52, 85, 62, 0)], [(0, 0, 0, 0), (65, 0, 0, 0)], [(37, 1, 0, 0), (37, 0, 0, 0), (2, 3, 0, 0), (0, 1, 0, 0), (17, 0, 0, 0), (35, 0, 0, 0), (37, 0, 0, 0), (2, 3, 0, 0), (0, 2, 0, 0), (17, 0, 0, 0), (35, 0, 0, 0), (31, 31, 3, 128), (37, 2, 0, 0), (37, 0, 0, 0), (2, 3, 0, 0), (0, 1, 0, 0), (17, 0, 0, 0), (35, 0, 0, 0), (37, 0, 0, 0), (2, 3, 0, 0), (0, 2, 0, 0), (17, 0, 0, 0), (35, 0, 0, 0), (31, 141, 3, 131), (52, 85, 64, 0)], [(0, 0, 0, 0), (65, 0, 0, 0)], [(37, 1, 0, 0), (37, 0, 0, 0), (2, 3, 0, 0), (0, 1, 0, 0), (17, 0, 0, 0), (35, 0, 0, 0), (31, 32, 2, 132), (37, 2, 0, 0), (37, 0, 0, 0), (2, 3, 0, 0), (0, 1, 0, 0), (17, 0, 0, 0), (35, 0, 0, 0), (31, 142, 2, 135), (52, 85, 66, 0)], [(0, 0, 0, 0), (65, 0, 0, 0)], [(37, 1, 0, 0), (37, 0, 0, 0), (2, 3, 0, 0), (0, 1, 0, 0), (17, 0, 0, 0), (35, 0, 0, 0), (37, 0, 0, 0), (2, 3, 0, 0), (0, 2, 0, 0), (17, 0, 0, 0), (35, 0, 0, 0), (37, 0, 0, 0), (2, 3, 0, 0), (0, 3, 0, 0), (17, 0, 0, 0), (35, 0, 0, 0), (31, 40, 4, 136), (37, 2, 0, 0), (37, 0, 0, 0), (2, 3, 0, 0), (0, 1, 0, 0), (17, 0, 0, 0), (35, 0, 0, 0), (37, 0, 0, 0), (2, 3, 0, 0), (0, 2, 0, 0), (17, 0, 0, 0), (35, 0, 0, 0), (37, 0, 0, 0), (2, 3, 0, 0), (0, 3, 0, 0), (17, 0, 0, 0), (35, 0, 0, 0), (31, 132, 4, 139), (52, 85, 68, 0)], [(0, 0, 0, 0), (65, 0, 0, 0)], [(37, 1, 0, 0), (37, 0, 0, 0), (2, 3, 0, 0), (0, 1, 0, 0), (17, 0, 0, 0), (35, 0, 0, 0), (31, 33, 2, 140), (37, 2, 0, 0), (37, 0, 0, 0), (2, 3, 0, 0), (0, 1, 0, 0), (17, 0, 0, 0), (35, 0, 0, 0), (31, 144, 2, 143), (52, 85, 70, 0)], [(0, 0, 0, 0), (65, 0, 0, 0)], [(37, 1, 0, 0), (37, 0, 0, 0), (2, 3, 0, 0), (0, 1, 0, 0), (17, 0, 0, 0), (35, 0, 0, 0), (31, 34, 2, 144), (37, 2, 0, 0), (37, 0, 0, 0), (2, 3, 0, 0), (0, 1, 0, 0), (17, 0, 0, 0), (35, 0, 0, 0), (31, 145, 2, 147), (52, 85, 72, 0)], [(0, 0, 0, 0), (65, 0, 0, 0)], [(37, 1, 0, 0), (37, 0, 0, 0), (2, 3, 0, 0), (0, 1, 0, 0), (17, 0, 0, 0), (35, 0, 0, 0), (31, 35, 2, 148), (37, 2, 0, 0), (37, 0, 0, 0), (2, 3, 0, 0), (0, 1, 0, 0), (17, 0, 0, 0), (35, 0, 0, 0), (31, 148, 2, 151), (52, 85, 74, 0)], [(0, 0, 0, 0), (65, 0, 0, 0)], [(37, 1, 0, 0), (37, 0, 0, 0), (2, 3, 0, 0), (0, 1, 0, 0), (17, 0, 0, 0), (35, 0, 0, 0), (31, 36, 2, 152), (37, 2, 0, 0), (37, 0, 0, 0), (2, 3, 0, 0), (0, 1, 0, 0), (17, 0, 0, 0), (35, 0, 0, 0), (31, 149, 2, 155), (52, 85, 76, 0)], [(0, 0, 0, 0), (65, 0, 0, 0)], [(37, 1, 0, 0), (37, 0, 0, 0), (2, 3, 0, 0), (0, 1, 0, 0), (17, 0, 0, 0), (35, 0, 0, 0), (31, 5, 2, 156), (37, 2, 0, 0), (37, 0, 0, 0), (2, 3, 0, 0), (0, 1, 0, 0), (17, 0, 0, 0), (35, 0, 0, 0), (31, 150, 2, 159), (52, 85, 78, 0)], [(0, 0, 0, 0), (65, 0, 0, 0)], [(37, 1, 0, 0), (37, 0, 0, 0), (2, 3, 0, 0), (0, 1, 0, 0), (17, 0, 0, 0), (35, 0, 0, 0), (37, 0, 0, 0), (2, 3, 0, 0), (0, 2, 0, 0), (17, 0, 0, 0), (35, 0, 0, 0), (31, 19, 3, 160), (37, 2, 0, 0), (37, 0, 0, 0), (2, 3, 0, 0), (0, 1, 0, 0), (17, 0, 0, 0), (35, 0, 0, 0), (37, 0, 0, 0), (2, 3, 0, 0), (0, 2, 0, 0), (17, 0, 0, 0), (35, 0, 0, 0), (31, 157, 3, 163), (52, 85, 80, 0)], [(0, 0, 0, 0), (65, 0, 0, 0)], [(37, 1, 0, 0), (31, 20, 1, 164), (37, 2, 0, 0), (31, 158, 1, 167), (52, 85, 82, 0)], [(0, 0, 0, 0), (65, 0, 0, 0)], [(37, 1, 0, 0), (37, 0, 0, 0), (2, 3, 0, 0), (0, 1, 0, 0), (17, 0, 0, 0), (35, 0, 0, 0), (31, 21, 2, 168), (37, 2, 0, 0), (37, 0, 0, 0), (2, 3, 0, 0), (0, 1, 0, 0), (17, 0, 0, 0), (35, 0, 0, 0), (31, 159, 2, 171), (52, 85, 84, 0)], [(0, 0, 0, 0), (65, 0, 0, 0)], [(4, 3, 6, 0), (51, 1, 0, 0)], [(0, 1, 0, 0), (65, 0, 0, 0)]]
def qWL : List Nat := [16, 18, 27, 200, 221, 223, 284, 286, 307, 309, 318, 322, 323, 335, 339, 340, 346, 348, 369, 371, 402, 404, 425, 427, 458, 460, 481, 483, 524, 526, 557, 559, 580, 582, 603, 605, 616, 618, 649, 651, 662, 664, 675, 677, 688, 690, 701, 703, 724, 726, 767, 769, 790, 792, 813, 815, 846, 848, 879, 881, 902, 904, 925, 927, 958, 960, 981, 983, 1024, 1026, 1047, 1049, 1070, 1072, 1093, 1095, 1116, 1118, 1139, 1141, 1172, 1174, 1185, 1187, 1208, 1210, 1216]
def PW (b : Nat) : List Ai := bW.getD b []
def qW (b : Nat) : Nat := qWL.getD b 0
theorem ckW0 : (ck code 13 4 (some .boolean) qW (qW 0) (PW 0) || (PW 0).isEmpty) = true := by decide +kernel
theorem ckW1 : (ck code 13 4 (some .boolean) qW (qW 1) (PW 1) || (PW 1).isEmpty) = true := by decide +kernel
theorem ckW2 : (ck code 13 4 (some .boolean) qW (qW 2) (PW 2) || (PW 2).isEmpty) = true := by decide +kernel
theorem ckW3 : (ck code 13 4 (some .boolean) qW (qW 3) (PW 3) || (PW 3).isEmpty) = true := by decide +kernel
theorem ckW4 : (ck code 13 4 (some .boolean) qW (qW 4) (PW 4) || (PW 4).isEmpty) = true := by decide +kernel
theorem ckW5 : (ck code 13 4 (some .boolean) qW (qW 5) (PW 5) || (PW 5).isEmpty) = true := by decide +kernel
theorem ckW6 : (ck code 13 4 (some .boolean) qW (qW 6) (PW 6) || (PW 6).isEmpty) = true := by decide +kernel
theorem ckW7 : (ck code 13 4 (some .boolean) qW (qW 7) (PW 7) || (PW 7).isEmpty) = true := by decide +kernel
theorem ckW8 : (ck code 13 4 (some .boolean) qW (qW 8) (PW 8) || (PW 8).isEmpty) = true := by decide +kernel
theorem ckW9 : (ck code 13 4 (some .boolean) qW (qW 9) (PW 9) || (PW 9).isEmpty) = true := by decide +kernel
theorem ckW10 : (ck code 13 4 (some .boolean) qW (qW 10) (PW 10) || (PW 10).isEmpty) = true := by decide +kernel
theorem ckW11 : (ck code 13 4 (some .boolean) qW (qW 11) (PW 11) || (PW 11).isEmpty) = true := by decide +kernel
theorem ckW12 : (ck code 13 4 (some .boolean) qW (qW 12) (PW 12) || (PW 12).isEmpty) = true := by decide +kernel
theorem ckW13 : (ck code 13 4 (some .boolean) qW (qW 13) (PW 13) || (PW 13).isEmpty) = true := by decide +kernel
theorem ckW14 : (ck code 13 4 (some .boolean) qW (qW 14) (PW 14) || (PW 14).isEmpty) = true := by decide +kernel
theorem ckW15 : (ck code 13 4 (some .boolean) qW (qW 15) (PW 15) || (PW 15).isEmpty) = true := by decide +kernel
theorem ckW16 : (ck code 13 4 (some .boolean) qW (qW 16) (PW 16) || (PW 16).isEmpty) = true := by decide +kernel
theorem ckW17 : (ck code 13 4 (some .boolean) qW (qW 17) (PW 17) || (PW 17).isEmpty) = true := by decide +kernel
theorem ckW18 : (ck code 13 4 (some .boolean) qW (qW 18) (PW 18) || (PW 18).isEmpty) = true := by decide +kernel
theorem ckW19 : (ck code 13 4 (some .boolean) qW (qW 19) (PW 19) || (PW 19).isEmpty) = true := by decide +kernel
theorem ckW20 : (ck code 13 4 (some .boolean) qW (qW 20) (PW 20) || (PW 20).isEmpty) = true := by decide +kernel
theorem ckW21 : (ck code 13 4 (some .boolean) qW (qW 21) (PW 21) || (PW 21).isEmpty) = true := by decide +kernel
theorem ckW22 : (ck code 13 4 (some .boolean) qW (qW 22) (PW 22) || (PW 22).isEmpty) = true := by decide +kernel
theorem ckW23 : (ck code 13 4 (some .boolean) qW (qW 23) (PW 23) || (PW 23).isEmpty) = true := by decide +kernel
theorem ckW24 : (ck code 13 4 (some .boolean) qW (qW 24) (PW 24) || (PW 24).isEmpty) = true := by decide +kernel
theorem ckW25 : (ck code 13 4 (some .boolean) qW (qW 25) (PW 25) || (PW 25).isEmpty) = true := by decide +kernel
theorem ckW26 : (ck code 13 4 (some .boolean) qW (qW 26) (PW 26) || (PW 26).isEmpty) = true := by decide +kernel
theorem ckW27 : (ck code 13 4 (some .boolean) qW (qW 27) (PW 27) || (PW 27).isEmpty) = true := by decide +kernel
theorem ckW28 : (ck code 13 4 (some .boolean) qW (qW 28) (PW 28) || (PW 28).isEmpty) = true := by decide +kernel
theorem ckW29 : (ck code 13 4 (some .boolean) qW (qW 29) (PW 29) || (PW 29).isEmpty) = true := by decide +kernel
theorem ckW30 : (ck code 13 4 (some .boolean) qW (qW 30) (PW 30) || (PW 30).isEmpty) = true := by decide +kernel
theorem ckW31 : (ck code 13 4 (some .boolean) qW (qW 31) (PW 31) || (PW 31).isEmpty) = true := by decide +kernel
theorem ckW32 : (ck code 13 4 (some .boolean) qW (qW 32) (PW 32) || (PW 32).isEmpty) = true := by decide +kernel
theorem ckW33 : (ck code 13 4 (some .boolean) qW (qW 33) (PW 33) || (PW 33).isEmpty) = true := by decide +kernel
theorem ckW34 : (ck code 13 4 (some .boolean) qW (qW 34) (PW 34) || (PW 34).isEmpty) = true := by decide +kernel
theorem ckW35 : (ck code 13 4 (some .boolean) qW (qW 35) (PW 35) || (PW 35).isEmpty) = true := by decide +kernel
theorem ckW36 : (ck code 13 4 (some .boolean) qW (qW 36) (PW 36) || (PW 36).isEmpty) = true := by decide +kernel
theorem ckW37 : (ck code 13 4 (some .boolean) qW (qW 37) (PW 37) || (PW 37).isEmpty) = true := by decide +kernel
theorem ckW38 : (ck code 13 4 (some .boolean) qW (qW 38) (PW 38) || (PW 38).isEmpty) = true := by decide +kernel
theorem ckW39 : (ck code 13 4 (some .boolean) qW (qW 39) (PW 39) || (PW 39).isEmpty) = true := by decide +kernel
theorem ckW40 : (ck code 13 4 (some .boolean) qW (qW 40) (PW 40) || (PW 40).isEmpty) = true := by decide +kernel
theorem ckW41 : (ck code 13 4 (some .boolean) qW (qW 41) (PW 41) || (PW 41).isEmpty) = true := by decide +kernel
theorem ckW42 : (ck code 13 4 (some .boolean) qW (qW 42) (PW 42) || (PW 42).isEmpty) = true := by decide +kernel
theorem ckW43 : (ck code 13 4 (some .boolean) qW (qW 43) (PW 43) || (PW 43).isEmpty) = true := by decide +kernel
theorem ckW44 : (ck code 13 4 (some .boolean) qW (qW 44) (PW 44) || (PW 44).isEmpty) = true := by decide +kernel
theorem ckW45 : (ck code 13 4 (some .boolean) qW (qW 45) (PW 45) || (PW 45).isEmpty) = true := by decide +kernel
theorem ckW46 : (ck code 13 4 (some .boolean) qW (qW 46) (PW 46) || (PW 46).isEmpty) = true := by decide +kernel
theorem ckW47 : (ck code 13 4 (some .boolean) qW (qW 47) (PW 47) || (PW 47).isEmpty) = true := by decide +kernel
theorem ckW48 : (ck code 13 4 (some .boolean) qW (qW 48) (PW 48) || (PW 48).isEmpty) = true := by decide +kernel
theorem ckW49 : (ck code 13 4 (some .boolean) qW (qW 49) (PW 49) || (PW 49).isEmpty) = true := by decide +kernel
theorem ckW50 : (ck code 13 4 (some .boolean) qW (qW 50) (PW 50) || (PW 50).isEmpty) = true := by decide +kernel
theorem ckW51 : (ck code 13 4 (some .boolean) qW (qW 51) (PW 51) || (PW 51).isEmpty) = true := by decide +kernel
theorem ckW52 : (ck code 13 4 (some .boolean) qW (qW 52) (PW 52) || (PW 52).isEmpty) = true := by decide +kernel
theorem ckW53 : (ck code 13 4 (some .boolean) qW (qW 53) (PW 53) || (PW 53).isEmpty) = true := by decide +kernel
theorem ckW54 : (ck code 13 4 (some .boolean) qW (qW 54) (PW 54) || (PW 54).isEmpty) = true := by decide +kernel
theorem ckW55 : (ck code 13 4 (some .boolean) qW (qW 55) (PW 55) || (PW 55).isEmpty) = true := by decide +kernel
theorem ckW56 : (ck code 13 4 (some .boolean) qW (qW 56) (PW 56) || (PW 56).isEmpty) = true := by decide +kernel
theorem ckW57 : (ck code 13 4 (some .boolean) qW (qW 57) (PW 57) || (PW 57).isEmpty) = true := by decide +kernel
theorem ckW58 : (ck code 13 4 (some .boolean) qW (qW 58) (PW 58) || (PW 58).isEmpty) = true := by decide +kernel
theorem ckW59 : (ck code 13 4 (some .boolean) qW (qW 59) (PW 59) || (PW 59).isEmpty) = true := by decide +kernel
theorem ckW60 : (ck code 13 4 (some .boolean) qW (qW 60) (PW 60) || (PW 60).isEmpty) = true := by decide +kernel
theorem ckW61 : (ck code 13 4 (some .boolean) qW (qW 61) (PW 61) || (PW 61).isEmpty) = true := by decide +kernel
theorem ckW62 : (ck code 13 4 (some .boolean) qW (qW 62) (PW 62) || (PW 62).isEmpty) = true := by decide +kernel
theorem ckW63 : (ck code 13 4 (some .boolean) qW (qW 63) (PW 63) || (PW 63).isEmpty) = true := by decide +kernel
theorem ckW64 : (ck code 13 4 (some .boolean) qW (qW 64) (PW 64) || (PW 64).isEmpty) = true := by decide +kernel
theorem ckW65 : (ck code 13 4 (some .boolean) qW (qW 65) (PW 65) || (PW 65).isEmpty) = true := by decide +kernel
theorem ckW66 : (ck code 13 4 (some .boolean) qW (qW 66) (PW 66) || (PW 66).isEmpty) = true := by decide +kernel
theorem ckW67 : (ck code 13 4 (some .boolean) qW (qW 67) (PW 67) || (PW 67).isEmpty) = true := by decide +kernel
theorem ckW68 : (ck code 13 4 (some .boolean) qW (qW 68) (PW 68) || (PW 68).isEmpty) = true := by decide +kernel
theorem ckW69 : (ck code 13 4 (some .boolean) qW (qW 69) (PW 69) || (PW 69).isEmpty) = true := by decide +kernel
theorem ckW70 : (ck code 13 4 (some .boolean) qW (qW 70) (PW 70) || (PW 70).isEmpty) = true := by decide +kernel
theorem ckW71 : (ck code 13 4 (some .boolean) qW (qW 71) (PW 71) || (PW 71).isEmpty) = true := by decide +kernel
theorem ckW72 : (ck code 13 4 (some .boolean) qW (qW 72) (PW 72) || (PW 72).isEmpty) = true := by decide +kernel
theorem ckW73 : (ck code 13 4 (some .boolean) qW (qW 73) (PW 73) || (PW 73).isEmpty) = true := by decide +kernel
theorem ckW74 : (ck code 13 4 (some .boolean) qW (qW 74) (PW 74) || (PW 74).isEmpty) = true := by decide +kernel
theorem ckW75 : (ck code 13 4 (some .boolean) qW (qW 75) (PW 75) || (PW 75).isEmpty) = true := by decide +kernel
theorem ckW76 : (ck code 13 4 (some .boolean) qW (qW 76) (PW 76) || (PW 76).isEmpty) = true := by decide +kernel
theorem ckW77 : (ck code 13 4 (some .boolean) qW (qW 77) (PW 77) || (PW 77).isEmpty) = true := by decide +kernel
theorem ckW78 : (ck code 13 4 (some .boolean) qW (qW 78) (PW 78) || (PW 78).isEmpty) = true := by decide +kernel
theorem ckW79 : (ck code 13 4 (some .boolean) qW (qW 79) (PW 79) || (PW 79).isEmpty) = true := by decide +kernel
theorem ckW80 : (ck code 13 4 (some .boolean) qW (qW 80) (PW 80) || (PW 80).isEmpty) = true := by decide +kernel
theorem ckW81 : (ck code 13 4 (some .boolean) qW (qW 81) (PW 81) || (PW 81).isEmpty) = true := by decide +kernel
theorem ckW82 : (ck code 13 4 (some .boolean) qW (qW 82) (PW 82) || (PW 82).isEmpty) = true := by decide +kernel
theorem ckW83 : (ck code 13 4 (some .boolean) qW (qW 83) (PW 83) || (PW 83).isEmpty) = true := by decide +kernel
theorem ckW84 : (ck code 13 4 (some .boolean) qW (qW 84) (PW 84) || (PW 84).isEmpty) = true := by decide +kernel
theorem ckW85 : (ck code 13 4 (some .boolean) qW (qW 85) (PW 85) || (PW 85).isEmpty) = true := by decide +kernel
theorem ckW86 : (ck code 13 4 (some .boolean) qW (qW 86) (PW 86) || (PW 86).isEmpty) = true := by decide +kernel
theorem PW_out {b : Nat} (h : ¬ b < 87) : PW b = [] := by
  unfold PW
  rw [List.getD_eq_getElem?_getD, List.getElem?_eq_none (by show 87 ≤ b; omega)]
  rfl
theorem ckWs : ∀ b, ck code 13 4 (some .boolean) qW (qW b) (PW b) = true ∨ PW b = []
  | 0 => by have := ckW0; rw [Bool.or_eq_true] at this; exact this.imp id (fun h => List.isEmpty_iff.mp h)
  | 1 => by have := ckW1; rw [Bool.or_eq_true] at this; exact this.imp id (fun h => List.isEmpty_iff.mp h)
  | 2 => by have := ckW2; rw [Bool.or_eq_true] at this; exact this.imp id (fun h => List.isEmpty_iff.mp h)
  | 3 => by have := ckW3; rw [Bool.or_eq_true] at this; exact this.imp id (fun h => List.isEmpty_iff.mp h)
  | 4 => by have := ckW4; rw [Bool.or_eq_true] at this; exact this.imp id (fun h => List.isEmpty_iff.mp h)
  | 5 => by have := ckW5; rw [Bool.or_eq_true] at this; exact this.imp id (fun h => List.isEmpty_iff.mp h)
  | 6 => by have := ckW6; rw [Bool.or_eq_true] at this; exact this.imp id (fun h => List.isEmpty_iff.mp h)
  | 7 => by have := ckW7; rw [Bool.or_eq_true] at this; exact this.imp id (fun h => List.isEmpty_iff.mp h)
  | 8 => by have := ckW8; rw [Bool.or_eq_true] at this; exact this.imp id (fun h => List.isEmpty_iff.mp h)
  | 9 => by have := ckW9; rw [Bool.or_eq_true] at this; exact this.imp id (fun h => List.isEmpty_iff.mp h)
  | 10 => by have := ckW10; rw [Bool.or_eq_true] at this; exact this.imp id (fun h => List.isEmpty_iff.mp h)
  | 11 => by have := ckW11; rw [Bool.or_eq_true] at this; exact this.imp id (fun h => List.isEmpty_iff.mp h)
  | 12 => by have := ckW12; rw [Bool.or_eq_true] at this; exact this.imp id (fun h => List.isEmpty_iff.mp h)
  | 13 => by have := ckW13; rw [Bool.or_eq_true] at this; exact this.imp id (fun h => List.isEmpty_iff.mp h)
  | 14 => by have := ckW14; rw [Bool.or_eq_true] at this; exact this.imp id (fun h => List.isEmpty_iff.mp h)
  | 15 => by have := ckW15; rw [Bool.or_eq_true] at this; exact this.imp id (fun h => List.isEmpty_iff.mp h)
  | 16 => by have := ckW16; rw [Bool.or_eq_true] at this; exact this.imp id (fun h => List.isEmpty_iff.mp h)
  | 17 => by have := ckW17; rw [Bool.or_eq_true] at this; exact this.imp id (fun h => List.isEmpty_iff.mp h)
  | 18 => by have := ckW18; rw [Bool.or_eq_true] at this; exact this.imp id (fun h => List.isEmpty_iff.mp h)
  | 19 => by have := ckW19; rw [Bool.or_eq_true] at this; exact this.imp id (fun h => List.isEmpty_iff.mp h)
  | 20 => by have := ckW20; rw [Bool.or_eq_true] at this; exact this.imp id (fun h => List.isEmpty_iff.mp h)
  | 21 => by have := ckW21; rw [Bool.or_eq_true] at this; exact this.imp id (fun h => List.isEmpty_iff.mp h)
  | 22 => by have := ckW22; rw [Bool.or_eq_true] at this; exact this.imp id (fun h => List.isEmpty_iff.mp h)
  | 23 => by have := ckW23; rw [Bool.or_eq_true] at this; exact this.imp id (fun h => List.isEmpty_iff.mp h)
  | 24 => by have := ckW24; rw [Bool.or_eq_true] at this; exact this.imp id (fun h => List.isEmpty_iff.mp h)
  | 25 => by have := ckW25; rw [Bool.or_eq_true] at this; exact this.imp id (fun h => List.isEmpty_iff.mp h)
  | 26 => by have := ckW26; rw [Bool.or_eq_true] at this; exact this.imp id (fun h => List.isEmpty_iff.mp h)
  | 27 => by have := ckW27; rw [Bool.or_eq_true] at this; exact this.imp id (fun h => List.isEmpty_iff.mp h)
  | 28 => by have := ckW28; rw [Bool.or_eq_true] at this; exact this.imp id (fun h => List.isEmpty_iff.mp h)
  | 29 => by have := ckW29; rw [Bool.or_eq_true] at this; exact this.imp id (fun h => List.isEmpty_iff.mp h)
  | 30 => by have := ckW30; rw [Bool.or_eq_true] at this; exact this.imp id (fun h => List.isEmpty_iff.mp h)
  | 31 => by have := ckW31; rw [Bool.or_eq_true] at this; exact this.imp id (fun h => List.isEmpty_iff.mp h)
  | 32 => by have := ckW32; rw [Bool.or_eq_true] at this; exact this.imp id (fun h => List.isEmpty_iff.mp h)
  | 33 => by have := ckW33; rw [Bool.or_eq_true] at this; exact this.imp id (fun h => List.isEmpty_iff.mp h)
  | 34 => by have := ckW34; rw [Bool.or_eq_true] at this; exact this.imp id (fun h => List.isEmpty_iff.mp h)
  | 35 => by have := ckW35; rw [Bool.or_eq_true] at this; exact this.imp id (fun h => List.isEmpty_iff.mp h)
  | 36 => by have := ckW36; rw [Bool.or_eq_true] at this; exact this.imp id (fun h => List.isEmpty_iff.mp h)
  | 37 => by have := ckW37; rw [Bool.or_eq_true] at this; exact this.imp id (fun h => List.isEmpty_iff.mp h)
  | 38 => by have := ckW38; rw [Bool.or_eq_true] at this; exact this.imp id (fun h => List.isEmpty_iff.mp h)
  | 39 => by have := ckW39; rw [Bool.or_eq_true] at this; exact this.imp id (fun h => List.isEmpty_iff.mp h)
  | 40 => by have := ckW40; rw [Bool.or_eq_true] at this; exact this.imp id (fun h => List.isEmpty_iff.mp h)
  | 41 => by have := ckW41; rw [Bool.or_eq_true] at this; exact this.imp id (fun h => List.isEmpty_iff.mp h)
  | 42 => by have := ckW42; rw [Bool.or_eq_true] at this; exact this.imp id (fun h => List.isEmpty_iff.mp h)
  | 43 => by have := ckW43; rw [Bool.or_eq_true] at this; exact this.imp id (fun h => List.isEmpty_iff.mp h)
  | 44 => by have := ckW44; rw [Bool.or_eq_true] at this; exact this.imp id (fun h => List.isEmpty_iff.mp h)
  | 45 => by have := ckW45; rw [Bool.or_eq_true] at this; exact this.imp id (fun h => List.isEmpty_iff.mp h)
  | 46 => by have := ckW46; rw [Bool.or_eq_true] at this; exact this.imp id (fun h => List.isEmpty_iff.mp h)
  | 47 => by have := ckW47; rw [Bool.or_eq_true] at this; exact this.imp id (fun h => List.isEmpty_iff.mp h)
  | 48 => by have := ckW48; rw [Bool.or_eq_true] at this; exact this.imp id (fun h => List.isEmpty_iff.mp h)
  | 49 => by have := ckW49; rw [Bool.or_eq_true] at this; exact this.imp id (fun h => List.isEmpty_iff.mp h)
  | 50 => by have := ckW50; rw [Bool.or_eq_true] at this; exact this.imp id (fun h => List.isEmpty_iff.mp h)
  | 51 => by have := ckW51; rw [Bool.or_eq_true] at this; exact this.imp id (fun h => List.isEmpty_iff.mp h)
  | 52 => by have := ckW52; rw [Bool.or_eq_true] at this; exact this.imp id (fun h => List.isEmpty_iff.mp h)
  | 53 => by have := ckW53; rw [Bool.or_eq_true] at this; exact this.imp id (fun h => List.isEmpty_iff.mp h)
  | 54 => by have := ckW54; rw [Bool.or_eq_true] at this; exact this.imp id (fun h => List.isEmpty_iff.mp h)
  | 55 => by have := ckW55; rw [Bool.or_eq_true] at this; exact this.imp id (fun h => List.isEmpty_iff.mp h)
  | 56 => by have := ckW56; rw [Bool.or_eq_true] at this; exact this.imp id (fun h => List.isEmpty_iff.mp h)
  | 57 => by have := ckW57; rw [Bool.or_eq_true] at this; exact this.imp id (fun h => List.isEmpty_iff.mp h)
  | 58 => by have := ckW58; rw [Bool.or_eq_true] at this; exact this.imp id (fun h => List.isEmpty_iff.mp h)
  | 59 => by have := ckW59; rw [Bool.or_eq_true] at this; exact this.imp id (fun h => List.isEmpty_iff.mp h)
  | 60 => by have := ckW60; rw [Bool.or_eq_true] at this; exact this.imp id (fun h => List.isEmpty_iff.mp h)
  | 61 => by have := ckW61; rw [Bool.or_eq_true] at this; exact this.imp id (fun h => List.isEmpty_iff.mp h)
  | 62 => by have := ckW62; rw [Bool.or_eq_true] at this; exact this.imp id (fun h => List.isEmpty_iff.mp h)
  | 63 => by have := ckW63; rw [Bool.or_eq_true] at this; exact this.imp id (fun h => List.isEmpty_iff.mp h)
  | 64 => by have := ckW64; rw [Bool.or_eq_true] at this; exact this.imp id (fun h => List.isEmpty_iff.mp h)
  | 65 => by have := ckW65; rw [Bool.or_eq_true] at this; exact this.imp id (fun h => List.isEmpty_iff.mp h)
  | 66 => by have := ckW66; rw [Bool.or_eq_true] at this; exact this.imp id (fun h => List.isEmpty_iff.mp h)
  | 67 => by have := ckW67; rw [Bool.or_eq_true] at this; exact this.imp id (fun h => List.isEmpty_iff.mp h)
  | 68 => by have := ckW68; rw [Bool.or_eq_true] at this; exact this.imp id (fun h => List.isEmpty_iff.mp h)
  | 69 => by have := ckW69; rw [Bool.or_eq_true] at this; exact this.imp id (fun h => List.isEmpty_iff.mp h)
  | 70 => by have := ckW70; rw [Bool.or_eq_true] at this; exact this.imp id (fun h => List.isEmpty_iff.mp h)
  | 71 => by have := ckW71; rw [Bool.or_eq_true] at this; exact this.imp id (fun h => List.isEmpty_iff.mp h)
  | 72 => by have := ckW72; rw [Bool.or_eq_true] at this; exact this.imp id (fun h => List.isEmpty_iff.mp h)
  | 73 => by have := ckW73; rw [Bool.or_eq_true] at this; exact this.imp id (fun h => List.isEmpty_iff.mp h)
  | 74 => by have := ckW74; rw [Bool.or_eq_true] at this; exact this.imp id (fun h => List.isEmpty_iff.mp h)
  | 75 => by have := ckW75; rw [Bool.or_eq_true] at this; exact this.imp id (fun h => List.isEmpty_iff.mp h)
  | 76 => by have := ckW76; rw [Bool.or_eq_true] at this; exact this.imp id (fun h => List.isEmpty_iff.mp h)
  | 77 => by have := ckW77; rw [Bool.or_eq_true] at this; exact this.imp id (fun h => List.isEmpty_iff.mp h)
  | 78 => by have := ckW78; rw [Bool.or_eq_true] at this; exact this.imp id (fun h => List.isEmpty_iff.mp h)
  | 79 => by have := ckW79; rw [Bool.or_eq_true] at this; exact this.imp id (fun h => List.isEmpty_iff.mp h)
  | 80 => by have := ckW80; rw [Bool.or_eq_true] at this; exact this.imp id (fun h => List.isEmpty_iff.mp h)
  | 81 => by have := ckW81; rw [Bool.or_eq_true] at this; exact this.imp id (fun h => List.isEmpty_iff.mp h)
  | 82 => by have := ckW82; rw [Bool.or_eq_true] at this; exact this.imp id (fun h => List.isEmpty_iff.mp h)
  | 83 => by have := ckW83; rw [Bool.or_eq_true] at this; exact this.imp id (fun h => List.isEmpty_iff.mp h)
  | 84 => by have := ckW84; rw [Bool.or_eq_true] at this; exact this.imp id (fun h => List.isEmpty_iff.mp h)
  | 85 => by have := ckW85; rw [Bool.or_eq_true] at this; exact this.imp id (fun h => List.isEmpty_iff.mp h)
  | 86 => by have := ckW86; rw [Bool.or_eq_true] at this; exact this.imp id (fun h => List.isEmpty_iff.mp h)
  | b + 87 => Or.inr (PW_out (by omega))
theorem awW (b : Nat) {R : Rn} {d L : Nat} {sx : Nat → Int} {ls stk : List V} {st : St} : AW PW R (MS d) L sx b ls stk st = ex (AW PW R (MS d) L sx) R (MS d) L sx (PW b) ls stk st := AW.iff (MS_mono d)
theorem pwl0 : PW 0 = [(0, 0, 0, 0), (3, 3, 0, 0), (50, 1, 0, 0)] := rfl
theorem pwl1 : PW 1 = [(2, 3, 0, 0), (37, 0, 0, 0), (36, 0, 0, 0), (0, 6, 0, 0), (18, 0, 0, 0), (56, 86, 2, 0)] := rfl
theorem pwl2 : PW 2 = [(37, 0, 0, 0), (2, 3, 0, 0), (35, 0, 0, 0), (0, 63, 0, 0), (22, 0, 0, 0), (68, 85, 0, 0), (0, 3, 0, 0), (1, 5, 0, 0), (2, 7, 0, 0), (3, 9, 0, 0), (4, 17, 0, 0), (5, 19, 0, 0), (6, 21, 0, 0), (7, 23, 0, 0), (8, 25, 0, 0), (9, 27, 0, 0), (10, 29, 0, 0), (11, 31, 0, 0), (12, 33, 0, 0), (13, 35, 0, 0), (14, 37, 0, 0), (15, 39, 0, 0), (16, 41, 0, 0), (17, 43, 0, 0), (18, 45, 0, 0), (19, 47, 0, 0), (20, 49, 0, 0), (21, 51, 0, 0), (22, 53, 0, 0), (23, 55, 0, 0), (24, 57, 0, 0), (25, 59, 0, 0), (26, 61, 0, 0), (27, 63, 0, 0), (28, 65, 0, 0), (29, 67, 0, 0), (30, 69, 0, 0), (31, 71, 0, 0), (32, 73, 0, 0), (33, 75, 0, 0), (34, 77, 0, 0), (35, 79, 0, 0), (36, 81, 0, 0), (37, 83, 0, 0)] := rfl
theorem pwl3 : PW 3 = [(37, 1, 0, 0), (37, 0, 0, 0), (2, 3, 0, 0), (0, 1, 0, 0), (17, 0, 0, 0), (35, 0, 0, 0), (31, 0, 2, 13), (37, 2, 0, 0), (37, 0, 0, 0), (2, 3, 0, 0), (0, 1, 0, 0), (17, 0, 0, 0), (35, 0, 0, 0), (31, 80, 2, 17), (52, 85, 4, 0)] := rfl
theorem pwl4 : PW 4 = [(0, 0, 0, 0), (65, 0, 0, 0)] := rfl
theorem pwl5 : PW 5 = [(37, 1, 0, 0), (37, 0, 0, 0), (2, 3, 0, 0), (0, 1, 0, 0), (17, 0, 0, 0), (35, 0, 0, 0), (37, 0, 0, 0), (2, 3, 0, 0), (0, 2, 0, 0), (17, 0, 0, 0), (35, 0, 0, 0), (37, 0, 0, 0), (2, 3, 0, 0), (0, 3, 0, 0), (17, 0, 0, 0), (35, 0, 0, 0), (37, 0, 0, 0), (2, 3, 0, 0), (0, 4, 0, 0), (17, 0, 0, 0), (35, 0, 0, 0), (37, 0, 0, 0), (2, 3, 0, 0), (0, 5, 0, 0), (17, 0, 0, 0), (35, 0, 0, 0), (31, 1, 6, 18), (37, 2, 0, 0), (37, 0, 0, 0), (2, 3, 0, 0), (0, 1, 0, 0), (17, 0, 0, 0), (35, 0, 0, 0), (37, 0, 0, 0), (2, 3, 0, 0), (0, 2, 0, 0), (17, 0, 0, 0), (35, 0, 0, 0), (37, 0, 0, 0), (2, 3, 0, 0), (0, 3, 0, 0), (17, 0, 0, 0), (35, 0, 0, 0), (37, 0, 0, 0), (2, 3, 0, 0), (0, 4, 0, 0), (17, 0, 0, 0), (35, 0, 0, 0), (37, 0, 0, 0), (2, 3, 0, 0), (0, 5, 0, 0), (17, 0, 0, 0), (35, 0, 0, 0), (31, 45, 6, 22), (52, 85, 6, 0)] := rfl
theorem pwl6 : PW 6 = [(0, 0, 0, 0), (65, 0, 0, 0)] := rfl
theorem pwl7 : PW 7 = [(37, 1, 0, 0), (37, 0, 0, 0), (2, 3, 0, 0), (0, 1, 0, 0), (17, 0, 0, 0), (35, 0, 0, 0), (31, 2, 2, 23), (37, 2, 0, 0), (37, 0, 0, 0), (2, 3, 0, 0), (0, 1, 0, 0), (17, 0, 0, 0), (35, 0, 0, 0), (31, 46, 2, 27), (52, 85, 8, 0)] := rfl
theorem pwl8 : PW 8 = [(0, 0, 0, 0), (65, 0, 0, 0)] := rfl
theorem pwl9 : PW 9 = [(37, 1, 0, 0), (37, 0, 0, 0), (2, 3, 0, 0), (0, 1, 0, 0), (17, 0, 0, 0), (35, 0, 0, 0), (58, 11, 10, 0)] := rfl
theorem pwl10 : PW 10 = [(0, 1, 0, 0), (51, 12, 0, 0)] := rfl
theorem pwl11 : PW 11 = [(0, 0, 0, 0), (50, 12, 0, 0)] := rfl
theorem pwl12 : PW 12 = [(31, 3, 2, 28), (37, 2, 0, 0), (37, 0, 0, 0), (2, 3, 0, 0), (0, 1, 0, 0), (17, 0, 0, 0), (35, 0, 0, 0), (58, 14, 13, 0)] := rfl
theorem pwl13 : PW 13 = [(0, 1, 0, 0), (51, 15, 0, 0)] := rfl
theorem pwl14 : PW 14 = [(0, 0, 0, 0), (50, 15, 0, 0)] := rfl
theorem pwl15 : PW 15 = [(31, 82, 2, 32), (52, 85, 16, 0)] := rfl
theorem pwl16 : PW 16 = [(0, 0, 0, 0), (65, 0, 0, 0)] := rfl
theorem pwl17 : PW 17 = [(37, 1, 0, 0), (37, 0, 0, 0), (2, 3, 0, 0), (0, 1, 0, 0), (17, 0, 0, 0), (35, 0, 0, 0), (31, 4, 2, 33), (37, 2, 0, 0), (37, 0, 0, 0), (2, 3, 0, 0), (0, 1, 0, 0), (17, 0, 0, 0), (35, 0, 0, 0), (31, 83, 2, 36), (52, 85, 18, 0)] := rfl
theorem pwl18 : PW 18 = [(0, 0, 0, 0), (65, 0, 0, 0)] := rfl
theorem pwl19 : PW 19 = [(37, 1, 0, 0), (37, 0, 0, 0), (2, 3, 0, 0), (0, 1, 0, 0), (17, 0, 0, 0), (35, 0, 0, 0), (37, 0, 0, 0), (2, 3, 0, 0), (0, 2, 0, 0), (17, 0, 0, 0), (35, 0, 0, 0), (31, 8, 3, 37), (37, 2, 0, 0), (37, 0, 0, 0), (2, 3, 0, 0), (0, 1, 0, 0), (17, 0, 0, 0), (35, 0, 0, 0), (37, 0, 0, 0), (2, 3, 0, 0), (0, 2, 0, 0), (17, 0, 0, 0), (35, 0, 0, 0), (31, 84, 3, 41), (52, 85, 20, 0)] := rfl
theorem pwl20 : PW 20 = [(0, 0, 0, 0), (65, 0, 0, 0)] := rfl
theorem pwl21 : PW 21 = [(37, 1, 0, 0), (37, 0, 0, 0), (2, 3, 0, 0), (0, 1, 0, 0), (17, 0, 0, 0), (35, 0, 0, 0), (31, 9, 2, 42), (37, 2, 0, 0), (37, 0, 0, 0), (2, 3, 0, 0), (0, 1, 0, 0), (17, 0, 0, 0), (35, 0, 0, 0), (31, 88, 2, 45), (52, 85, 22, 0)] := rfl
theorem pwl22 : PW 22 = [(0, 0, 0, 0), (65, 0, 0, 0)] := rfl
theorem pwl23 : PW 23 = [(37, 1, 0, 0), (37, 0, 0, 0), (2, 3, 0, 0), (0, 1, 0, 0), (17, 0, 0, 0), (35, 0, 0, 0), (37, 0, 0, 0), (2, 3, 0, 0), (0, 2, 0, 0), (17, 0, 0, 0), (35, 0, 0, 0), (31, 10, 3, 46), (37, 2, 0, 0), (37, 0, 0, 0), (2, 3, 0, 0), (0, 1, 0, 0), (17, 0, 0, 0), (35, 0, 0, 0), (37, 0, 0, 0), (2, 3, 0, 0), (0, 2, 0, 0), (17, 0, 0, 0), (35, 0, 0, 0), (31, 89, 3, 49), (52, 85, 24, 0)] := rfl
theorem pwl24 : PW 24 = [(0, 0, 0, 0), (65, 0, 0, 0)] := rfl
theorem pwl25 : PW 25 = [(37, 1, 0, 0), (37, 0, 0, 0), (2, 3, 0, 0), (0, 1, 0, 0), (17, 0, 0, 0), (35, 0, 0, 0), (31, 11, 2, 50), (37, 2, 0, 0), (37, 0, 0, 0), (2, 3, 0, 0), (0, 1, 0, 0), (17, 0, 0, 0), (35, 0, 0, 0), (31, 90, 2, 53), (52, 85, 26, 0)] := rfl
theorem pwl26 : PW 26 = [(0, 0, 0, 0), (65, 0, 0, 0)] := rfl
theorem pwl27 : PW 27 = [(37, 1, 0, 0), (37, 0, 0, 0), (2, 3, 0, 0), (0, 1, 0, 0), (17, 0, 0, 0), (35, 0, 0, 0), (37, 0, 0, 0), (2, 3, 0, 0), (0, 2, 0, 0), (17, 0, 0, 0), (35, 0, 0, 0), (37, 0, 0, 0), (2, 3, 0, 0), (0, 3, 0, 0), (17, 0, 0, 0), (35, 0, 0, 0), (31, 12, 4, 54), (37, 2, 0, 0), (37, 0, 0, 0), (2, 3, 0, 0), (0, 1, 0, 0), (17, 0, 0, 0), (35, 0, 0, 0), (37, 0, 0, 0), (2, 3, 0, 0), (0, 2, 0, 0), (17, 0, 0, 0), (35, 0, 0, 0), (37, 0, 0, 0), (2, 3, 0, 0), (0, 3, 0, 0), (17, 0, 0, 0), (35, 0, 0, 0), (31, 92, 4, 58), (52, 85, 28, 0)] := rfl
theorem pwl28 : PW 28 = [(0, 0, 0, 0), (65, 0, 0, 0)] := rfl
theorem pwl29 : PW 29 = [(37, 1, 0, 0), (37, 0, 0, 0), (2, 3, 0, 0), (0, 1, 0, 0), (17, 0, 0, 0), (35, 0, 0, 0), (37, 0, 0, 0), (2, 3, 0, 0), (0, 2, 0, 0), (17, 0, 0, 0), (35, 0, 0, 0), (31, 13, 3, 59), (37, 2, 0, 0), (37, 0, 0, 0), (2, 3, 0, 0), (0, 1, 0, 0), (17, 0, 0, 0), (35, 0, 0, 0), (37, 0, 0, 0), (2, 3, 0, 0), (0, 2, 0, 0), (17, 0, 0, 0), (35, 0, 0, 0), (31, 93, 3, 62), (52, 85, 30, 0)] := rfl
theorem pwl30 : PW 30 = [(0, 0, 0, 0), (65, 0, 0, 0)] := rfl
theorem pwl31 : PW 31 = [(37, 1, 0, 0), (37, 0, 0, 0), (2, 3, 0, 0), (0, 1, 0, 0), (17, 0, 0, 0), (35, 0, 0, 0), (31, 14, 2, 63), (37, 2, 0, 0), (37, 0, 0, 0), (2, 3, 0, 0), (0, 1, 0, 0), (17, 0, 0, 0), (35, 0, 0, 0), (31, 94, 2, 66), (52, 85, 32, 0)] := rfl
theorem pwl32 : PW 32 = [(0, 0, 0, 0), (65, 0, 0, 0)] := rfl
theorem pwl33 : PW 33 = [(37, 1, 0, 0), (37, 0, 0, 0), (2, 3, 0, 0), (0, 1, 0, 0), (17, 0, 0, 0), (35, 0, 0, 0), (31, 15, 2, 67), (37, 2, 0, 0), (37, 0, 0, 0), (2, 3, 0, 0), (0, 1, 0, 0), (17, 0, 0, 0), (35, 0, 0, 0), (31, 95, 2, 70), (52, 85, 34, 0)] := rfl
theorem pwl34 : PW 34 = [(0, 0, 0, 0), (65, 0, 0, 0)] := rfl
theorem pwl35 : PW 35 = [(37, 1, 0, 0), (31, 16, 1, 71), (37, 2, 0, 0), (31, 96, 1, 75), (52, 85, 36, 0)] := rfl
theorem pwl36 : PW 36 = [(0, 0, 0, 0), (65, 0, 0, 0)] := rfl
theorem pwl37 : PW 37 = [(37, 1, 0, 0), (37, 0, 0, 0), (2, 3, 0, 0), (0, 1, 0, 0), (17, 0, 0, 0), (35, 0, 0, 0), (37, 0, 0, 0), (2, 3, 0, 0), (0, 2, 0, 0), (17, 0, 0, 0), (35, 0, 0, 0), (31, 17, 3, 76), (37, 2, 0, 0), (37, 0, 0, 0), (2, 3, 0, 0), (0, 1, 0, 0), (17, 0, 0, 0), (35, 0, 0, 0), (37, 0, 0, 0), (2, 3, 0, 0), (0, 2, 0, 0), (17, 0, 0, 0), (35, 0, 0, 0), (31, 97, 3, 79), (52, 85, 38, 0)] := rfl
theorem pwl38 : PW 38 = [(0, 0, 0, 0), (65, 0, 0, 0)] := rfl
theorem pwl39 : PW 39 = [(37, 1, 0, 0), (31, 22, 1, 80), (37, 2, 0, 0), (31, 115, 1, 83), (52, 85, 40, 0)] := rfl
theorem pwl40 : PW 40 = [(0, 0, 0, 0), (65, 0, 0, 0)] := rfl
theorem pwl41 : PW 41 = [(37, 1, 0, 0), (31, 23, 1, 84), (37, 2, 0, 0), (31, 116, 1, 87), (52, 85, 42, 0)] := rfl
theorem pwl42 : PW 42 = [(0, 0, 0, 0), (65, 0, 0, 0)] := rfl
theorem pwl43 : PW 43 = [(37, 1, 0, 0), (31, 24, 1, 88), (37, 2, 0, 0), (31, 124, 1, 91), (52, 85, 44, 0)] := rfl
theorem pwl44 : PW 44 = [(0, 0, 0, 0), (65, 0, 0, 0)] := rfl
theorem pwl45 : PW 45 = [(37, 1, 0, 0), (31, 25, 1, 92), (37, 2, 0, 0), (31, 125, 1, 95), (52, 85, 46, 0)] := rfl
theorem pwl46 : PW 46 = [(0, 0, 0, 0), (65, 0, 0, 0)] := rfl
theorem pwl47 : PW 47 = [(37, 1, 0, 0), (37, 0, 0, 0), (2, 3, 0, 0), (0, 1, 0, 0), (17, 0, 0, 0), (35, 0, 0, 0), (31, 26, 2, 96), (37, 2, 0, 0), (37, 0, 0, 0), (2, 3, 0, 0), (0, 1, 0, 0), (17, 0, 0, 0), (35, 0, 0, 0), (31, 104, 2, 99), (52, 85, 48, 0)] := rfl
theorem pwl48 : PW 48 = [(0, 0, 0, 0), (65, 0, 0, 0)] := rfl
theorem pwl49 : PW 49 = [(37, 1, 0, 0), (37, 0, 0, 0), (2, 3, 0, 0), (0, 1, 0, 0), (17, 0, 0, 0), (35, 0, 0, 0), (37, 0, 0, 0), (2, 3, 0, 0), (0, 2, 0, 0), (17, 0, 0, 0), (35, 0, 0, 0), (37, 0, 0, 0), (2, 3, 0, 0), (0, 3, 0, 0), (17, 0, 0, 0), (35, 0, 0, 0), (31, 27, 4, 100), (37, 2, 0, 0), (37, 0, 0, 0), (2, 3, 0, 0), (0, 1, 0, 0), (17, 0, 0, 0), (35, 0, 0, 0), (37, 0, 0, 0), (2, 3, 0, 0), (0, 2, 0, 0), (17, 0, 0, 0), (35, 0, 0, 0), (37, 0, 0, 0), (2, 3, 0, 0), (0, 3, 0, 0), (17, 0, 0, 0), (35, 0, 0, 0), (31, 106, 4, 103), (52, 85, 50, 0)] := rfl
theorem pwl50 : PW 50 = [(0, 0, 0, 0), (65, 0, 0, 0)] := rfl
theorem pwl51 : PW 51 = [(37, 1, 0, 0), (37, 0, 0, 0), (2, 3, 0, 0), (0, 1, 0, 0), (17, 0, 0, 0), (35, 0, 0, 0), (31, 28, 2, 104), (37, 2, 0, 0), (37, 0, 0, 0), (2, 3, 0, 0), (0, 1, 0, 0), (17, 0, 0, 0), (35, 0, 0, 0), (31, 105, 2, 107), (52, 85, 52, 0)] := rfl
theorem pwl52 : PW 52 = [(0, 0, 0, 0), (65, 0, 0, 0)] := rfl
theorem pwl53 : PW 53 = [(37, 1, 0, 0), (37, 0, 0, 0), (2, 3, 0, 0), (0, 1, 0, 0), (17, 0, 0, 0), (35, 0, 0, 0), (31, 29, 2, 108), (37, 2, 0, 0), (37, 0, 0, 0), (2, 3, 0, 0), (0, 1, 0, 0), (17, 0, 0, 0), (35, 0, 0, 0), (31, 108, 2, 111), (52, 85, 54, 0)] := rfl
theorem pwl54 : PW 54 = [(0, 0, 0, 0), (65, 0, 0, 0)] := rfl
theorem pwl55 : PW 55 = [(37, 1, 0, 0), (37, 0, 0, 0), (2, 3, 0, 0), (0, 1, 0, 0), (17, 0, 0, 0), (35, 0, 0, 0), (37, 0, 0, 0), (2, 3, 0, 0), (0, 2, 0, 0), (17, 0, 0, 0), (35, 0, 0, 0), (31, 30, 3, 112), (37, 2, 0, 0), (37, 0, 0, 0), (2, 3, 0, 0), (0, 1, 0, 0), (17, 0, 0, 0), (35, 0, 0, 0), (37, 0, 0, 0), (2, 3, 0, 0), (0, 2, 0, 0), (17, 0, 0, 0), (35, 0, 0, 0), (31, 109, 3, 115), (52, 85, 56, 0)] := rfl
theorem pwl56 : PW 56 = [(0, 0, 0, 0), (65, 0, 0, 0)] := rfl
theorem pwl57 : PW 57 = [(37, 1, 0, 0), (37, 0, 0, 0), (2, 3, 0, 0), (0, 1, 0, 0), (17, 0, 0, 0), (35, 0, 0, 0), (37, 0, 0, 0), (2, 3, 0, 0), (0, 2, 0, 0), (17, 0, 0, 0), (35, 0, 0, 0), (31, 37, 3, 116), (37, 2, 0, 0), (37, 0, 0, 0), (2, 3, 0, 0), (0, 1, 0, 0), (17, 0, 0, 0), (35, 0, 0, 0), (37, 0, 0, 0), (2, 3, 0, 0), (0, 2, 0, 0), (17, 0, 0, 0), (35, 0, 0, 0), (31, 131, 3, 119), (52, 85, 58, 0)] := rfl
theorem pwl58 : PW 58 = [(0, 0, 0, 0), (65, 0, 0, 0)] := rfl
theorem pwl59 : PW 59 = [(37, 1, 0, 0), (37, 0, 0, 0), (2, 3, 0, 0), (0, 1, 0, 0), (17, 0, 0, 0), (35, 0, 0, 0), (31, 38, 2, 120), (37, 2, 0, 0), (37, 0, 0, 0), (2, 3, 0, 0), (0, 1, 0, 0), (17, 0, 0, 0), (35, 0, 0, 0), (31, 137, 2, 123), (52, 85, 60, 0)] := rfl
theorem pwl60 : PW 60 = [(0, 0, 0, 0), (65, 0, 0, 0)] := rfl
theorem pwl61 : PW 61 = [(37, 1, 0, 0), (37, 0, 0, 0), (2, 3, 0, 0), (0, 1, 0, 0), (17, 0, 0, 0), (35, 0, 0, 0), (31, 39, 2, 124), (37, 2, 0, 0), (37, 0, 0, 0), (2, 3, 0, 0), (0, 1, 0, 0), (17, 0, 0, 0), (35, 0, 0, 0), (31, 139, 2, 127), (52, 85, 62, 0)] := rfl
theorem pwl62 : PW 62 = [(0, 0, 0, 0), (65, 0, 0, 0)] := rfl
theorem pwl63 : PW 63 = [(37, 1, 0, 0), (37, 0, 0, 0), (2, 3, 0, 0), (0, 1, 0, 0), (17, 0, 0, 0), (35, 0, 0, 0), (37, 0, 0, 0), (2, 3, 0, 0), (0, 2, 0, 0), (17, 0, 0, 0), (35, 0, 0, 0), (31, 31, 3, 128), (37, 2, 0, 0), (37, 0, 0, 0), (2, 3, 0, 0), (0, 1, 0, 0), (17, 0, 0, 0), (35, 0, 0, 0), (37, 0, 0, 0), (2, 3, 0, 0), (0, 2, 0, 0), (17, 0, 0, 0), (35, 0, 0, 0), (31, 141, 3, 131), (52, 85, 64, 0)] := rfl
theorem pwl64 : PW 64 = [(0, 0, 0, 0), (65, 0, 0, 0)] := rfl
theorem pwl65 : PW 65 = [(37, 1, 0, 0), (37, 0, 0, 0), (2, 3, 0, 0), (0, 1, 0, 0), (17, 0, 0, 0), (35, 0, 0, 0), (31, 32, 2, 132), (37, 2, 0, 0), (37, 0, 0, 0), (2, 3, 0, 0), (0, 1, 0, 0), (17, 0, 0, 0), (35, 0, 0, 0), (31, 142, 2, 135), (52, 85, 66, 0)] := rfl
theorem pwl66 : PW 66 = [(0, 0, 0, 0), (65, 0, 0, 0)] := rfl
theorem pwl67 : PW 67 = [(37, 1, 0, 0), (37, 0, 0, 0), (2, 3, 0, 0), (0, 1, 0, 0), (17, 0, 0, 0), (35, 0, 0, 0), (37, 0, 0, 0), (2, 3, 0, 0), (0, 2, 0, 0), (17, 0, 0, 0), (35, 0, 0, 0), (37, 0, 0, 0), (2, 3, 0, 0), (0, 3, 0, 0), (17, 0, 0, 0), (35, 0, 0, 0), (31, 40, 4, 136), (37, 2, 0, 0), (37, 0, 0, 0), (2, 3, 0, 0), (0, 1, 0, 0), (17, 0, 0, 0), (35, 0, 0, 0), (37, 0, 0, 0), (2, 3, 0, 0), (0, 2, 0, 0), (17, 0, 0, 0), (35, 0, 0, 0), (37, 0, 0, 0), (2, 3, 0, 0), (0, 3, 0, 0), (17, 0, 0, 0), (35, 0, 0, 0), (31, 132, 4, 139), (52, 85, 68, 0)] := rfl
theorem pwl68 : PW 68 = [(0, 0, 0, 0), (65, 0, 0, 0)] := rfl
theorem pwl69 : PW 69 = [(37, 1, 0, 0), (37, 0, 0, 0), (2, 3, 0, 0), (0, 1, 0, 0), (17, 0, 0, 0), (35, 0, 0, 0), (31, 33, 2, 140), (37, 2, 0, 0), (37, 0, 0, 0), (2, 3, 0, 0), (0, 1, 0, 0), (17, 0, 0, 0), (35, 0, 0, 0), (31, 144, 2, 143), (52, 85, 70, 0)] := rfl
theorem pwl70 : PW 70 = [(0, 0, 0, 0), (65, 0, 0, 0)] := rfl
theorem pwl71 : PW 71 = [(37, 1, 0, 0), (37, 0, 0, 0), (2, 3, 0, 0), (0, 1, 0, 0), (17, 0, 0, 0), (35, 0, 0, 0), (31, 34, 2, 144), (37, 2, 0, 0), (37, 0, 0, 0), (2, 3, 0, 0), (0, 1, 0, 0), (17, 0, 0, 0), (35, 0, 0, 0), (31, 145, 2, 147), (52, 85, 72, 0)] := rfl
theorem pwl72 : PW 72 = [(0, 0, 0, 0), (65, 0, 0, 0)] := rfl
theorem pwl73 : PW 73 = [(37, 1, 0, 0), (37, 0, 0, 0), (2, 3, 0, 0), (0, 1, 0, 0), (17, 0, 0, 0), (35, 0, 0, 0), (31, 35, 2, 148), (37, 2, 0, 0), (37, 0, 0, 0), (2, 3, 0, 0), (0, 1, 0, 0), (17, 0, 0, 0), (35, 0, 0, 0), (31, 148, 2, 151), (52, 85, 74, 0)] := rfl
theorem pwl74 : PW 74 = [(0, 0, 0, 0), (65, 0, 0, 0)] := rfl
theorem pwl75 : PW 75 = [(37, 1, 0, 0), (37, 0, 0, 0), (2, 3, 0, 0), (0, 1, 0, 0), (17, 0, 0, 0), (35, 0, 0, 0), (31, 36, 2, 152), (37, 2, 0, 0), (37, 0, 0, 0), (2, 3, 0, 0), (0, 1, 0, 0), (17, 0, 0, 0), (35, 0, 0, 0), (31, 149, 2, 155), (52, 85, 76, 0)] := rfl
theorem pwl76 : PW 76 = [(0, 0, 0, 0), (65, 0, 0, 0)] := rfl
theorem pwl77 : PW 77 = [(37, 1, 0, 0), (37, 0, 0, 0), (2, 3, 0, 0), (0, 1, 0, 0), (17, 0, 0, 0), (35, 0, 0, 0), (31, 5, 2, 156), (37, 2, 0, 0), (37, 0, 0, 0), (2, 3, 0, 0), (0, 1, 0, 0), (17, 0, 0, 0), (35, 0, 0, 0), (31, 150, 2, 159), (52, 85, 78, 0)] := rfl
theorem pwl78 : PW 78 = [(0, 0, 0, 0), (65, 0, 0, 0)] := rfl
theorem pwl79 : PW 79 = [(37, 1, 0, 0), (37, 0, 0, 0), (2, 3, 0, 0), (0, 1, 0, 0), (17, 0, 0, 0), (35, 0, 0, 0), (37, 0, 0, 0), (2, 3, 0, 0), (0, 2, 0, 0), (17, 0, 0, 0), (35, 0, 0, 0), (31, 19, 3, 160), (37, 2, 0, 0), (37, 0, 0, 0), (2, 3, 0, 0), (0, 1, 0, 0), (17, 0, 0, 0), (35, 0, 0, 0), (37, 0, 0, 0), (2, 3, 0, 0), (0, 2, 0, 0), (17, 0, 0, 0), (35, 0, 0, 0), (31, 157, 3, 163), (52, 85, 80, 0)] := rfl
theorem pwl80 : PW 80 = [(0, 0, 0, 0), (65, 0, 0, 0)] := rfl
theorem pwl81 : PW 81 = [(37, 1, 0, 0), (31, 20, 1, 164), (37, 2, 0, 0), (31, 158, 1, 167), (52, 85, 82, 0)] := rfl
theorem pwl82 : PW 82 = [(0, 0, 0, 0), (65, 0, 0, 0)] := rfl
theorem pwl83 : PW 83 = [(37, 1, 0, 0), (37, 0, 0, 0), (2, 3, 0, 0), (0, 1, 0, 0), (17, 0, 0, 0), (35, 0, 0, 0), (31, 21, 2, 168), (37, 2, 0, 0), (37, 0, 0, 0), (2, 3, 0, 0), (0, 1, 0, 0), (17, 0, 0, 0), (35, 0, 0, 0), (31, 159, 2, 171), (52, 85, 84, 0)] := rfl
theorem pwl84 : PW 84 = [(0, 0, 0, 0), (65, 0, 0, 0)] := rfl
theorem pwl85 : PW 85 = [(4, 3, 6, 0), (51, 1, 0, 0)] := rfl
theorem pwl86 : PW 86 = [(0, 1, 0, 0), (65, 0, 0, 0)] := rfl
