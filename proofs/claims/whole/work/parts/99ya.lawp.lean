/-! THE LAW's loop, but for the dancer's case -/
section LAWP
variable {d : Nat} {bt : List (List PI)} {r : List PI} {ls : plocs} {st : List pv} {h h0 : pheap} {s tqq uqq : St} {Q : Option pv → pheap → Prop} {N : Nat} {xs : Nat → Int} {zqq : Int}
def lawB : List (List PI) := [[(69, [10, 8, 3, 3, 3, 3, 0, 0, 3, 3, 1, 3, 3, 3, 3, 3, 3, 3], 0), (10, [], 0), (120, [6, 1], 0), (8, [1], 0), (69, [11, 18, 0, 3, 0, 3, 3, 3, 3, 3, 3, 3, 3, 0, 0, 0, 0, 0, 0, 0, 0, 0, 0, 0, 0, 0, 3, 3, 0, 3, 3, 3, 3, 3, 3, 3, 3, 1, 0, 3, 3, 3, 3, 0, 3, 3, 3, 0, 3, 0, 3, 3, 0, 0, 3, 3, 3, 3, 3, 3], 0), (10, [], 0), (120, [57, 1], 0), (8, [2], 0), (0, [], 1), (70, [3], 0), (8, [3], 0), (0, [], 0), (6, [4], 0), (107, [1], 0)], [(3, [4], 0), (5, [0], 0), (84, [0], 0), (0, [], 6), (21, [], 0), (102, [4, 55], 0), (5, [0], 0), (3, [4], 0), (83, [0], 0), (0, [], 63), (28, [], 0), (105, [54, 2, 3, 4, 5, 6, 9, 10, 11, 12, 13, 14, 15, 16, 21, 22, 23, 24, 25, 26, 27, 28, 29, 30, 31, 32, 33, 34, 35, 40, 45, 46, 47, 48, 49, 50, 51, 52, 53], 0)], [(5, [1], 0), (5, [0], 0), (3, [4], 0), (0, [], 1), (20, [], 0), (83, [0], 0), (5, [0], 0), (3, [4], 0), (0, [], 2), (20, [], 0), (83, [0], 0), (5, [0], 0), (3, [4], 0), (0, [], 3), (20, [], 0), (83, [0], 0), (5, [0], 0), (3, [4], 0), (0, [], 4), (20, [], 0), (83, [0], 0), (5, [0], 0), (3, [4], 0), (0, [], 5), (20, [], 0), (83, [0], 0), (120, [7, 6], 0), (5, [2], 0), (5, [0], 0), (3, [4], 0), (0, [], 1), (20, [], 0), (83, [0], 0), (5, [0], 0), (3, [4], 0), (0, [], 2), (20, [], 0), (83, [0], 0), (5, [0], 0), (3, [4], 0), (0, [], 3), (20, [], 0), (83, [0], 0), (5, [0], 0), (3, [4], 0), (0, [], 4), (20, [], 0), (83, [0], 0), (5, [0], 0), (3, [4], 0), (0, [], 5), (20, [], 0), (83, [0], 0), (120, [59, 6], 0), (102, [0, 54], 0), (0, [], 0), (111, [1], 0)], [(5, [1], 0), (5, [0], 0), (3, [4], 0), (0, [], 1), (20, [], 0), (83, [0], 0), (120, [8, 2], 0), (5, [2], 0), (5, [0], 0), (3, [4], 0), (0, [], 1), (20, [], 0), (83, [0], 0), (120, [88, 2], 0), (102, [0, 54], 0), (0, [], 0), (111, [1], 0)], [(5, [1], 0), (5, [0], 0), (3, [4], 0), (0, [], 1), (20, [], 0), (83, [0], 0), (120, [9, 2], 0), (5, [2], 0), (5, [0], 0), (3, [4], 0), (0, [], 1), (20, [], 0), (83, [0], 0), (120, [89, 2], 0), (102, [0, 54], 0), (0, [], 0), (111, [1], 0)], [(5, [1], 0), (5, [0], 0), (3, [4], 0), (0, [], 1), (20, [], 0), (83, [0], 0), (120, [10, 2], 0), (5, [2], 0), (5, [0], 0), (3, [4], 0), (0, [], 1), (20, [], 0), (83, [0], 0), (120, [90, 2], 0), (102, [0, 54], 0), (0, [], 0), (111, [1], 0)], [(5, [1], 0), (5, [0], 0), (3, [4], 0), (0, [], 1), (20, [], 0), (83, [0], 0), (5, [0], 0), (3, [4], 0), (0, [], 2), (20, [], 0), (83, [0], 0), (5, [3], 0), (120, [9999, 0], 0), (6, [5], 0), (5, [2], 0), (5, [0], 0), (3, [4], 0), (0, [], 1), (20, [], 0), (83, [0], 0), (5, [0], 0), (3, [4], 0), (0, [], 2), (20, [], 0), (83, [0], 0), (120, [131, 3], 0), (6, [6], 0), (5, [2], 0), (120, [58, 1], 0), (3, [5], 0), (102, [0, 7], 0), (0, [], 0), (111, [1], 0)], [(3, [5], 0), (101, [1, 8], 0), (5, [3], 0), (0, [], 0), (64, [], 0), (3, [6], 0), (37, [], 0), (46, [], 0), (101, [0, 8], 0), (0, [], 0), (111, [1], 0)], [(100, [54], 0)], [(5, [1], 0), (5, [0], 0), (3, [4], 0), (0, [], 1), (20, [], 0), (83, [0], 0), (5, [0], 0), (3, [4], 0), (0, [], 2), (20, [], 0), (83, [0], 0), (120, [11, 3], 0), (5, [2], 0), (5, [0], 0), (3, [4], 0), (0, [], 1), (20, [], 0), (83, [0], 0), (5, [0], 0), (3, [4], 0), (0, [], 2), (20, [], 0), (83, [0], 0), (120, [135, 3], 0), (102, [0, 54], 0), (0, [], 0), (111, [1], 0)], [(5, [1], 0), (5, [0], 0), (3, [4], 0), (0, [], 1), (20, [], 0), (83, [0], 0), (5, [0], 0), (3, [4], 0), (0, [], 2), (20, [], 0), (83, [0], 0), (120, [12, 3], 0), (5, [2], 0), (5, [0], 0), (3, [4], 0), (0, [], 1), (20, [], 0), (83, [0], 0), (5, [0], 0), (3, [4], 0), (0, [], 2), (20, [], 0), (83, [0], 0), (120, [136, 3], 0), (102, [0, 54], 0), (0, [], 0), (111, [1], 0)], [(5, [1], 0), (5, [0], 0), (3, [4], 0), (0, [], 1), (20, [], 0), (83, [0], 0), (5, [0], 0), (3, [4], 0), (0, [], 2), (20, [], 0), (83, [0], 0), (120, [13, 3], 0), (5, [2], 0), (5, [0], 0), (3, [4], 0), (0, [], 1), (20, [], 0), (83, [0], 0), (5, [0], 0), (3, [4], 0), (0, [], 2), (20, [], 0), (83, [0], 0), (120, [137, 3], 0), (102, [0, 54], 0), (0, [], 0), (111, [1], 0)], [(5, [1], 0), (120, [14, 1], 0), (5, [2], 0), (120, [138, 1], 0), (102, [0, 54], 0), (0, [], 0), (111, [1], 0)], [(5, [1], 0), (120, [15, 1], 0), (5, [2], 0), (120, [139, 1], 0), (102, [0, 54], 0), (0, [], 0), (111, [1], 0)], [(5, [1], 0), (120, [16, 1], 0), (5, [2], 0), (120, [140, 1], 0), (102, [0, 54], 0), (0, [], 0), (111, [1], 0)], [(5, [1], 0), (5, [0], 0), (3, [4], 0), (0, [], 1), (20, [], 0), (83, [0], 0), (5, [0], 0), (3, [4], 0), (0, [], 2), (20, [], 0), (83, [0], 0), (120, [17, 3], 0), (5, [2], 0), (5, [0], 0), (3, [4], 0), (0, [], 1), (20, [], 0), (83, [0], 0), (5, [0], 0), (3, [4], 0), (0, [], 2), (20, [], 0), (83, [0], 0), (120, [141, 3], 0), (46, [], 0), (101, [0, 54], 0), (0, [], 0), (111, [1], 0)], [(5, [1], 0), (5, [0], 0), (3, [4], 0), (0, [], 1), (20, [], 0), (83, [0], 0), (5, [0], 0), (3, [4], 0), (0, [], 2), (20, [], 0), (83, [0], 0), (101, [0, 17], 0), (0, [], 1), (100, [18], 0)], [(0, [], 0), (107, [18], 0)], [(120, [18, 3], 0), (5, [2], 0), (5, [0], 0), (3, [4], 0), (0, [], 1), (20, [], 0), (83, [0], 0), (5, [0], 0), (3, [4], 0), (0, [], 2), (20, [], 0), (83, [0], 0), (101, [0, 19], 0), (0, [], 1), (100, [20], 0)], [(0, [], 0), (107, [20], 0)], [(120, [143, 3], 0), (102, [0, 54], 0), (0, [], 0), (111, [1], 0)], [(5, [1], 0), (5, [0], 0), (3, [4], 0), (0, [], 1), (20, [], 0), (83, [0], 0), (120, [19, 2], 0), (5, [2], 0), (5, [0], 0), (3, [4], 0), (0, [], 1), (20, [], 0), (83, [0], 0), (120, [144, 2], 0), (102, [0, 54], 0), (0, [], 0), (111, [1], 0)], [(5, [1], 0), (5, [0], 0), (3, [4], 0), (0, [], 1), (20, [], 0), (83, [0], 0), (120, [20, 2], 0), (5, [2], 0), (5, [0], 0), (3, [4], 0), (0, [], 1), (20, [], 0), (83, [0], 0), (120, [145, 2], 0), (102, [0, 54], 0), (0, [], 0), (111, [1], 0)], [(5, [1], 0), (5, [0], 0), (3, [4], 0), (0, [], 1), (20, [], 0), (83, [0], 0), (120, [21, 2], 0), (5, [2], 0), (5, [0], 0), (3, [4], 0), (0, [], 1), (20, [], 0), (83, [0], 0), (120, [146, 2], 0), (102, [0, 54], 0), (0, [], 0), (111, [1], 0)], [(5, [1], 0), (5, [0], 0), (3, [4], 0), (0, [], 1), (20, [], 0), (83, [0], 0), (120, [22, 2], 0), (5, [2], 0), (5, [0], 0), (3, [4], 0), (0, [], 1), (20, [], 0), (83, [0], 0), (120, [147, 2], 0), (102, [0, 54], 0), (0, [], 0), (111, [1], 0)], [(5, [1], 0), (5, [0], 0), (3, [4], 0), (0, [], 1), (20, [], 0), (83, [0], 0), (5, [0], 0), (3, [4], 0), (0, [], 2), (20, [], 0), (83, [0], 0), (120, [23, 3], 0), (5, [2], 0), (5, [0], 0), (3, [4], 0), (0, [], 1), (20, [], 0), (83, [0], 0), (5, [0], 0), (3, [4], 0), (0, [], 2), (20, [], 0), (83, [0], 0), (120, [149, 3], 0), (102, [0, 54], 0), (0, [], 0), (111, [1], 0)], [(5, [1], 0), (5, [0], 0), (3, [4], 0), (0, [], 1), (20, [], 0), (83, [0], 0), (120, [24, 2], 0), (5, [2], 0), (5, [0], 0), (3, [4], 0), (0, [], 1), (20, [], 0), (83, [0], 0), (120, [150, 2], 0), (102, [0, 54], 0), (0, [], 0), (111, [1], 0)], [(5, [1], 0), (5, [0], 0), (3, [4], 0), (0, [], 1), (20, [], 0), (83, [0], 0), (5, [0], 0), (3, [4], 0), (0, [], 2), (20, [], 0), (83, [0], 0), (120, [25, 3], 0), (5, [2], 0), (5, [0], 0), (3, [4], 0), (0, [], 1), (20, [], 0), (83, [0], 0), (5, [0], 0), (3, [4], 0), (0, [], 2), (20, [], 0), (83, [0], 0), (120, [151, 3], 0), (102, [0, 54], 0), (0, [], 0), (111, [1], 0)], [(5, [1], 0), (120, [26, 1], 0), (5, [2], 0), (120, [154, 1], 0), (102, [0, 54], 0), (0, [], 0), (111, [1], 0)], [(5, [1], 0), (5, [0], 0), (3, [4], 0), (0, [], 1), (20, [], 0), (83, [0], 0), (120, [27, 2], 0), (5, [2], 0), (5, [0], 0), (3, [4], 0), (0, [], 1), (20, [], 0), (83, [0], 0), (120, [157, 2], 0), (102, [0, 54], 0), (0, [], 0), (111, [1], 0)], [(5, [1], 0), (5, [0], 0), (3, [4], 0), (0, [], 1), (20, [], 0), (83, [0], 0), (5, [0], 0), (3, [4], 0), (0, [], 2), (20, [], 0), (83, [0], 0), (120, [28, 3], 0), (5, [2], 0), (5, [0], 0), (3, [4], 0), (0, [], 1), (20, [], 0), (83, [0], 0), (5, [0], 0), (3, [4], 0), (0, [], 2), (20, [], 0), (83, [0], 0), (120, [162, 3], 0), (102, [0, 54], 0), (0, [], 0), (111, [1], 0)], [(5, [1], 0), (5, [0], 0), (3, [4], 0), (0, [], 1), (20, [], 0), (83, [0], 0), (120, [29, 2], 0), (5, [2], 0), (5, [0], 0), (3, [4], 0), (0, [], 1), (20, [], 0), (83, [0], 0), (120, [159, 2], 0), (102, [0, 54], 0), (0, [], 0), (111, [1], 0)], [(5, [1], 0), (5, [0], 0), (3, [4], 0), (0, [], 1), (20, [], 0), (83, [0], 0), (5, [0], 0), (3, [4], 0), (0, [], 2), (20, [], 0), (83, [0], 0), (5, [0], 0), (3, [4], 0), (0, [], 3), (20, [], 0), (83, [0], 0), (120, [30, 4], 0), (5, [2], 0), (5, [0], 0), (3, [4], 0), (0, [], 1), (20, [], 0), (83, [0], 0), (5, [0], 0), (3, [4], 0), (0, [], 2), (20, [], 0), (83, [0], 0), (5, [0], 0), (3, [4], 0), (0, [], 3), (20, [], 0), (83, [0], 0), (120, [164, 4], 0), (102, [0, 54], 0), (0, [], 0), (111, [1], 0)], [(5, [1], 0), (5, [0], 0), (3, [4], 0), (0, [], 1), (20, [], 0), (83, [0], 0), (120, [31, 2], 0), (5, [2], 0), (5, [0], 0), (3, [4], 0), (0, [], 1), (20, [], 0), (83, [0], 0), (120, [165, 2], 0), (102, [0, 54], 0), (0, [], 0), (111, [1], 0)], [(5, [1], 0), (5, [0], 0), (3, [4], 0), (0, [], 1), (20, [], 0), (83, [0], 0), (5, [0], 0), (3, [4], 0), (0, [], 2), (20, [], 0), (83, [0], 0), (120, [32, 3], 0), (5, [2], 0), (5, [0], 0), (3, [4], 0), (0, [], 1), (20, [], 0), (83, [0], 0), (5, [0], 0), (3, [4], 0), (0, [], 2), (20, [], 0), (83, [0], 0), (120, [167, 3], 0), (46, [], 0), (101, [0, 54], 0), (0, [], 0), (111, [1], 0)], [(5, [1], 0), (5, [0], 0), (3, [4], 0), (0, [], 1), (20, [], 0), (83, [0], 0), (5, [0], 0), (3, [4], 0), (0, [], 2), (20, [], 0), (83, [0], 0), (5, [0], 0), (3, [4], 0), (0, [], 3), (20, [], 0), (83, [0], 0), (5, [0], 0), (3, [4], 0), (0, [], 4), (20, [], 0), (83, [0], 0), (101, [0, 36], 0), (0, [], 1), (100, [37], 0)], [(0, [], 0), (107, [37], 0)], [(120, [33, 5], 0), (5, [2], 0), (5, [0], 0), (3, [4], 0), (0, [], 1), (20, [], 0), (83, [0], 0), (5, [0], 0), (3, [4], 0), (0, [], 2), (20, [], 0), (83, [0], 0), (5, [0], 0), (3, [4], 0), (0, [], 3), (20, [], 0), (83, [0], 0), (5, [0], 0), (3, [4], 0), (0, [], 4), (20, [], 0), (83, [0], 0), (101, [0, 38], 0), (0, [], 1), (100, [39], 0)], [(0, [], 0), (107, [39], 0)], [(120, [169, 5], 0), (102, [0, 54], 0), (0, [], 0), (111, [1], 0)], [(5, [1], 0), (5, [0], 0), (3, [4], 0), (0, [], 1), (20, [], 0), (83, [0], 0), (5, [0], 0), (3, [4], 0), (0, [], 2), (20, [], 0), (83, [0], 0), (5, [0], 0), (3, [4], 0), (0, [], 3), (20, [], 0), (83, [0], 0), (5, [0], 0), (3, [4], 0), (0, [], 4), (20, [], 0), (83, [0], 0), (101, [0, 41], 0), (0, [], 1), (100, [42], 0)], [(0, [], 0), (107, [42], 0)], [(120, [34, 5], 0), (5, [2], 0), (5, [0], 0), (3, [4], 0), (0, [], 1), (20, [], 0), (83, [0], 0), (5, [0], 0), (3, [4], 0), (0, [], 2), (20, [], 0), (83, [0], 0), (5, [0], 0), (3, [4], 0), (0, [], 3), (20, [], 0), (83, [0], 0), (5, [0], 0), (3, [4], 0), (0, [], 4), (20, [], 0), (83, [0], 0), (101, [0, 43], 0), (0, [], 1), (100, [44], 0)], [(0, [], 0), (107, [44], 0)], [(120, [170, 5], 0), (102, [0, 54], 0), (0, [], 0), (111, [1], 0)], [(5, [1], 0), (5, [0], 0), (3, [4], 0), (0, [], 1), (20, [], 0), (83, [0], 0), (120, [35, 2], 0), (5, [2], 0), (5, [0], 0), (3, [4], 0), (0, [], 1), (20, [], 0), (83, [0], 0), (120, [171, 2], 0), (102, [0, 54], 0), (0, [], 0), (111, [1], 0)], [(5, [1], 0), (5, [0], 0), (3, [4], 0), (0, [], 1), (20, [], 0), (83, [0], 0), (120, [36, 2], 0), (5, [2], 0), (5, [0], 0), (3, [4], 0), (0, [], 1), (20, [], 0), (83, [0], 0), (120, [172, 2], 0), (102, [0, 54], 0), (0, [], 0), (111, [1], 0)], [(5, [1], 0), (5, [0], 0), (3, [4], 0), (0, [], 1), (20, [], 0), (83, [0], 0), (120, [37, 2], 0), (5, [2], 0), (5, [0], 0), (3, [4], 0), (0, [], 1), (20, [], 0), (83, [0], 0), (120, [176, 2], 0), (102, [0, 54], 0), (0, [], 0), (111, [1], 0)], [(5, [1], 0), (5, [0], 0), (3, [4], 0), (0, [], 1), (20, [], 0), (83, [0], 0), (5, [0], 0), (3, [4], 0), (0, [], 2), (20, [], 0), (83, [0], 0), (120, [38, 3], 0), (5, [2], 0), (5, [0], 0), (3, [4], 0), (0, [], 1), (20, [], 0), (83, [0], 0), (5, [0], 0), (3, [4], 0), (0, [], 2), (20, [], 0), (83, [0], 0), (120, [177, 3], 0), (102, [0, 54], 0), (0, [], 0), (111, [1], 0)], [(5, [1], 0), (5, [0], 0), (3, [4], 0), (0, [], 1), (20, [], 0), (83, [0], 0), (5, [0], 0), (3, [4], 0), (0, [], 2), (20, [], 0), (83, [0], 0), (5, [0], 0), (3, [4], 0), (0, [], 3), (20, [], 0), (83, [0], 0), (120, [39, 4], 0), (5, [2], 0), (5, [0], 0), (3, [4], 0), (0, [], 1), (20, [], 0), (83, [0], 0), (5, [0], 0), (3, [4], 0), (0, [], 2), (20, [], 0), (83, [0], 0), (5, [0], 0), (3, [4], 0), (0, [], 3), (20, [], 0), (83, [0], 0), (120, [178, 4], 0), (102, [0, 54], 0), (0, [], 0), (111, [1], 0)], [(5, [1], 0), (120, [40, 1], 0), (5, [2], 0), (120, [179, 1], 0), (102, [0, 54], 0), (0, [], 0), (111, [1], 0)], [(5, [1], 0), (120, [41, 1], 0), (5, [2], 0), (120, [180, 1], 0), (102, [0, 54], 0), (0, [], 0), (111, [1], 0)], [(5, [1], 0), (120, [42, 1], 0), (5, [2], 0), (120, [181, 1], 0), (102, [0, 54], 0), (0, [], 0), (111, [1], 0)], [(5, [1], 0), (5, [0], 0), (3, [4], 0), (0, [], 1), (20, [], 0), (83, [0], 0), (120, [43, 2], 0), (5, [2], 0), (5, [0], 0), (3, [4], 0), (0, [], 1), (20, [], 0), (83, [0], 0), (120, [182, 2], 0), (102, [0, 54], 0), (0, [], 0), (111, [1], 0)], [(9, [4], 6), (100, [1], 0)], [(0, [], 1), (111, [1], 0)]]
theorem x_84_0 (e : h.2.2 0 = .inl (0, N, xs)) (k : wp PP d bt r ls (vI N :: st) h Q) : wp PP d bt ((84, [0], zqq) :: r) ls (vR 0 :: st) h Q := (wp_s1 (by decide) (by unfold s1 sS; simp [e])).mpr k
theorem x_83_0 (e : h.2.2 0 = .inl (0, N, xs)) (hN : N < 2147483648) {i : Int} (hi : 0 ≤ i ∧ i < N) (k : wp PP d bt r ls (vI (xs i.toNat) :: st) h Q) : wp PP d bt ((83, [0], zqq) :: r) ls (vI i :: vR 0 :: st) h Q := by
  have e1 : inx i N = true := by
    unfold inx
    rw [decide_eq_true_eq]
    have : i < 2147483648 := by omega
    have e2 : (Int32.ofInt i).toNatClampNeg = i.toNat := by
      rw [Int32.toNatClampNeg, Int32.toInt_ofInt_of_le (by omega) (by omega)]
    rw [e2]
    intro y
    rcases y with y | y
    · have := Int32.lt_iff_toInt_lt.mp y
      rw [Int32.toInt_ofInt_of_le (by omega) (by omega)] at this
      have z0qq : (0 : Int32).toInt = 0 := by decide
      omega
    · omega
  have e3 : ix i = i.toNat := by
    unfold ix
    rw [Int32.toNatClampNeg, Int32.toInt_ofInt_of_le (by omega) (by omega)]
  refine (wp_s1 (by decide) (ls' := ls) (st' := vI (xs i.toNat) :: st) (h' := h) ?_).mpr k
  unfold s1 sS
  simp [e, e1, e3]
theorem icnd_same (a : Int) : icnd 0 a a = true := (icnd_0 a a).mpr rfl
theorem iand_63 (x : Int) : 0 ≤ i_and x 63 ∧ i_and x 63 < 64 := by
  unfold i_and
  have e1 : (Int32.ofInt x &&& Int32.ofInt 63).toBitVec.toNat = ((x % 4294967296).toNat % 64) := by
    rw [Int32.toBitVec_and, BitVec.toNat_and, Int32.toBitVec_ofInt, Int32.toBitVec_ofInt, BitVec.toNat_ofInt, BitVec.toNat_ofInt]
    have : ((63 : Int) % ((2 ^ 32 : Nat) : Int)).toNat = 2 ^ 6 - 1 := by decide
    rw [this, Nat.and_two_pow_sub_one_eq_mod]
    rfl
  rw [← Int32.toInt_toBitVec, BitVec.toInt_eq_toNat_of_lt]
  · omega
  · omega
theorem hp0 {X : pcell} (hc : h0.2.2 0 = X) : (HP h0 s).2.2 0 = X := by
  unfold HP
  dsimp only
  rw [if_neg (by omega)]
  exact hc
theorem lc_same (a : Int) : l_cmp a a = 0 := by
  unfold l_cmp lg_cmp
  simp
theorem w_law (hd : 220 ≤ d) (hN : N < 2147483648) (hxs : ∀ j, iR (xs j)) (hDan : ∀ (g : pheap) (s : St) (i : Int), g.2.2 0 = .inl (0, N, xs) → INV s → 0 ≤ i → i + 6 ≤ N → (∀ (g2 : pheap) (s2 : St), g2.2.2 0 = .inl (0, N, xs) → INV s2 → ∀ {o5 o6 : Option pv}, wp PP d lawB (lawB.getD 54 []) [some (vR 0), some (vR 32), some (vR 94), some (vR 130), some (vI i), o5, o6] [] (HP g2 s2) Q) → ∀ {o5 o6 : Option pv}, wp PP d lawB (lawB.getD 6 []) [some (vR 0), some (vR 32), some (vR 94), some (vR 130), some (vI i), o5, o6] [] (HP g s) Q) (k : ∀ (g : pheap) (s : St), Q (some (vI 1)) (HP g s)) (hc : h0.2.2 0 = .inl (0, N, xs)) (hI : INV s) {o5 o6 : Option pv} : wp PP d lawB (lawB.getD 1 []) [some (vR 0), some (vR 32), some (vR 94), some (vR 130), some (vI 0), o5, o6] [] (HP h0 s) Q := by
  have L1 : ∀ M : Nat, ∀ {o5 o6 : Option pv} (i : Int) (g : pheap) (s : St), (M = N - i.toNat ∧ 0 ≤ i ∧ i ≤ N) → (g.2.2 0 = .inl (0, N, xs)) → (INV s) →  wp PP d lawB (lawB.getD 1 []) [some (vR 0), some (vR 32), some (vR 94), some (vR 130), some (vI i), o5, o6] [] (HP g s) Q := by
    refine s_ind (fun M ih => ?_)
    intro o5 o6 i g s hM hc hI
    refine x_iload rfl ?_
    refine x_aload rfl ?_
    refine x_84_0 (hp0 hc) ?_
    refine x_ci ?_
    refine x_isub ?_
    refine n_icmp_gt ⟨by omega, by omega⟩ ⟨by omega, by omega⟩ (fun c1 => ?_) (fun c1 => ?_)
    · refine x_ci ?_
      refine x_zret (by first | exact bI_01 _ | omega) ?_
      exact k _ _
    · have h54 : ∀ (g2 : pheap) (s2 : St), g2.2.2 0 = .inl (0, N, xs) → INV s2 → ∀ {o5 o6 : Option pv}, wp PP d lawB (lawB.getD 54 []) [some (vR 0), some (vR 32), some (vR 94), some (vR 130), some (vI i), o5, o6] [] (HP g2 s2) Q := by
        intro g2 s2 a1 a2 o5 o6
        refine n_iinc [_, _, _, _, some (vI _), _, _] rfl rfl ?_
        refine x_goto ?_
        exact ih (N - (i.toNat + 6)) (by omega) (i + 6) g2 s2 (by omega) a1 a2
      refine x_aload rfl ?_
      refine x_iload rfl ?_
      refine x_83_0 (hp0 hc) hN ⟨by omega, by omega⟩ ?_
      refine x_ci ?_
      refine x_iand ?_
      have i63 := iand_63 (xs i.toNat)
      refine n_tsw 38 rfl ⟨by omega, by omega⟩ (fun c2 => ?_) (And.intro (fun c2 => ?_) (And.intro (fun c2 => ?_) (And.intro (fun c2 => ?_) (And.intro (fun c2 => ?_) (And.intro (fun c2 => ?_) (And.intro (fun c2 => ?_) (And.intro (fun c2 => ?_) (And.intro (fun c2 => ?_) (And.intro (fun c2 => ?_) (And.intro (fun c2 => ?_) (And.intro (fun c2 => ?_) (And.intro (fun c2 => ?_) (And.intro (fun c2 => ?_) (And.intro (fun c2 => ?_) (And.intro (fun c2 => ?_) (And.intro (fun c2 => ?_) (And.intro (fun c2 => ?_) (And.intro (fun c2 => ?_) (And.intro (fun c2 => ?_) (And.intro (fun c2 => ?_) (And.intro (fun c2 => ?_) (And.intro (fun c2 => ?_) (And.intro (fun c2 => ?_) (And.intro (fun c2 => ?_) (And.intro (fun c2 => ?_) (And.intro (fun c2 => ?_) (And.intro (fun c2 => ?_) (And.intro (fun c2 => ?_) (And.intro (fun c2 => ?_) (And.intro (fun c2 => ?_) (And.intro (fun c2 => ?_) (And.intro (fun c2 => ?_) (And.intro (fun c2 => ?_) (And.intro (fun c2 => ?_) (And.intro (fun c2 => ?_) (And.intro (fun c2 => ?_) (And.intro (fun c2 => ?_) (And.intro (fun c2 => ?_) trivial))))))))))))))))))))))))))))))))))))))
      · exact h54 _ _ hc hI
      · refine x_aload rfl ?_
        refine x_aload rfl ?_
        refine x_iload rfl ?_
        refine x_ci ?_
        refine x_iadd ?_
        refine x_83_0 (hp0 hc) hN ⟨by omega, by omega⟩ ?_
        refine x_aload rfl ?_
        refine x_iload rfl ?_
        refine x_ci ?_
        refine x_iadd ?_
        refine x_83_0 (hp0 hc) hN ⟨by omega, by omega⟩ ?_
        refine x_aload rfl ?_
        refine x_iload rfl ?_
        refine x_ci ?_
        refine x_iadd ?_
        refine x_83_0 (hp0 hc) hN ⟨by omega, by omega⟩ ?_
        refine x_aload rfl ?_
        refine x_iload rfl ?_
        refine x_ci ?_
        refine x_iadd ?_
        refine x_83_0 (hp0 hc) hN ⟨by omega, by omega⟩ ?_
        refine x_aload rfl ?_
        refine x_iload rfl ?_
        refine x_ci ?_
        refine x_iadd ?_
        refine x_83_0 (hp0 hc) hN ⟨by omega, by omega⟩ ?_
        refine n_call [vR _, vI _, vI _, vI _, vI _, vI _] [] (by omega) (Nat.le_of_ble_eq_true rfl) rfl rfl (Nat.le_of_ble_eq_true rfl) ?_
        refine wpM_mono (p_feed hI (by omega) (hxs _) (hxs _) (hxs _) (hxs _) (hxs _)) (fun vqq h2 e => ?_)
        obtain ⟨⟨r, rfl⟩, tqq, rfl, e2⟩ := e
        show wp PP _ _ _ [some (vR _), some (vR _), some (vR _), some (vR _), some (vI _), _, _] [vI _] _ _
        refine x_aload rfl ?_
        refine x_aload rfl ?_
        refine x_iload rfl ?_
        refine x_ci ?_
        refine x_iadd ?_
        refine x_83_0 (hp0 hc) hN ⟨by omega, by omega⟩ ?_
        refine x_aload rfl ?_
        refine x_iload rfl ?_
        refine x_ci ?_
        refine x_iadd ?_
        refine x_83_0 (hp0 hc) hN ⟨by omega, by omega⟩ ?_
        refine x_aload rfl ?_
        refine x_iload rfl ?_
        refine x_ci ?_
        refine x_iadd ?_
        refine x_83_0 (hp0 hc) hN ⟨by omega, by omega⟩ ?_
        refine x_aload rfl ?_
        refine x_iload rfl ?_
        refine x_ci ?_
        refine x_iadd ?_
        refine x_83_0 (hp0 hc) hN ⟨by omega, by omega⟩ ?_
        refine x_aload rfl ?_
        refine x_iload rfl ?_
        refine x_ci ?_
        refine x_iadd ?_
        refine x_83_0 (hp0 hc) hN ⟨by omega, by omega⟩ ?_
        refine n_call [vR _, vI _, vI _, vI _, vI _, vI _] [vI _] (by omega) (Nat.le_of_ble_eq_true rfl) rfl rfl (Nat.le_of_ble_eq_true rfl) ?_
        refine wpM_mono e2 (fun vqq h2 e => ?_)
        obtain ⟨uqq, rfl, hI2, rfl⟩ := e
        show wp PP _ _ _ [some (vR _), some (vR _), some (vR _), some (vR _), some (vI _), _, _] [vI _, vI _] _ _
        refine x_icmp_eq (fun _ => ?_) (fun c9 => absurd rfl c9)
        exact h54 _ _ hc hI2
      · refine x_aload rfl ?_
        refine x_aload rfl ?_
        refine x_iload rfl ?_
        refine x_ci ?_
        refine x_iadd ?_
        refine x_83_0 (hp0 hc) hN ⟨by omega, by omega⟩ ?_
        refine n_call [vR _, vI _] [] (by omega) (Nat.le_of_ble_eq_true rfl) rfl rfl (Nat.le_of_ble_eq_true rfl) ?_
        refine wpM_mono (p_text hI (by omega) (hxs _)) (fun vqq h2 e => ?_)
        obtain ⟨⟨r, rfl⟩, tqq, rfl, e2⟩ := e
        show wp PP _ _ _ [some (vR _), some (vR _), some (vR _), some (vR _), some (vI _), _, _] [vI _] _ _
        refine x_aload rfl ?_
        refine x_aload rfl ?_
        refine x_iload rfl ?_
        refine x_ci ?_
        refine x_iadd ?_
        refine x_83_0 (hp0 hc) hN ⟨by omega, by omega⟩ ?_
        refine n_call [vR _, vI _] [vI _] (by omega) (Nat.le_of_ble_eq_true rfl) rfl rfl (Nat.le_of_ble_eq_true rfl) ?_
        refine wpM_mono e2 (fun vqq h2 e => ?_)
        obtain ⟨uqq, rfl, hI2, rfl⟩ := e
        show wp PP _ _ _ [some (vR _), some (vR _), some (vR _), some (vR _), some (vI _), _, _] [vI _, vI _] _ _
        refine x_icmp_eq (fun _ => ?_) (fun c9 => absurd rfl c9)
        exact h54 _ _ hc hI2
      · refine x_aload rfl ?_
        refine x_aload rfl ?_
        refine x_iload rfl ?_
        refine x_ci ?_
        refine x_iadd ?_
        refine x_83_0 (hp0 hc) hN ⟨by omega, by omega⟩ ?_
        refine n_call [vR _, vI _] [] (by omega) (Nat.le_of_ble_eq_true rfl) rfl rfl (Nat.le_of_ble_eq_true rfl) ?_
        refine wpM_mono (p_fault hI (by omega) (hxs _)) (fun vqq h2 e => ?_)
        obtain ⟨⟨r, rfl⟩, tqq, rfl, e2⟩ := e
        show wp PP _ _ _ [some (vR _), some (vR _), some (vR _), some (vR _), some (vI _), _, _] [vI _] _ _
        refine x_aload rfl ?_
        refine x_aload rfl ?_
        refine x_iload rfl ?_
        refine x_ci ?_
        refine x_iadd ?_
        refine x_83_0 (hp0 hc) hN ⟨by omega, by omega⟩ ?_
        refine n_call [vR _, vI _] [vI _] (by omega) (Nat.le_of_ble_eq_true rfl) rfl rfl (Nat.le_of_ble_eq_true rfl) ?_
        refine wpM_mono e2 (fun vqq h2 e => ?_)
        obtain ⟨uqq, rfl, hI2, rfl⟩ := e
        show wp PP _ _ _ [some (vR _), some (vR _), some (vR _), some (vR _), some (vI _), _, _] [vI _, vI _] _ _
        refine x_icmp_eq (fun _ => ?_) (fun c9 => absurd rfl c9)
        exact h54 _ _ hc hI2
      · refine x_aload rfl ?_
        refine x_aload rfl ?_
        refine x_iload rfl ?_
        refine x_ci ?_
        refine x_iadd ?_
        refine x_83_0 (hp0 hc) hN ⟨by omega, by omega⟩ ?_
        refine n_call [vR _, vI _] [] (by omega) (Nat.le_of_ble_eq_true rfl) rfl rfl (Nat.le_of_ble_eq_true rfl) ?_
        refine wpM_mono (p_named hI (by omega) (hxs _)) (fun vqq h2 e => ?_)
        obtain ⟨⟨r, rfl⟩, tqq, rfl, e2⟩ := e
        show wp PP _ _ _ [some (vR _), some (vR _), some (vR _), some (vR _), some (vI _), _, _] [vI _] _ _
        refine x_aload rfl ?_
        refine x_aload rfl ?_
        refine x_iload rfl ?_
        refine x_ci ?_
        refine x_iadd ?_
        refine x_83_0 (hp0 hc) hN ⟨by omega, by omega⟩ ?_
        refine n_call [vR _, vI _] [vI _] (by omega) (Nat.le_of_ble_eq_true rfl) rfl rfl (Nat.le_of_ble_eq_true rfl) ?_
        refine wpM_mono e2 (fun vqq h2 e => ?_)
        obtain ⟨uqq, rfl, hI2, rfl⟩ := e
        show wp PP _ _ _ [some (vR _), some (vR _), some (vR _), some (vR _), some (vI _), _, _] [vI _, vI _] _ _
        refine x_icmp_eq (fun _ => ?_) (fun c9 => absurd rfl c9)
        exact h54 _ _ hc hI2
      · exact hDan g s i hc hI (by omega) (by omega) h54
      · refine x_aload rfl ?_
        refine x_aload rfl ?_
        refine x_iload rfl ?_
        refine x_ci ?_
        refine x_iadd ?_
        refine x_83_0 (hp0 hc) hN ⟨by omega, by omega⟩ ?_
        refine x_aload rfl ?_
        refine x_iload rfl ?_
        refine x_ci ?_
        refine x_iadd ?_
        refine x_83_0 (hp0 hc) hN ⟨by omega, by omega⟩ ?_
        refine n_call [vR _, vI _, vI _] [] (by omega) (Nat.le_of_ble_eq_true rfl) rfl rfl (Nat.le_of_ble_eq_true rfl) ?_
        refine wpM_mono (p_crossing hI (by omega) (hxs _) (hxs _)) (fun vqq h2 e => ?_)
        obtain ⟨⟨r, rfl⟩, tqq, rfl, e2⟩ := e
        show wp PP _ _ _ [some (vR _), some (vR _), some (vR _), some (vR _), some (vI _), _, _] [vI _] _ _
        refine x_aload rfl ?_
        refine x_aload rfl ?_
        refine x_iload rfl ?_
        refine x_ci ?_
        refine x_iadd ?_
        refine x_83_0 (hp0 hc) hN ⟨by omega, by omega⟩ ?_
        refine x_aload rfl ?_
        refine x_iload rfl ?_
        refine x_ci ?_
        refine x_iadd ?_
        refine x_83_0 (hp0 hc) hN ⟨by omega, by omega⟩ ?_
        refine n_call [vR _, vI _, vI _] [vI _] (by omega) (Nat.le_of_ble_eq_true rfl) rfl rfl (Nat.le_of_ble_eq_true rfl) ?_
        refine wpM_mono e2 (fun vqq h2 e => ?_)
        obtain ⟨uqq, rfl, hI2, rfl⟩ := e
        show wp PP _ _ _ [some (vR _), some (vR _), some (vR _), some (vR _), some (vI _), _, _] [vI _, vI _] _ _
        refine x_icmp_eq (fun _ => ?_) (fun c9 => absurd rfl c9)
        exact h54 _ _ hc hI2
      · refine x_aload rfl ?_
        refine x_aload rfl ?_
        refine x_iload rfl ?_
        refine x_ci ?_
        refine x_iadd ?_
        refine x_83_0 (hp0 hc) hN ⟨by omega, by omega⟩ ?_
        refine x_aload rfl ?_
        refine x_iload rfl ?_
        refine x_ci ?_
        refine x_iadd ?_
        refine x_83_0 (hp0 hc) hN ⟨by omega, by omega⟩ ?_
        refine n_call [vR _, vI _, vI _] [] (by omega) (Nat.le_of_ble_eq_true rfl) rfl rfl (Nat.le_of_ble_eq_true rfl) ?_
        refine wpM_mono (p_bond hI (by omega) (hxs _) (hxs _)) (fun vqq h2 e => ?_)
        obtain ⟨⟨r, rfl⟩, tqq, rfl, e2⟩ := e
        show wp PP _ _ _ [some (vR _), some (vR _), some (vR _), some (vR _), some (vI _), _, _] [vI _] _ _
        refine x_aload rfl ?_
        refine x_aload rfl ?_
        refine x_iload rfl ?_
        refine x_ci ?_
        refine x_iadd ?_
        refine x_83_0 (hp0 hc) hN ⟨by omega, by omega⟩ ?_
        refine x_aload rfl ?_
        refine x_iload rfl ?_
        refine x_ci ?_
        refine x_iadd ?_
        refine x_83_0 (hp0 hc) hN ⟨by omega, by omega⟩ ?_
        refine n_call [vR _, vI _, vI _] [vI _] (by omega) (Nat.le_of_ble_eq_true rfl) rfl rfl (Nat.le_of_ble_eq_true rfl) ?_
        refine wpM_mono e2 (fun vqq h2 e => ?_)
        obtain ⟨uqq, rfl, hI2, rfl⟩ := e
        show wp PP _ _ _ [some (vR _), some (vR _), some (vR _), some (vR _), some (vI _), _, _] [vI _, vI _] _ _
        refine x_icmp_eq (fun _ => ?_) (fun c9 => absurd rfl c9)
        exact h54 _ _ hc hI2
      · refine x_aload rfl ?_
        refine x_aload rfl ?_
        refine x_iload rfl ?_
        refine x_ci ?_
        refine x_iadd ?_
        refine x_83_0 (hp0 hc) hN ⟨by omega, by omega⟩ ?_
        refine x_aload rfl ?_
        refine x_iload rfl ?_
        refine x_ci ?_
        refine x_iadd ?_
        refine x_83_0 (hp0 hc) hN ⟨by omega, by omega⟩ ?_
        refine n_call [vR _, vI _, vI _] [] (by omega) (Nat.le_of_ble_eq_true rfl) rfl rfl (Nat.le_of_ble_eq_true rfl) ?_
        refine wpM_mono (p_at hI (by omega) (hxs _) (hxs _)) (fun vqq h2 e => ?_)
        obtain ⟨⟨r, rfl⟩, tqq, rfl, e2⟩ := e
        show wp PP _ _ _ [some (vR _), some (vR _), some (vR _), some (vR _), some (vI _), _, _] [vI _] _ _
        refine x_aload rfl ?_
        refine x_aload rfl ?_
        refine x_iload rfl ?_
        refine x_ci ?_
        refine x_iadd ?_
        refine x_83_0 (hp0 hc) hN ⟨by omega, by omega⟩ ?_
        refine x_aload rfl ?_
        refine x_iload rfl ?_
        refine x_ci ?_
        refine x_iadd ?_
        refine x_83_0 (hp0 hc) hN ⟨by omega, by omega⟩ ?_
        refine n_call [vR _, vI _, vI _] [vI _] (by omega) (Nat.le_of_ble_eq_true rfl) rfl rfl (Nat.le_of_ble_eq_true rfl) ?_
        refine wpM_mono e2 (fun vqq h2 e => ?_)
        obtain ⟨uqq, rfl, hI2, rfl⟩ := e
        show wp PP _ _ _ [some (vR _), some (vR _), some (vR _), some (vR _), some (vI _), _, _] [vI _, vI _] _ _
        refine x_icmp_eq (fun _ => ?_) (fun c9 => absurd rfl c9)
        exact h54 _ _ hc hI2
      · refine x_aload rfl ?_
        refine n_call [vR _] [] (by omega) (Nat.le_of_ble_eq_true rfl) rfl rfl (Nat.le_of_ble_eq_true rfl) ?_
        refine wpM_mono (p_isHome hI (by omega) ) (fun vqq h2 e => ?_)
        obtain ⟨⟨r, rfl⟩, tqq, rfl, e2⟩ := e
        show wp PP _ _ _ [some (vR _), some (vR _), some (vR _), some (vR _), some (vI _), _, _] [vI _] _ _
        refine x_aload rfl ?_
        refine n_call [vR _] [vI _] (by omega) (Nat.le_of_ble_eq_true rfl) rfl rfl (Nat.le_of_ble_eq_true rfl) ?_
        refine wpM_mono e2 (fun vqq h2 e => ?_)
        obtain ⟨uqq, rfl, hI2, rfl⟩ := e
        show wp PP _ _ _ [some (vR _), some (vR _), some (vR _), some (vR _), some (vI _), _, _] [vI _, vI _] _ _
        refine x_icmp_eq (fun _ => ?_) (fun c9 => absurd rfl c9)
        exact h54 _ _ hc hI2
      · refine x_aload rfl ?_
        refine n_call [vR _] [] (by omega) (Nat.le_of_ble_eq_true rfl) rfl rfl (Nat.le_of_ble_eq_true rfl) ?_
        refine wpM_mono (p_isLoose hI (by omega) ) (fun vqq h2 e => ?_)
        obtain ⟨⟨r, rfl⟩, tqq, rfl, e2⟩ := e
        show wp PP _ _ _ [some (vR _), some (vR _), some (vR _), some (vR _), some (vI _), _, _] [vI _] _ _
        refine x_aload rfl ?_
        refine n_call [vR _] [vI _] (by omega) (Nat.le_of_ble_eq_true rfl) rfl rfl (Nat.le_of_ble_eq_true rfl) ?_
        refine wpM_mono e2 (fun vqq h2 e => ?_)
        obtain ⟨uqq, rfl, hI2, rfl⟩ := e
        show wp PP _ _ _ [some (vR _), some (vR _), some (vR _), some (vR _), some (vI _), _, _] [vI _, vI _] _ _
        refine x_icmp_eq (fun _ => ?_) (fun c9 => absurd rfl c9)
        exact h54 _ _ hc hI2
      · refine x_aload rfl ?_
        refine n_call [vR _] [] (by omega) (Nat.le_of_ble_eq_true rfl) rfl rfl (Nat.le_of_ble_eq_true rfl) ?_
        refine wpM_mono (p_alike hI (by omega) ) (fun vqq h2 e => ?_)
        obtain ⟨⟨r, rfl⟩, tqq, rfl, e2⟩ := e
        show wp PP _ _ _ [some (vR _), some (vR _), some (vR _), some (vR _), some (vI _), _, _] [vI _] _ _
        refine x_aload rfl ?_
        refine n_call [vR _] [vI _] (by omega) (Nat.le_of_ble_eq_true rfl) rfl rfl (Nat.le_of_ble_eq_true rfl) ?_
        refine wpM_mono e2 (fun vqq h2 e => ?_)
        obtain ⟨uqq, rfl, hI2, rfl⟩ := e
        show wp PP _ _ _ [some (vR _), some (vR _), some (vR _), some (vR _), some (vI _), _, _] [vI _, vI _] _ _
        refine x_icmp_eq (fun _ => ?_) (fun c9 => absurd rfl c9)
        exact h54 _ _ hc hI2
      · refine x_aload rfl ?_
        refine x_aload rfl ?_
        refine x_iload rfl ?_
        refine x_ci ?_
        refine x_iadd ?_
        refine x_83_0 (hp0 hc) hN ⟨by omega, by omega⟩ ?_
        refine x_aload rfl ?_
        refine x_iload rfl ?_
        refine x_ci ?_
        refine x_iadd ?_
        refine x_83_0 (hp0 hc) hN ⟨by omega, by omega⟩ ?_
        refine n_call [vR _, vI _, vI _] [] (by omega) (Nat.le_of_ble_eq_true rfl) rfl rfl (Nat.le_of_ble_eq_true rfl) ?_
        refine wpM_mono (p_law hI (by omega) (hxs _) (hxs _)) (fun vqq h2 e => ?_)
        obtain ⟨⟨r, rfl⟩, tqq, rfl, e2⟩ := e
        show wp PP _ _ _ [some (vR _), some (vR _), some (vR _), some (vR _), some (vI _), _, _] [vL _] _ _
        refine x_aload rfl ?_
        refine x_aload rfl ?_
        refine x_iload rfl ?_
        refine x_ci ?_
        refine x_iadd ?_
        refine x_83_0 (hp0 hc) hN ⟨by omega, by omega⟩ ?_
        refine x_aload rfl ?_
        refine x_iload rfl ?_
        refine x_ci ?_
        refine x_iadd ?_
        refine x_83_0 (hp0 hc) hN ⟨by omega, by omega⟩ ?_
        refine n_call [vR _, vI _, vI _] [vL _] (by omega) (Nat.le_of_ble_eq_true rfl) rfl rfl (Nat.le_of_ble_eq_true rfl) ?_
        refine wpM_mono e2 (fun vqq h2 e => ?_)
        obtain ⟨uqq, rfl, hI2, rfl⟩ := e
        show wp PP _ _ _ [some (vR _), some (vR _), some (vR _), some (vR _), some (vI _), _, _] [vL _, vL _] _ _
        refine x_lcmp ?_
        refine t_I 0 (lc_same r) ?_
        refine n_if_eq ⟨by omega, by omega⟩ (fun _ => ?_) (fun c9 => absurd rfl c9)
        exact h54 _ _ hc hI2
      · refine x_aload rfl ?_
        refine x_aload rfl ?_
        refine x_iload rfl ?_
        refine x_ci ?_
        refine x_iadd ?_
        refine x_83_0 (hp0 hc) hN ⟨by omega, by omega⟩ ?_
        refine x_aload rfl ?_
        refine x_iload rfl ?_
        refine x_ci ?_
        refine x_iadd ?_
        refine x_83_0 (hp0 hc) hN ⟨by omega, by omega⟩ ?_
        have f2 := hxs (i + 2).toNat
        have f4 := hxs (i + 4).toNat
        refine n_if_eq ⟨by omega, by omega⟩ (fun c3 => ?_) (fun c3 => ?_)
        · refine x_ci ?_
          refine x_fall ?_
          refine n_call [vR _, vI _, vI _] [] (by omega) (Nat.le_of_ble_eq_true rfl) rfl rfl (Nat.le_of_ble_eq_true rfl) ?_
          refine wpM_mono (p_cross hI (by omega) (hxs _) (by omega)) (fun vqq h2 e => ?_)
          obtain ⟨⟨r, rfl⟩, tqq, rfl, e2⟩ := e
          show wp PP _ _ _ [some (vR _), some (vR _), some (vR _), some (vR _), some (vI _), _, _] [vI _] _ _
          refine x_aload rfl ?_
          refine x_aload rfl ?_
          refine x_iload rfl ?_
          refine x_ci ?_
          refine x_iadd ?_
          refine x_83_0 (hp0 hc) hN ⟨by omega, by omega⟩ ?_
          refine x_aload rfl ?_
          refine x_iload rfl ?_
          refine x_ci ?_
          refine x_iadd ?_
          refine x_83_0 (hp0 hc) hN ⟨by omega, by omega⟩ ?_
          have f2 := hxs (i + 2).toNat
          have f4 := hxs (i + 4).toNat
          refine n_if_eq ⟨by omega, by omega⟩ (fun _ => ?_) (fun c9 => by exfalso; omega)
          refine x_ci ?_
          refine x_fall ?_
          refine n_call [vR _, vI _, vI _] [vI _] (by omega) (Nat.le_of_ble_eq_true rfl) rfl rfl (Nat.le_of_ble_eq_true rfl) ?_
          refine wpM_mono e2 (fun vqq h2 e => ?_)
          obtain ⟨uqq, rfl, hI2, rfl⟩ := e
          show wp PP _ _ _ [some (vR _), some (vR _), some (vR _), some (vR _), some (vI _), _, _] [vI _, vI _] _ _
          refine x_icmp_eq (fun _ => ?_) (fun c9 => absurd rfl c9)
          exact h54 _ _ hc hI2
        · refine x_ci ?_
          refine x_goto ?_
          refine n_call [vR _, vI _, vI _] [] (by omega) (Nat.le_of_ble_eq_true rfl) rfl rfl (Nat.le_of_ble_eq_true rfl) ?_
          refine wpM_mono (p_cross hI (by omega) (hxs _) (by omega)) (fun vqq h2 e => ?_)
          obtain ⟨⟨r, rfl⟩, tqq, rfl, e2⟩ := e
          show wp PP _ _ _ [some (vR _), some (vR _), some (vR _), some (vR _), some (vI _), _, _] [vI _] _ _
          refine x_aload rfl ?_
          refine x_aload rfl ?_
          refine x_iload rfl ?_
          refine x_ci ?_
          refine x_iadd ?_
          refine x_83_0 (hp0 hc) hN ⟨by omega, by omega⟩ ?_
          refine x_aload rfl ?_
          refine x_iload rfl ?_
          refine x_ci ?_
          refine x_iadd ?_
          refine x_83_0 (hp0 hc) hN ⟨by omega, by omega⟩ ?_
          have f2 := hxs (i + 2).toNat
          have f4 := hxs (i + 4).toNat
          refine n_if_eq ⟨by omega, by omega⟩ (fun c9 => by exfalso; omega) (fun _ => ?_)
          refine x_ci ?_
          refine x_goto ?_
          refine n_call [vR _, vI _, vI _] [vI _] (by omega) (Nat.le_of_ble_eq_true rfl) rfl rfl (Nat.le_of_ble_eq_true rfl) ?_
          refine wpM_mono e2 (fun vqq h2 e => ?_)
          obtain ⟨uqq, rfl, hI2, rfl⟩ := e
          show wp PP _ _ _ [some (vR _), some (vR _), some (vR _), some (vR _), some (vI _), _, _] [vI _, vI _] _ _
          refine x_icmp_eq (fun _ => ?_) (fun c9 => absurd rfl c9)
          exact h54 _ _ hc hI2
      · refine x_aload rfl ?_
        refine x_aload rfl ?_
        refine x_iload rfl ?_
        refine x_ci ?_
        refine x_iadd ?_
        refine x_83_0 (hp0 hc) hN ⟨by omega, by omega⟩ ?_
        refine n_call [vR _, vI _] [] (by omega) (Nat.le_of_ble_eq_true rfl) rfl rfl (Nat.le_of_ble_eq_true rfl) ?_
        refine wpM_mono (p_letGo hI (by omega) (hxs _)) (fun vqq h2 e => ?_)
        obtain ⟨⟨r, rfl⟩, tqq, rfl, e2⟩ := e
        show wp PP _ _ _ [some (vR _), some (vR _), some (vR _), some (vR _), some (vI _), _, _] [vI _] _ _
        refine x_aload rfl ?_
        refine x_aload rfl ?_
        refine x_iload rfl ?_
        refine x_ci ?_
        refine x_iadd ?_
        refine x_83_0 (hp0 hc) hN ⟨by omega, by omega⟩ ?_
        refine n_call [vR _, vI _] [vI _] (by omega) (Nat.le_of_ble_eq_true rfl) rfl rfl (Nat.le_of_ble_eq_true rfl) ?_
        refine wpM_mono e2 (fun vqq h2 e => ?_)
        obtain ⟨uqq, rfl, hI2, rfl⟩ := e
        show wp PP _ _ _ [some (vR _), some (vR _), some (vR _), some (vR _), some (vI _), _, _] [vI _, vI _] _ _
        refine x_icmp_eq (fun _ => ?_) (fun c9 => absurd rfl c9)
        exact h54 _ _ hc hI2
      · refine x_aload rfl ?_
        refine x_aload rfl ?_
        refine x_iload rfl ?_
        refine x_ci ?_
        refine x_iadd ?_
        refine x_83_0 (hp0 hc) hN ⟨by omega, by omega⟩ ?_
        refine n_call [vR _, vI _] [] (by omega) (Nat.le_of_ble_eq_true rfl) rfl rfl (Nat.le_of_ble_eq_true rfl) ?_
        refine wpM_mono (p_swap hI (by omega) (hxs _)) (fun vqq h2 e => ?_)
        obtain ⟨⟨r, rfl⟩, tqq, rfl, e2⟩ := e
        show wp PP _ _ _ [some (vR _), some (vR _), some (vR _), some (vR _), some (vI _), _, _] [vI _] _ _
        refine x_aload rfl ?_
        refine x_aload rfl ?_
        refine x_iload rfl ?_
        refine x_ci ?_
        refine x_iadd ?_
        refine x_83_0 (hp0 hc) hN ⟨by omega, by omega⟩ ?_
        refine n_call [vR _, vI _] [vI _] (by omega) (Nat.le_of_ble_eq_true rfl) rfl rfl (Nat.le_of_ble_eq_true rfl) ?_
        refine wpM_mono e2 (fun vqq h2 e => ?_)
        obtain ⟨uqq, rfl, hI2, rfl⟩ := e
        show wp PP _ _ _ [some (vR _), some (vR _), some (vR _), some (vR _), some (vI _), _, _] [vI _, vI _] _ _
        refine x_icmp_eq (fun _ => ?_) (fun c9 => absurd rfl c9)
        exact h54 _ _ hc hI2
      · refine x_aload rfl ?_
        refine x_aload rfl ?_
        refine x_iload rfl ?_
        refine x_ci ?_
        refine x_iadd ?_
        refine x_83_0 (hp0 hc) hN ⟨by omega, by omega⟩ ?_
        refine n_call [vR _, vI _] [] (by omega) (Nat.le_of_ble_eq_true rfl) rfl rfl (Nat.le_of_ble_eq_true rfl) ?_
        refine wpM_mono (p_cancel hI (by omega) (hxs _)) (fun vqq h2 e => ?_)
        obtain ⟨⟨r, rfl⟩, tqq, rfl, e2⟩ := e
        show wp PP _ _ _ [some (vR _), some (vR _), some (vR _), some (vR _), some (vI _), _, _] [vI _] _ _
        refine x_aload rfl ?_
        refine x_aload rfl ?_
        refine x_iload rfl ?_
        refine x_ci ?_
        refine x_iadd ?_
        refine x_83_0 (hp0 hc) hN ⟨by omega, by omega⟩ ?_
        refine n_call [vR _, vI _] [vI _] (by omega) (Nat.le_of_ble_eq_true rfl) rfl rfl (Nat.le_of_ble_eq_true rfl) ?_
        refine wpM_mono e2 (fun vqq h2 e => ?_)
        obtain ⟨uqq, rfl, hI2, rfl⟩ := e
        show wp PP _ _ _ [some (vR _), some (vR _), some (vR _), some (vR _), some (vI _), _, _] [vI _, vI _] _ _
        refine x_icmp_eq (fun _ => ?_) (fun c9 => absurd rfl c9)
        exact h54 _ _ hc hI2
      · refine x_aload rfl ?_
        refine x_aload rfl ?_
        refine x_iload rfl ?_
        refine x_ci ?_
        refine x_iadd ?_
        refine x_83_0 (hp0 hc) hN ⟨by omega, by omega⟩ ?_
        refine n_call [vR _, vI _] [] (by omega) (Nat.le_of_ble_eq_true rfl) rfl rfl (Nat.le_of_ble_eq_true rfl) ?_
        refine wpM_mono (p_slide hI (by omega) (hxs _)) (fun vqq h2 e => ?_)
        obtain ⟨⟨r, rfl⟩, tqq, rfl, e2⟩ := e
        show wp PP _ _ _ [some (vR _), some (vR _), some (vR _), some (vR _), some (vI _), _, _] [vI _] _ _
        refine x_aload rfl ?_
        refine x_aload rfl ?_
        refine x_iload rfl ?_
        refine x_ci ?_
        refine x_iadd ?_
        refine x_83_0 (hp0 hc) hN ⟨by omega, by omega⟩ ?_
        refine n_call [vR _, vI _] [vI _] (by omega) (Nat.le_of_ble_eq_true rfl) rfl rfl (Nat.le_of_ble_eq_true rfl) ?_
        refine wpM_mono e2 (fun vqq h2 e => ?_)
        obtain ⟨uqq, rfl, hI2, rfl⟩ := e
        show wp PP _ _ _ [some (vR _), some (vR _), some (vR _), some (vR _), some (vI _), _, _] [vI _, vI _] _ _
        refine x_icmp_eq (fun _ => ?_) (fun c9 => absurd rfl c9)
        exact h54 _ _ hc hI2
      · refine x_aload rfl ?_
        refine x_aload rfl ?_
        refine x_iload rfl ?_
        refine x_ci ?_
        refine x_iadd ?_
        refine x_83_0 (hp0 hc) hN ⟨by omega, by omega⟩ ?_
        refine x_aload rfl ?_
        refine x_iload rfl ?_
        refine x_ci ?_
        refine x_iadd ?_
        refine x_83_0 (hp0 hc) hN ⟨by omega, by omega⟩ ?_
        refine n_call [vR _, vI _, vI _] [] (by omega) (Nat.le_of_ble_eq_true rfl) rfl rfl (Nat.le_of_ble_eq_true rfl) ?_
        refine wpM_mono (p_feast hI (by omega) (hxs _) (hxs _)) (fun vqq h2 e => ?_)
        obtain ⟨⟨r, rfl⟩, tqq, rfl, e2⟩ := e
        show wp PP _ _ _ [some (vR _), some (vR _), some (vR _), some (vR _), some (vI _), _, _] [vI _] _ _
        refine x_aload rfl ?_
        refine x_aload rfl ?_
        refine x_iload rfl ?_
        refine x_ci ?_
        refine x_iadd ?_
        refine x_83_0 (hp0 hc) hN ⟨by omega, by omega⟩ ?_
        refine x_aload rfl ?_
        refine x_iload rfl ?_
        refine x_ci ?_
        refine x_iadd ?_
        refine x_83_0 (hp0 hc) hN ⟨by omega, by omega⟩ ?_
        refine n_call [vR _, vI _, vI _] [vI _] (by omega) (Nat.le_of_ble_eq_true rfl) rfl rfl (Nat.le_of_ble_eq_true rfl) ?_
        refine wpM_mono e2 (fun vqq h2 e => ?_)
        obtain ⟨uqq, rfl, hI2, rfl⟩ := e
        show wp PP _ _ _ [some (vR _), some (vR _), some (vR _), some (vR _), some (vI _), _, _] [vI _, vI _] _ _
        refine x_icmp_eq (fun _ => ?_) (fun c9 => absurd rfl c9)
        exact h54 _ _ hc hI2
      · refine x_aload rfl ?_
        refine x_aload rfl ?_
        refine x_iload rfl ?_
        refine x_ci ?_
        refine x_iadd ?_
        refine x_83_0 (hp0 hc) hN ⟨by omega, by omega⟩ ?_
        refine n_call [vR _, vI _] [] (by omega) (Nat.le_of_ble_eq_true rfl) rfl rfl (Nat.le_of_ble_eq_true rfl) ?_
        refine wpM_mono (p_go hI (by omega) (hxs _)) (fun vqq h2 e => ?_)
        obtain ⟨⟨r, rfl⟩, tqq, rfl, e2⟩ := e
        show wp PP _ _ _ [some (vR _), some (vR _), some (vR _), some (vR _), some (vI _), _, _] [vI _] _ _
        refine x_aload rfl ?_
        refine x_aload rfl ?_
        refine x_iload rfl ?_
        refine x_ci ?_
        refine x_iadd ?_
        refine x_83_0 (hp0 hc) hN ⟨by omega, by omega⟩ ?_
        refine n_call [vR _, vI _] [vI _] (by omega) (Nat.le_of_ble_eq_true rfl) rfl rfl (Nat.le_of_ble_eq_true rfl) ?_
        refine wpM_mono e2 (fun vqq h2 e => ?_)
        obtain ⟨uqq, rfl, hI2, rfl⟩ := e
        show wp PP _ _ _ [some (vR _), some (vR _), some (vR _), some (vR _), some (vI _), _, _] [vI _, vI _] _ _
        refine x_icmp_eq (fun _ => ?_) (fun c9 => absurd rfl c9)
        exact h54 _ _ hc hI2
      · refine x_aload rfl ?_
        refine x_aload rfl ?_
        refine x_iload rfl ?_
        refine x_ci ?_
        refine x_iadd ?_
        refine x_83_0 (hp0 hc) hN ⟨by omega, by omega⟩ ?_
        refine x_aload rfl ?_
        refine x_iload rfl ?_
        refine x_ci ?_
        refine x_iadd ?_
        refine x_83_0 (hp0 hc) hN ⟨by omega, by omega⟩ ?_
        refine n_call [vR _, vI _, vI _] [] (by omega) (Nat.le_of_ble_eq_true rfl) rfl rfl (Nat.le_of_ble_eq_true rfl) ?_
        refine wpM_mono (p_ahead hI (by omega) (hxs _) (hxs _)) (fun vqq h2 e => ?_)
        obtain ⟨⟨r, rfl⟩, tqq, rfl, e2⟩ := e
        show wp PP _ _ _ [some (vR _), some (vR _), some (vR _), some (vR _), some (vI _), _, _] [vI _] _ _
        refine x_aload rfl ?_
        refine x_aload rfl ?_
        refine x_iload rfl ?_
        refine x_ci ?_
        refine x_iadd ?_
        refine x_83_0 (hp0 hc) hN ⟨by omega, by omega⟩ ?_
        refine x_aload rfl ?_
        refine x_iload rfl ?_
        refine x_ci ?_
        refine x_iadd ?_
        refine x_83_0 (hp0 hc) hN ⟨by omega, by omega⟩ ?_
        refine n_call [vR _, vI _, vI _] [vI _] (by omega) (Nat.le_of_ble_eq_true rfl) rfl rfl (Nat.le_of_ble_eq_true rfl) ?_
        refine wpM_mono e2 (fun vqq h2 e => ?_)
        obtain ⟨uqq, rfl, hI2, rfl⟩ := e
        show wp PP _ _ _ [some (vR _), some (vR _), some (vR _), some (vR _), some (vI _), _, _] [vI _, vI _] _ _
        refine x_icmp_eq (fun _ => ?_) (fun c9 => absurd rfl c9)
        exact h54 _ _ hc hI2
      · refine x_aload rfl ?_
        refine n_call [vR _] [] (by omega) (Nat.le_of_ble_eq_true rfl) rfl rfl (Nat.le_of_ble_eq_true rfl) ?_
        refine wpM_mono (p_lean hI (by omega) ) (fun vqq h2 e => ?_)
        obtain ⟨⟨r, rfl⟩, tqq, rfl, e2⟩ := e
        show wp PP _ _ _ [some (vR _), some (vR _), some (vR _), some (vR _), some (vI _), _, _] [vI _] _ _
        refine x_aload rfl ?_
        refine n_call [vR _] [vI _] (by omega) (Nat.le_of_ble_eq_true rfl) rfl rfl (Nat.le_of_ble_eq_true rfl) ?_
        refine wpM_mono e2 (fun vqq h2 e => ?_)
        obtain ⟨uqq, rfl, hI2, rfl⟩ := e
        show wp PP _ _ _ [some (vR _), some (vR _), some (vR _), some (vR _), some (vI _), _, _] [vI _, vI _] _ _
        refine x_icmp_eq (fun _ => ?_) (fun c9 => absurd rfl c9)
        exact h54 _ _ hc hI2
      · refine x_aload rfl ?_
        refine x_aload rfl ?_
        refine x_iload rfl ?_
        refine x_ci ?_
        refine x_iadd ?_
        refine x_83_0 (hp0 hc) hN ⟨by omega, by omega⟩ ?_
        refine n_call [vR _, vI _] [] (by omega) (Nat.le_of_ble_eq_true rfl) rfl rfl (Nat.le_of_ble_eq_true rfl) ?_
        refine wpM_mono (p_danceBack hI (by omega) (hxs _)) (fun vqq h2 e => ?_)
        obtain ⟨⟨r, rfl⟩, tqq, rfl, e2⟩ := e
        show wp PP _ _ _ [some (vR _), some (vR _), some (vR _), some (vR _), some (vI _), _, _] [vI _] _ _
        refine x_aload rfl ?_
        refine x_aload rfl ?_
        refine x_iload rfl ?_
        refine x_ci ?_
        refine x_iadd ?_
        refine x_83_0 (hp0 hc) hN ⟨by omega, by omega⟩ ?_
        refine n_call [vR _, vI _] [vI _] (by omega) (Nat.le_of_ble_eq_true rfl) rfl rfl (Nat.le_of_ble_eq_true rfl) ?_
        refine wpM_mono e2 (fun vqq h2 e => ?_)
        obtain ⟨uqq, rfl, hI2, rfl⟩ := e
        show wp PP _ _ _ [some (vR _), some (vR _), some (vR _), some (vR _), some (vI _), _, _] [vI _, vI _] _ _
        refine x_icmp_eq (fun _ => ?_) (fun c9 => absurd rfl c9)
        exact h54 _ _ hc hI2
      · refine x_aload rfl ?_
        refine x_aload rfl ?_
        refine x_iload rfl ?_
        refine x_ci ?_
        refine x_iadd ?_
        refine x_83_0 (hp0 hc) hN ⟨by omega, by omega⟩ ?_
        refine x_aload rfl ?_
        refine x_iload rfl ?_
        refine x_ci ?_
        refine x_iadd ?_
        refine x_83_0 (hp0 hc) hN ⟨by omega, by omega⟩ ?_
        refine n_call [vR _, vI _, vI _] [] (by omega) (Nat.le_of_ble_eq_true rfl) rfl rfl (Nat.le_of_ble_eq_true rfl) ?_
        refine wpM_mono (p_make hI (by omega) (hxs _) (hxs _)) (fun vqq h2 e => ?_)
        obtain ⟨⟨r, rfl⟩, tqq, rfl, e2⟩ := e
        show wp PP _ _ _ [some (vR _), some (vR _), some (vR _), some (vR _), some (vI _), _, _] [vI _] _ _
        refine x_aload rfl ?_
        refine x_aload rfl ?_
        refine x_iload rfl ?_
        refine x_ci ?_
        refine x_iadd ?_
        refine x_83_0 (hp0 hc) hN ⟨by omega, by omega⟩ ?_
        refine x_aload rfl ?_
        refine x_iload rfl ?_
        refine x_ci ?_
        refine x_iadd ?_
        refine x_83_0 (hp0 hc) hN ⟨by omega, by omega⟩ ?_
        refine n_call [vR _, vI _, vI _] [vI _] (by omega) (Nat.le_of_ble_eq_true rfl) rfl rfl (Nat.le_of_ble_eq_true rfl) ?_
        refine wpM_mono e2 (fun vqq h2 e => ?_)
        obtain ⟨uqq, rfl, hI2, rfl⟩ := e
        show wp PP _ _ _ [some (vR _), some (vR _), some (vR _), some (vR _), some (vI _), _, _] [vI _, vI _] _ _
        refine x_icmp_eq (fun _ => ?_) (fun c9 => absurd rfl c9)
        exact h54 _ _ hc hI2
      · refine x_aload rfl ?_
        refine x_aload rfl ?_
        refine x_iload rfl ?_
        refine x_ci ?_
        refine x_iadd ?_
        refine x_83_0 (hp0 hc) hN ⟨by omega, by omega⟩ ?_
        refine n_call [vR _, vI _] [] (by omega) (Nat.le_of_ble_eq_true rfl) rfl rfl (Nat.le_of_ble_eq_true rfl) ?_
        refine wpM_mono (p_looseRows hI (by omega) (hxs _)) (fun vqq h2 e => ?_)
        obtain ⟨⟨r, rfl⟩, tqq, rfl, e2⟩ := e
        show wp PP _ _ _ [some (vR _), some (vR _), some (vR _), some (vR _), some (vI _), _, _] [vI _] _ _
        refine x_aload rfl ?_
        refine x_aload rfl ?_
        refine x_iload rfl ?_
        refine x_ci ?_
        refine x_iadd ?_
        refine x_83_0 (hp0 hc) hN ⟨by omega, by omega⟩ ?_
        refine n_call [vR _, vI _] [vI _] (by omega) (Nat.le_of_ble_eq_true rfl) rfl rfl (Nat.le_of_ble_eq_true rfl) ?_
        refine wpM_mono e2 (fun vqq h2 e => ?_)
        obtain ⟨uqq, rfl, hI2, rfl⟩ := e
        show wp PP _ _ _ [some (vR _), some (vR _), some (vR _), some (vR _), some (vI _), _, _] [vI _, vI _] _ _
        refine x_icmp_eq (fun _ => ?_) (fun c9 => absurd rfl c9)
        exact h54 _ _ hc hI2
      · refine x_aload rfl ?_
        refine x_aload rfl ?_
        refine x_iload rfl ?_
        refine x_ci ?_
        refine x_iadd ?_
        refine x_83_0 (hp0 hc) hN ⟨by omega, by omega⟩ ?_
        refine x_aload rfl ?_
        refine x_iload rfl ?_
        refine x_ci ?_
        refine x_iadd ?_
        refine x_83_0 (hp0 hc) hN ⟨by omega, by omega⟩ ?_
        refine x_aload rfl ?_
        refine x_iload rfl ?_
        refine x_ci ?_
        refine x_iadd ?_
        refine x_83_0 (hp0 hc) hN ⟨by omega, by omega⟩ ?_
        refine n_call [vR _, vI _, vI _, vI _] [] (by omega) (Nat.le_of_ble_eq_true rfl) rfl rfl (Nat.le_of_ble_eq_true rfl) ?_
        refine wpM_mono (p_tied hI (by omega) (hxs _) (hxs _) (hxs _)) (fun vqq h2 e => ?_)
        obtain ⟨⟨r, rfl⟩, tqq, rfl, e2⟩ := e
        show wp PP _ _ _ [some (vR _), some (vR _), some (vR _), some (vR _), some (vI _), _, _] [vI _] _ _
        refine x_aload rfl ?_
        refine x_aload rfl ?_
        refine x_iload rfl ?_
        refine x_ci ?_
        refine x_iadd ?_
        refine x_83_0 (hp0 hc) hN ⟨by omega, by omega⟩ ?_
        refine x_aload rfl ?_
        refine x_iload rfl ?_
        refine x_ci ?_
        refine x_iadd ?_
        refine x_83_0 (hp0 hc) hN ⟨by omega, by omega⟩ ?_
        refine x_aload rfl ?_
        refine x_iload rfl ?_
        refine x_ci ?_
        refine x_iadd ?_
        refine x_83_0 (hp0 hc) hN ⟨by omega, by omega⟩ ?_
        refine n_call [vR _, vI _, vI _, vI _] [vI _] (by omega) (Nat.le_of_ble_eq_true rfl) rfl rfl (Nat.le_of_ble_eq_true rfl) ?_
        refine wpM_mono e2 (fun vqq h2 e => ?_)
        obtain ⟨uqq, rfl, hI2, rfl⟩ := e
        show wp PP _ _ _ [some (vR _), some (vR _), some (vR _), some (vR _), some (vI _), _, _] [vI _, vI _] _ _
        refine x_icmp_eq (fun _ => ?_) (fun c9 => absurd rfl c9)
        exact h54 _ _ hc hI2
      · refine x_aload rfl ?_
        refine x_aload rfl ?_
        refine x_iload rfl ?_
        refine x_ci ?_
        refine x_iadd ?_
        refine x_83_0 (hp0 hc) hN ⟨by omega, by omega⟩ ?_
        refine n_call [vR _, vI _] [] (by omega) (Nat.le_of_ble_eq_true rfl) rfl rfl (Nat.le_of_ble_eq_true rfl) ?_
        refine wpM_mono (p_freed hI (by omega) (hxs _)) (fun vqq h2 e => ?_)
        obtain ⟨⟨r, rfl⟩, tqq, rfl, e2⟩ := e
        show wp PP _ _ _ [some (vR _), some (vR _), some (vR _), some (vR _), some (vI _), _, _] [vI _] _ _
        refine x_aload rfl ?_
        refine x_aload rfl ?_
        refine x_iload rfl ?_
        refine x_ci ?_
        refine x_iadd ?_
        refine x_83_0 (hp0 hc) hN ⟨by omega, by omega⟩ ?_
        refine n_call [vR _, vI _] [vI _] (by omega) (Nat.le_of_ble_eq_true rfl) rfl rfl (Nat.le_of_ble_eq_true rfl) ?_
        refine wpM_mono e2 (fun vqq h2 e => ?_)
        obtain ⟨uqq, rfl, hI2, rfl⟩ := e
        show wp PP _ _ _ [some (vR _), some (vR _), some (vR _), some (vR _), some (vI _), _, _] [vI _, vI _] _ _
        refine x_icmp_eq (fun _ => ?_) (fun c9 => absurd rfl c9)
        exact h54 _ _ hc hI2
      · refine x_aload rfl ?_
        refine x_aload rfl ?_
        refine x_iload rfl ?_
        refine x_ci ?_
        refine x_iadd ?_
        refine x_83_0 (hp0 hc) hN ⟨by omega, by omega⟩ ?_
        refine x_aload rfl ?_
        refine x_iload rfl ?_
        refine x_ci ?_
        refine x_iadd ?_
        refine x_83_0 (hp0 hc) hN ⟨by omega, by omega⟩ ?_
        refine n_call [vR _, vI _, vI _] [] (by omega) (Nat.le_of_ble_eq_true rfl) rfl rfl (Nat.le_of_ble_eq_true rfl) ?_
        refine wpM_mono (p_holds hI (by omega) (hxs _) (hxs _)) (fun vqq h2 e => ?_)
        obtain ⟨⟨r, rfl⟩, tqq, rfl, e2⟩ := e
        show wp PP _ _ _ [some (vR _), some (vR _), some (vR _), some (vR _), some (vI _), _, _] [vL _] _ _
        refine x_aload rfl ?_
        refine x_aload rfl ?_
        refine x_iload rfl ?_
        refine x_ci ?_
        refine x_iadd ?_
        refine x_83_0 (hp0 hc) hN ⟨by omega, by omega⟩ ?_
        refine x_aload rfl ?_
        refine x_iload rfl ?_
        refine x_ci ?_
        refine x_iadd ?_
        refine x_83_0 (hp0 hc) hN ⟨by omega, by omega⟩ ?_
        refine n_call [vR _, vI _, vI _] [vL _] (by omega) (Nat.le_of_ble_eq_true rfl) rfl rfl (Nat.le_of_ble_eq_true rfl) ?_
        refine wpM_mono e2 (fun vqq h2 e => ?_)
        obtain ⟨uqq, rfl, hI2, rfl⟩ := e
        show wp PP _ _ _ [some (vR _), some (vR _), some (vR _), some (vR _), some (vI _), _, _] [vL _, vL _] _ _
        refine x_lcmp ?_
        refine t_I 0 (lc_same r) ?_
        refine n_if_eq ⟨by omega, by omega⟩ (fun _ => ?_) (fun c9 => absurd rfl c9)
        exact h54 _ _ hc hI2
      · refine x_aload rfl ?_
        refine x_aload rfl ?_
        refine x_iload rfl ?_
        refine x_ci ?_
        refine x_iadd ?_
        refine x_83_0 (hp0 hc) hN ⟨by omega, by omega⟩ ?_
        refine x_aload rfl ?_
        refine x_iload rfl ?_
        refine x_ci ?_
        refine x_iadd ?_
        refine x_83_0 (hp0 hc) hN ⟨by omega, by omega⟩ ?_
        refine x_aload rfl ?_
        refine x_iload rfl ?_
        refine x_ci ?_
        refine x_iadd ?_
        refine x_83_0 (hp0 hc) hN ⟨by omega, by omega⟩ ?_
        refine x_aload rfl ?_
        refine x_iload rfl ?_
        refine x_ci ?_
        refine x_iadd ?_
        refine x_83_0 (hp0 hc) hN ⟨by omega, by omega⟩ ?_
        have f2 := hxs (i + 2).toNat
        have f4 := hxs (i + 4).toNat
        refine n_if_eq ⟨by omega, by omega⟩ (fun c3 => ?_) (fun c3 => ?_)
        · refine x_ci ?_
          refine x_fall ?_
          refine n_call [vR _, vI _, vI _, vI _, vI _] [] (by omega) (Nat.le_of_ble_eq_true rfl) rfl rfl (Nat.le_of_ble_eq_true rfl) ?_
          refine wpM_mono (p_read hI (by omega) (hxs _) (hxs _) (hxs _) (by omega)) (fun vqq h2 e => ?_)
          obtain ⟨⟨r, rfl⟩, tqq, rfl, e2⟩ := e
          show wp PP _ _ _ [some (vR _), some (vR _), some (vR _), some (vR _), some (vI _), _, _] [vI _] _ _
          refine x_aload rfl ?_
          refine x_aload rfl ?_
          refine x_iload rfl ?_
          refine x_ci ?_
          refine x_iadd ?_
          refine x_83_0 (hp0 hc) hN ⟨by omega, by omega⟩ ?_
          refine x_aload rfl ?_
          refine x_iload rfl ?_
          refine x_ci ?_
          refine x_iadd ?_
          refine x_83_0 (hp0 hc) hN ⟨by omega, by omega⟩ ?_
          refine x_aload rfl ?_
          refine x_iload rfl ?_
          refine x_ci ?_
          refine x_iadd ?_
          refine x_83_0 (hp0 hc) hN ⟨by omega, by omega⟩ ?_
          refine x_aload rfl ?_
          refine x_iload rfl ?_
          refine x_ci ?_
          refine x_iadd ?_
          refine x_83_0 (hp0 hc) hN ⟨by omega, by omega⟩ ?_
          have f2 := hxs (i + 2).toNat
          have f4 := hxs (i + 4).toNat
          refine n_if_eq ⟨by omega, by omega⟩ (fun _ => ?_) (fun c9 => by exfalso; omega)
          refine x_ci ?_
          refine x_fall ?_
          refine n_call [vR _, vI _, vI _, vI _, vI _] [vI _] (by omega) (Nat.le_of_ble_eq_true rfl) rfl rfl (Nat.le_of_ble_eq_true rfl) ?_
          refine wpM_mono e2 (fun vqq h2 e => ?_)
          obtain ⟨uqq, rfl, hI2, rfl⟩ := e
          show wp PP _ _ _ [some (vR _), some (vR _), some (vR _), some (vR _), some (vI _), _, _] [vI _, vI _] _ _
          refine x_icmp_eq (fun _ => ?_) (fun c9 => absurd rfl c9)
          exact h54 _ _ hc hI2
        · refine x_ci ?_
          refine x_goto ?_
          refine n_call [vR _, vI _, vI _, vI _, vI _] [] (by omega) (Nat.le_of_ble_eq_true rfl) rfl rfl (Nat.le_of_ble_eq_true rfl) ?_
          refine wpM_mono (p_read hI (by omega) (hxs _) (hxs _) (hxs _) (by omega)) (fun vqq h2 e => ?_)
          obtain ⟨⟨r, rfl⟩, tqq, rfl, e2⟩ := e
          show wp PP _ _ _ [some (vR _), some (vR _), some (vR _), some (vR _), some (vI _), _, _] [vI _] _ _
          refine x_aload rfl ?_
          refine x_aload rfl ?_
          refine x_iload rfl ?_
          refine x_ci ?_
          refine x_iadd ?_
          refine x_83_0 (hp0 hc) hN ⟨by omega, by omega⟩ ?_
          refine x_aload rfl ?_
          refine x_iload rfl ?_
          refine x_ci ?_
          refine x_iadd ?_
          refine x_83_0 (hp0 hc) hN ⟨by omega, by omega⟩ ?_
          refine x_aload rfl ?_
          refine x_iload rfl ?_
          refine x_ci ?_
          refine x_iadd ?_
          refine x_83_0 (hp0 hc) hN ⟨by omega, by omega⟩ ?_
          refine x_aload rfl ?_
          refine x_iload rfl ?_
          refine x_ci ?_
          refine x_iadd ?_
          refine x_83_0 (hp0 hc) hN ⟨by omega, by omega⟩ ?_
          have f2 := hxs (i + 2).toNat
          have f4 := hxs (i + 4).toNat
          refine n_if_eq ⟨by omega, by omega⟩ (fun c9 => by exfalso; omega) (fun _ => ?_)
          refine x_ci ?_
          refine x_goto ?_
          refine n_call [vR _, vI _, vI _, vI _, vI _] [vI _] (by omega) (Nat.le_of_ble_eq_true rfl) rfl rfl (Nat.le_of_ble_eq_true rfl) ?_
          refine wpM_mono e2 (fun vqq h2 e => ?_)
          obtain ⟨uqq, rfl, hI2, rfl⟩ := e
          show wp PP _ _ _ [some (vR _), some (vR _), some (vR _), some (vR _), some (vI _), _, _] [vI _, vI _] _ _
          refine x_icmp_eq (fun _ => ?_) (fun c9 => absurd rfl c9)
          exact h54 _ _ hc hI2
      · refine x_aload rfl ?_
        refine x_aload rfl ?_
        refine x_iload rfl ?_
        refine x_ci ?_
        refine x_iadd ?_
        refine x_83_0 (hp0 hc) hN ⟨by omega, by omega⟩ ?_
        refine x_aload rfl ?_
        refine x_iload rfl ?_
        refine x_ci ?_
        refine x_iadd ?_
        refine x_83_0 (hp0 hc) hN ⟨by omega, by omega⟩ ?_
        refine x_aload rfl ?_
        refine x_iload rfl ?_
        refine x_ci ?_
        refine x_iadd ?_
        refine x_83_0 (hp0 hc) hN ⟨by omega, by omega⟩ ?_
        refine x_aload rfl ?_
        refine x_iload rfl ?_
        refine x_ci ?_
        refine x_iadd ?_
        refine x_83_0 (hp0 hc) hN ⟨by omega, by omega⟩ ?_
        have f2 := hxs (i + 2).toNat
        have f4 := hxs (i + 4).toNat
        refine n_if_eq ⟨by omega, by omega⟩ (fun c3 => ?_) (fun c3 => ?_)
        · refine x_ci ?_
          refine x_fall ?_
          refine n_call [vR _, vI _, vI _, vI _, vI _] [] (by omega) (Nat.le_of_ble_eq_true rfl) rfl rfl (Nat.le_of_ble_eq_true rfl) ?_
          refine wpM_mono (p_readBond hI (by omega) (hxs _) (hxs _) (hxs _) (by omega)) (fun vqq h2 e => ?_)
          obtain ⟨⟨r, rfl⟩, tqq, rfl, e2⟩ := e
          show wp PP _ _ _ [some (vR _), some (vR _), some (vR _), some (vR _), some (vI _), _, _] [vI _] _ _
          refine x_aload rfl ?_
          refine x_aload rfl ?_
          refine x_iload rfl ?_
          refine x_ci ?_
          refine x_iadd ?_
          refine x_83_0 (hp0 hc) hN ⟨by omega, by omega⟩ ?_
          refine x_aload rfl ?_
          refine x_iload rfl ?_
          refine x_ci ?_
          refine x_iadd ?_
          refine x_83_0 (hp0 hc) hN ⟨by omega, by omega⟩ ?_
          refine x_aload rfl ?_
          refine x_iload rfl ?_
          refine x_ci ?_
          refine x_iadd ?_
          refine x_83_0 (hp0 hc) hN ⟨by omega, by omega⟩ ?_
          refine x_aload rfl ?_
          refine x_iload rfl ?_
          refine x_ci ?_
          refine x_iadd ?_
          refine x_83_0 (hp0 hc) hN ⟨by omega, by omega⟩ ?_
          have f2 := hxs (i + 2).toNat
          have f4 := hxs (i + 4).toNat
          refine n_if_eq ⟨by omega, by omega⟩ (fun _ => ?_) (fun c9 => by exfalso; omega)
          refine x_ci ?_
          refine x_fall ?_
          refine n_call [vR _, vI _, vI _, vI _, vI _] [vI _] (by omega) (Nat.le_of_ble_eq_true rfl) rfl rfl (Nat.le_of_ble_eq_true rfl) ?_
          refine wpM_mono e2 (fun vqq h2 e => ?_)
          obtain ⟨uqq, rfl, hI2, rfl⟩ := e
          show wp PP _ _ _ [some (vR _), some (vR _), some (vR _), some (vR _), some (vI _), _, _] [vI _, vI _] _ _
          refine x_icmp_eq (fun _ => ?_) (fun c9 => absurd rfl c9)
          exact h54 _ _ hc hI2
        · refine x_ci ?_
          refine x_goto ?_
          refine n_call [vR _, vI _, vI _, vI _, vI _] [] (by omega) (Nat.le_of_ble_eq_true rfl) rfl rfl (Nat.le_of_ble_eq_true rfl) ?_
          refine wpM_mono (p_readBond hI (by omega) (hxs _) (hxs _) (hxs _) (by omega)) (fun vqq h2 e => ?_)
          obtain ⟨⟨r, rfl⟩, tqq, rfl, e2⟩ := e
          show wp PP _ _ _ [some (vR _), some (vR _), some (vR _), some (vR _), some (vI _), _, _] [vI _] _ _
          refine x_aload rfl ?_
          refine x_aload rfl ?_
          refine x_iload rfl ?_
          refine x_ci ?_
          refine x_iadd ?_
          refine x_83_0 (hp0 hc) hN ⟨by omega, by omega⟩ ?_
          refine x_aload rfl ?_
          refine x_iload rfl ?_
          refine x_ci ?_
          refine x_iadd ?_
          refine x_83_0 (hp0 hc) hN ⟨by omega, by omega⟩ ?_
          refine x_aload rfl ?_
          refine x_iload rfl ?_
          refine x_ci ?_
          refine x_iadd ?_
          refine x_83_0 (hp0 hc) hN ⟨by omega, by omega⟩ ?_
          refine x_aload rfl ?_
          refine x_iload rfl ?_
          refine x_ci ?_
          refine x_iadd ?_
          refine x_83_0 (hp0 hc) hN ⟨by omega, by omega⟩ ?_
          have f2 := hxs (i + 2).toNat
          have f4 := hxs (i + 4).toNat
          refine n_if_eq ⟨by omega, by omega⟩ (fun c9 => by exfalso; omega) (fun _ => ?_)
          refine x_ci ?_
          refine x_goto ?_
          refine n_call [vR _, vI _, vI _, vI _, vI _] [vI _] (by omega) (Nat.le_of_ble_eq_true rfl) rfl rfl (Nat.le_of_ble_eq_true rfl) ?_
          refine wpM_mono e2 (fun vqq h2 e => ?_)
          obtain ⟨uqq, rfl, hI2, rfl⟩ := e
          show wp PP _ _ _ [some (vR _), some (vR _), some (vR _), some (vR _), some (vI _), _, _] [vI _, vI _] _ _
          refine x_icmp_eq (fun _ => ?_) (fun c9 => absurd rfl c9)
          exact h54 _ _ hc hI2
      · refine x_aload rfl ?_
        refine x_aload rfl ?_
        refine x_iload rfl ?_
        refine x_ci ?_
        refine x_iadd ?_
        refine x_83_0 (hp0 hc) hN ⟨by omega, by omega⟩ ?_
        refine n_call [vR _, vI _] [] (by omega) (Nat.le_of_ble_eq_true rfl) rfl rfl (Nat.le_of_ble_eq_true rfl) ?_
        refine wpM_mono (p_strike hI (by omega) (hxs _)) (fun vqq h2 e => ?_)
        obtain ⟨⟨r, rfl⟩, tqq, rfl, e2⟩ := e
        show wp PP _ _ _ [some (vR _), some (vR _), some (vR _), some (vR _), some (vI _), _, _] [vI _] _ _
        refine x_aload rfl ?_
        refine x_aload rfl ?_
        refine x_iload rfl ?_
        refine x_ci ?_
        refine x_iadd ?_
        refine x_83_0 (hp0 hc) hN ⟨by omega, by omega⟩ ?_
        refine n_call [vR _, vI _] [vI _] (by omega) (Nat.le_of_ble_eq_true rfl) rfl rfl (Nat.le_of_ble_eq_true rfl) ?_
        refine wpM_mono e2 (fun vqq h2 e => ?_)
        obtain ⟨uqq, rfl, hI2, rfl⟩ := e
        show wp PP _ _ _ [some (vR _), some (vR _), some (vR _), some (vR _), some (vI _), _, _] [vI _, vI _] _ _
        refine x_icmp_eq (fun _ => ?_) (fun c9 => absurd rfl c9)
        exact h54 _ _ hc hI2
      · refine x_aload rfl ?_
        refine x_aload rfl ?_
        refine x_iload rfl ?_
        refine x_ci ?_
        refine x_iadd ?_
        refine x_83_0 (hp0 hc) hN ⟨by omega, by omega⟩ ?_
        refine n_call [vR _, vI _] [] (by omega) (Nat.le_of_ble_eq_true rfl) rfl rfl (Nat.le_of_ble_eq_true rfl) ?_
        refine wpM_mono (p_known hI (by omega) (hxs _)) (fun vqq h2 e => ?_)
        obtain ⟨⟨r, rfl⟩, tqq, rfl, e2⟩ := e
        show wp PP _ _ _ [some (vR _), some (vR _), some (vR _), some (vR _), some (vI _), _, _] [vI _] _ _
        refine x_aload rfl ?_
        refine x_aload rfl ?_
        refine x_iload rfl ?_
        refine x_ci ?_
        refine x_iadd ?_
        refine x_83_0 (hp0 hc) hN ⟨by omega, by omega⟩ ?_
        refine n_call [vR _, vI _] [vI _] (by omega) (Nat.le_of_ble_eq_true rfl) rfl rfl (Nat.le_of_ble_eq_true rfl) ?_
        refine wpM_mono e2 (fun vqq h2 e => ?_)
        obtain ⟨uqq, rfl, hI2, rfl⟩ := e
        show wp PP _ _ _ [some (vR _), some (vR _), some (vR _), some (vR _), some (vI _), _, _] [vI _, vI _] _ _
        refine x_icmp_eq (fun _ => ?_) (fun c9 => absurd rfl c9)
        exact h54 _ _ hc hI2
      · refine x_aload rfl ?_
        refine x_aload rfl ?_
        refine x_iload rfl ?_
        refine x_ci ?_
        refine x_iadd ?_
        refine x_83_0 (hp0 hc) hN ⟨by omega, by omega⟩ ?_
        refine n_call [vR _, vI _] [] (by omega) (Nat.le_of_ble_eq_true rfl) rfl rfl (Nat.le_of_ble_eq_true rfl) ?_
        refine wpM_mono (p_fits hI (by omega) (hxs _)) (fun vqq h2 e => ?_)
        obtain ⟨⟨r, rfl⟩, tqq, rfl, e2⟩ := e
        show wp PP _ _ _ [some (vR _), some (vR _), some (vR _), some (vR _), some (vI _), _, _] [vI _] _ _
        refine x_aload rfl ?_
        refine x_aload rfl ?_
        refine x_iload rfl ?_
        refine x_ci ?_
        refine x_iadd ?_
        refine x_83_0 (hp0 hc) hN ⟨by omega, by omega⟩ ?_
        refine n_call [vR _, vI _] [vI _] (by omega) (Nat.le_of_ble_eq_true rfl) rfl rfl (Nat.le_of_ble_eq_true rfl) ?_
        refine wpM_mono e2 (fun vqq h2 e => ?_)
        obtain ⟨uqq, rfl, hI2, rfl⟩ := e
        show wp PP _ _ _ [some (vR _), some (vR _), some (vR _), some (vR _), some (vI _), _, _] [vI _, vI _] _ _
        refine x_icmp_eq (fun _ => ?_) (fun c9 => absurd rfl c9)
        exact h54 _ _ hc hI2
      · refine x_aload rfl ?_
        refine x_aload rfl ?_
        refine x_iload rfl ?_
        refine x_ci ?_
        refine x_iadd ?_
        refine x_83_0 (hp0 hc) hN ⟨by omega, by omega⟩ ?_
        refine x_aload rfl ?_
        refine x_iload rfl ?_
        refine x_ci ?_
        refine x_iadd ?_
        refine x_83_0 (hp0 hc) hN ⟨by omega, by omega⟩ ?_
        refine n_call [vR _, vI _, vI _] [] (by omega) (Nat.le_of_ble_eq_true rfl) rfl rfl (Nat.le_of_ble_eq_true rfl) ?_
        refine wpM_mono (p_chance hI (by omega) (hxs _) (hxs _)) (fun vqq h2 e => ?_)
        obtain ⟨⟨r, rfl⟩, tqq, rfl, e2⟩ := e
        show wp PP _ _ _ [some (vR _), some (vR _), some (vR _), some (vR _), some (vI _), _, _] [vI _] _ _
        refine x_aload rfl ?_
        refine x_aload rfl ?_
        refine x_iload rfl ?_
        refine x_ci ?_
        refine x_iadd ?_
        refine x_83_0 (hp0 hc) hN ⟨by omega, by omega⟩ ?_
        refine x_aload rfl ?_
        refine x_iload rfl ?_
        refine x_ci ?_
        refine x_iadd ?_
        refine x_83_0 (hp0 hc) hN ⟨by omega, by omega⟩ ?_
        refine n_call [vR _, vI _, vI _] [vI _] (by omega) (Nat.le_of_ble_eq_true rfl) rfl rfl (Nat.le_of_ble_eq_true rfl) ?_
        refine wpM_mono e2 (fun vqq h2 e => ?_)
        obtain ⟨uqq, rfl, hI2, rfl⟩ := e
        show wp PP _ _ _ [some (vR _), some (vR _), some (vR _), some (vR _), some (vI _), _, _] [vI _, vI _] _ _
        refine x_icmp_eq (fun _ => ?_) (fun c9 => absurd rfl c9)
        exact h54 _ _ hc hI2
      · refine x_aload rfl ?_
        refine x_aload rfl ?_
        refine x_iload rfl ?_
        refine x_ci ?_
        refine x_iadd ?_
        refine x_83_0 (hp0 hc) hN ⟨by omega, by omega⟩ ?_
        refine x_aload rfl ?_
        refine x_iload rfl ?_
        refine x_ci ?_
        refine x_iadd ?_
        refine x_83_0 (hp0 hc) hN ⟨by omega, by omega⟩ ?_
        refine x_aload rfl ?_
        refine x_iload rfl ?_
        refine x_ci ?_
        refine x_iadd ?_
        refine x_83_0 (hp0 hc) hN ⟨by omega, by omega⟩ ?_
        refine n_call [vR _, vI _, vI _, vI _] [] (by omega) (Nat.le_of_ble_eq_true rfl) rfl rfl (Nat.le_of_ble_eq_true rfl) ?_
        refine wpM_mono (p_tried hI (by omega) (hxs _) (hxs _) (hxs _)) (fun vqq h2 e => ?_)
        obtain ⟨⟨r, rfl⟩, tqq, rfl, e2⟩ := e
        show wp PP _ _ _ [some (vR _), some (vR _), some (vR _), some (vR _), some (vI _), _, _] [vI _] _ _
        refine x_aload rfl ?_
        refine x_aload rfl ?_
        refine x_iload rfl ?_
        refine x_ci ?_
        refine x_iadd ?_
        refine x_83_0 (hp0 hc) hN ⟨by omega, by omega⟩ ?_
        refine x_aload rfl ?_
        refine x_iload rfl ?_
        refine x_ci ?_
        refine x_iadd ?_
        refine x_83_0 (hp0 hc) hN ⟨by omega, by omega⟩ ?_
        refine x_aload rfl ?_
        refine x_iload rfl ?_
        refine x_ci ?_
        refine x_iadd ?_
        refine x_83_0 (hp0 hc) hN ⟨by omega, by omega⟩ ?_
        refine n_call [vR _, vI _, vI _, vI _] [vI _] (by omega) (Nat.le_of_ble_eq_true rfl) rfl rfl (Nat.le_of_ble_eq_true rfl) ?_
        refine wpM_mono e2 (fun vqq h2 e => ?_)
        obtain ⟨uqq, rfl, hI2, rfl⟩ := e
        show wp PP _ _ _ [some (vR _), some (vR _), some (vR _), some (vR _), some (vI _), _, _] [vI _, vI _] _ _
        refine x_icmp_eq (fun _ => ?_) (fun c9 => absurd rfl c9)
        exact h54 _ _ hc hI2
      · refine x_aload rfl ?_
        refine n_call [vR _] [] (by omega) (Nat.le_of_ble_eq_true rfl) rfl rfl (Nat.le_of_ble_eq_true rfl) ?_
        refine wpM_mono (p_undo hI (by omega) ) (fun vqq h2 e => ?_)
        obtain ⟨⟨r, rfl⟩, tqq, rfl, e2⟩ := e
        show wp PP _ _ _ [some (vR _), some (vR _), some (vR _), some (vR _), some (vI _), _, _] [vI _] _ _
        refine x_aload rfl ?_
        refine n_call [vR _] [vI _] (by omega) (Nat.le_of_ble_eq_true rfl) rfl rfl (Nat.le_of_ble_eq_true rfl) ?_
        refine wpM_mono e2 (fun vqq h2 e => ?_)
        obtain ⟨uqq, rfl, hI2, rfl⟩ := e
        show wp PP _ _ _ [some (vR _), some (vR _), some (vR _), some (vR _), some (vI _), _, _] [vI _, vI _] _ _
        refine x_icmp_eq (fun _ => ?_) (fun c9 => absurd rfl c9)
        exact h54 _ _ hc hI2
      · refine x_aload rfl ?_
        refine n_call [vR _] [] (by omega) (Nat.le_of_ble_eq_true rfl) rfl rfl (Nat.le_of_ble_eq_true rfl) ?_
        refine wpM_mono (p_keep hI (by omega) ) (fun vqq h2 e => ?_)
        obtain ⟨⟨r, rfl⟩, tqq, rfl, e2⟩ := e
        show wp PP _ _ _ [some (vR _), some (vR _), some (vR _), some (vR _), some (vI _), _, _] [vI _] _ _
        refine x_aload rfl ?_
        refine n_call [vR _] [vI _] (by omega) (Nat.le_of_ble_eq_true rfl) rfl rfl (Nat.le_of_ble_eq_true rfl) ?_
        refine wpM_mono e2 (fun vqq h2 e => ?_)
        obtain ⟨uqq, rfl, hI2, rfl⟩ := e
        show wp PP _ _ _ [some (vR _), some (vR _), some (vR _), some (vR _), some (vI _), _, _] [vI _, vI _] _ _
        refine x_icmp_eq (fun _ => ?_) (fun c9 => absurd rfl c9)
        exact h54 _ _ hc hI2
      · refine x_aload rfl ?_
        refine n_call [vR _] [] (by omega) (Nat.le_of_ble_eq_true rfl) rfl rfl (Nat.le_of_ble_eq_true rfl) ?_
        refine wpM_mono (p_back hI (by omega) ) (fun vqq h2 e => ?_)
        obtain ⟨⟨r, rfl⟩, tqq, rfl, e2⟩ := e
        show wp PP _ _ _ [some (vR _), some (vR _), some (vR _), some (vR _), some (vI _), _, _] [vI _] _ _
        refine x_aload rfl ?_
        refine n_call [vR _] [vI _] (by omega) (Nat.le_of_ble_eq_true rfl) rfl rfl (Nat.le_of_ble_eq_true rfl) ?_
        refine wpM_mono e2 (fun vqq h2 e => ?_)
        obtain ⟨uqq, rfl, hI2, rfl⟩ := e
        show wp PP _ _ _ [some (vR _), some (vR _), some (vR _), some (vR _), some (vI _), _, _] [vI _, vI _] _ _
        refine x_icmp_eq (fun _ => ?_) (fun c9 => absurd rfl c9)
        exact h54 _ _ hc hI2
      · refine x_aload rfl ?_
        refine x_aload rfl ?_
        refine x_iload rfl ?_
        refine x_ci ?_
        refine x_iadd ?_
        refine x_83_0 (hp0 hc) hN ⟨by omega, by omega⟩ ?_
        refine n_call [vR _, vI _] [] (by omega) (Nat.le_of_ble_eq_true rfl) rfl rfl (Nat.le_of_ble_eq_true rfl) ?_
        refine wpM_mono (p_count hI (by omega) (hxs _)) (fun vqq h2 e => ?_)
        obtain ⟨⟨r, rfl⟩, tqq, rfl, e2⟩ := e
        show wp PP _ _ _ [some (vR _), some (vR _), some (vR _), some (vR _), some (vI _), _, _] [vI _] _ _
        refine x_aload rfl ?_
        refine x_aload rfl ?_
        refine x_iload rfl ?_
        refine x_ci ?_
        refine x_iadd ?_
        refine x_83_0 (hp0 hc) hN ⟨by omega, by omega⟩ ?_
        refine n_call [vR _, vI _] [vI _] (by omega) (Nat.le_of_ble_eq_true rfl) rfl rfl (Nat.le_of_ble_eq_true rfl) ?_
        refine wpM_mono e2 (fun vqq h2 e => ?_)
        obtain ⟨uqq, rfl, hI2, rfl⟩ := e
        show wp PP _ _ _ [some (vR _), some (vR _), some (vR _), some (vR _), some (vI _), _, _] [vI _, vI _] _ _
        refine x_icmp_eq (fun _ => ?_) (fun c9 => absurd rfl c9)
        exact h54 _ _ hc hI2
  exact L1 N 0 h0 s (by omega) hc hI
end LAWP
