/-! constructors: tables -/
def it0 : MethodName × ByteArray × Nat × Nat := (⟨"WordFolder$Octets", "<init>", "(I)V"⟩, prog_7_method_1_code, 2, 5)
def it1 : MethodName × ByteArray × Nat × Nat := (⟨"WordFolder$Sample", "<init>", "()V"⟩, prog_9_method_1_code, 1, 7)
def it2 : MethodName × ByteArray × Nat × Nat := (⟨"WordFolder$Tree", "<init>", "()V"⟩, prog_11_method_1_code, 1, 9)
def it3 : MethodName × ByteArray × Nat × Nat := (⟨"WordFolder$Fold", "<init>", "()V"⟩, prog_2_method_1_code, 1, 0)
def it4 : MethodName × ByteArray × Nat × Nat := (⟨"WordFolder$Learner", "<init>", "()V"⟩, prog_3_method_1_code, 1, 1)
def it5 : MethodName × ByteArray × Nat × Nat := (⟨"WordFolder$Machine", "<init>", "(I)V"⟩, prog_4_method_1_code, 2, 2)
def it6 : MethodName × ByteArray × Nat × Nat := (⟨"WordFolder$Search", "<init>", "()V"⟩, prog_10_method_1_code, 1, 8)
def it7 : MethodName × ByteArray × Nat × Nat := (⟨"WordFolder$Reader", "<init>", "()V"⟩, prog_8_method_1_code, 1, 6)
def it8 : MethodName × ByteArray × Nat × Nat := (⟨"WordFolder$Meter", "<init>", "()V"⟩, prog_5_method_1_code, 1, 3)
def it9 : MethodName × ByteArray × Nat × Nat := (⟨"WordFolder$Mill", "<init>", "()V"⟩, prog_6_method_1_code, 1, 4)
def it10 : MethodName × ByteArray × Nat × Nat := (⟨"WordFolder", "<init>", "()V"⟩, prog_1_method_1_code, 1, 11)
def it11 : MethodName × ByteArray × Nat × Nat := (⟨"WordFolderModel", "<init>", "()V"⟩, prog_14_method_38_code, 1, 12)
def itL : List (MethodName × ByteArray × Nat × Nat) := [it0, it1, it2, it3, it4, it5, it6, it7, it8, it9, it10, it11]
def it (k : Nat) : MethodName × ByteArray × Nat × Nat := itL.getD k it0
def yI (k : Nat) : MethodName := (it k).1
def cI (k : Nat) : ByteArray := (it k).2.1
def lI (k : Nat) : Nat := (it k).2.2.1
def kI (k : Nat) : Nat := (it k).2.2.2
def iBL : List (List Ai) := [[(37, 0, 0, 0), (40, 0, 0, 3), (37, 0, 0, 0), (0, 0, 0, 0), (2, 1, 0, 0), (33, 0, 0, 9), (42, 50, 0, 0), (43, 5, 0, 15), (46, 0, 0, 0)], [(37, 0, 0, 0), (40, 0, 0, 3), (37, 0, 0, 0), (0, 40, 0, 0), (42, 50, 0, 0), (43, 7, 0, 9), (37, 0, 0, 0), (0, 40, 0, 0), (42, 52, 0, 0), (43, 7, 1, 15), (46, 0, 0, 0)], [(37, 0, 0, 0), (40, 0, 0, 3), (37, 0, 0, 0), (0, 120, 0, 0), (42, 50, 0, 0), (43, 9, 0, 9), (37, 0, 0, 0), (0, 120, 0, 0), (42, 50, 0, 0), (43, 9, 1, 15), (37, 0, 0, 0), (0, 120, 0, 0), (42, 50, 0, 0), (43, 9, 2, 18), (37, 0, 0, 0), (0, 480, 0, 0), (42, 50, 0, 0), (43, 9, 3, 21), (46, 0, 0, 0)], [(37, 0, 0, 0), (40, 0, 0, 3), (37, 0, 0, 0), (0, 120, 0, 0), (42, 50, 0, 0), (43, 0, 0, 9), (37, 0, 0, 0), (0, 120, 0, 0), (42, 50, 0, 0), (43, 0, 1, 15), (37, 0, 0, 0), (0, 120, 0, 0), (42, 52, 0, 0), (43, 0, 2, 18), (37, 0, 0, 0), (0, 480, 0, 0), (42, 50, 0, 0), (43, 0, 3, 22), (37, 0, 0, 0), (0, 120, 0, 0), (42, 50, 0, 0), (43, 0, 4, 25), (37, 0, 0, 0), (0, 120, 0, 0), (42, 50, 0, 0), (43, 0, 5, 28), (37, 0, 0, 0), (0, 481, 0, 0), (42, 50, 0, 0), (43, 0, 6, 31), (37, 0, 0, 0), (0, 481, 0, 0), (42, 50, 0, 0), (43, 0, 7, 34), (37, 0, 0, 0), (0, 120, 0, 0), (42, 50, 0, 0), (43, 0, 8, 37), (46, 0, 0, 0)], [(37, 0, 0, 0), (40, 0, 0, 3), (37, 0, 0, 0), (41, 0, 0, 9), (27, 0, 0, 0), (45, 3, 1, 11), (43, 1, 0, 12), (37, 0, 0, 0), (0, 120, 0, 0), (42, 50, 0, 0), (43, 1, 1, 18), (37, 0, 0, 0), (0, 120, 0, 0), (42, 50, 0, 0), (43, 1, 2, 22), (37, 0, 0, 0), (0, 120, 0, 0), (42, 52, 0, 0), (43, 1, 3, 25), (37, 0, 0, 0), (0, 200, 0, 0), (42, 50, 0, 0), (43, 1, 4, 29), (37, 0, 0, 0), (0, 200, 0, 0), (42, 50, 0, 0), (43, 1, 5, 32), (37, 0, 0, 0), (0, 200, 0, 0), (42, 50, 0, 0), (43, 1, 6, 35), (37, 0, 0, 0), (0, 200, 0, 0), (42, 50, 0, 0), (43, 1, 7, 38), (46, 0, 0, 0)], [(37, 0, 0, 0), (40, 0, 0, 3), (37, 0, 0, 0), (0, 0, 0, 0), (2, 1, 0, 0), (33, 0, 0, 9), (42, 50, 0, 0), (43, 2, 0, 15), (37, 0, 0, 0), (0, 0, 0, 0), (2, 1, 0, 0), (33, 0, 0, 9), (0, 4, 0, 0), (19, 0, 0, 0), (42, 50, 0, 0), (43, 2, 1, 21), (46, 0, 0, 0)], [(37, 0, 0, 0), (40, 0, 0, 3), (37, 0, 0, 0), (0, 120, 0, 0), (42, 50, 0, 0), (43, 8, 0, 9), (37, 0, 0, 0), (0, 120, 0, 0), (42, 50, 0, 0), (43, 8, 1, 15), (37, 0, 0, 0), (0, 120, 0, 0), (42, 50, 0, 0), (43, 8, 2, 18), (37, 0, 0, 0), (0, 120, 0, 0), (42, 52, 0, 0), (43, 8, 3, 21), (37, 0, 0, 0), (0, 120, 0, 0), (42, 52, 0, 0), (43, 8, 4, 25), (37, 0, 0, 0), (0, 120, 0, 0), (42, 52, 0, 0), (43, 8, 5, 28), (37, 0, 0, 0), (0, 8, 0, 0), (42, 50, 0, 0), (43, 8, 6, 31), (37, 0, 0, 0), (0, 32, 0, 0), (42, 50, 0, 0), (43, 8, 7, 34), (46, 0, 0, 0)], [(37, 0, 0, 0), (40, 0, 0, 3), (37, 0, 0, 0), (41, 2, 0, 9), (27, 0, 0, 0), (0, 40, 0, 0), (45, 5, 2, 11), (43, 6, 0, 14), (37, 0, 0, 0), (0, 160, 0, 0), (42, 50, 0, 0), (43, 6, 1, 20), (46, 0, 0, 0)], [(37, 0, 0, 0), (40, 0, 0, 3), (37, 0, 0, 0), (0, 2211, 0, 0), (42, 50, 0, 0), (43, 3, 0, 9), (37, 0, 0, 0), (0, 201, 0, 0), (42, 52, 0, 0), (43, 3, 1, 15), (37, 0, 0, 0), (0, 201, 0, 0), (42, 52, 0, 0), (43, 3, 2, 19), (37, 0, 0, 0), (0, 201, 0, 0), (42, 50, 0, 0), (43, 3, 3, 22), (37, 0, 0, 0), (0, 201, 0, 0), (42, 52, 0, 0), (43, 3, 4, 25), (37, 0, 0, 0), (0, 201, 0, 0), (42, 52, 0, 0), (43, 3, 5, 28), (46, 0, 0, 0)], [(37, 0, 0, 0), (40, 0, 0, 5), (37, 0, 0, 0), (41, 2, 0, 11), (27, 0, 0, 0), (0, 201, 0, 0), (45, 5, 2, 13), (43, 4, 0, 16), (37, 0, 0, 0), (0, 404, 0, 0), (42, 50, 0, 0), (43, 4, 1, 20), (37, 0, 0, 0), (0, 404, 0, 0), (42, 50, 0, 0), (43, 4, 2, 24), (37, 0, 0, 0), (0, 404, 0, 0), (42, 50, 0, 0), (43, 4, 3, 27), (37, 0, 0, 0), (0, 404, 0, 0), (42, 50, 0, 0), (43, 4, 4, 30), (37, 0, 0, 0), (0, 202, 0, 0), (42, 50, 0, 0), (43, 4, 5, 33), (37, 0, 0, 0), (0, 404, 0, 0), (42, 50, 0, 0), (43, 4, 6, 36), (37, 0, 0, 0), (0, 201, 0, 0), (42, 50, 0, 0), (43, 4, 7, 39), (37, 0, 0, 0), (0, 201, 0, 0), (42, 50, 0, 0), (43, 4, 8, 42), (46, 0, 0, 0)], [(37, 0, 0, 0), (40, 0, 0, 3), (37, 0, 0, 0), (41, 5, 0, 9), (27, 0, 0, 0), (0, 800, 0, 0), (45, 0, 2, 11), (43, 11, 0, 14), (37, 0, 0, 0), (41, 5, 0, 9), (27, 0, 0, 0), (0, 3618, 0, 0), (45, 0, 2, 11), (43, 11, 1, 18), (37, 0, 0, 0), (41, 7, 0, 21), (27, 0, 0, 0), (45, 1, 1, 23), (43, 11, 2, 24), (37, 0, 0, 0), (41, 9, 0, 28), (27, 0, 0, 0), (45, 2, 1, 30), (43, 11, 3, 31), (37, 0, 0, 0), (41, 1, 0, 35), (27, 0, 0, 0), (45, 4, 1, 37), (43, 11, 4, 38), (37, 0, 0, 0), (41, 9, 0, 28), (27, 0, 0, 0), (45, 2, 1, 30), (43, 11, 5, 42), (37, 0, 0, 0), (41, 1, 0, 35), (27, 0, 0, 0), (45, 4, 1, 37), (43, 11, 6, 45), (37, 0, 0, 0), (41, 2, 0, 48), (27, 0, 0, 0), (0, 120, 0, 0), (45, 5, 2, 50), (43, 11, 7, 51), (37, 0, 0, 0), (41, 2, 0, 48), (27, 0, 0, 0), (0, 8, 0, 0), (45, 5, 2, 50), (43, 11, 8, 55), (37, 0, 0, 0), (41, 2, 0, 48), (27, 0, 0, 0), (0, 40, 0, 0), (45, 5, 2, 50), (43, 11, 9, 58), (37, 0, 0, 0), (41, 2, 0, 48), (27, 0, 0, 0), (0, 201, 0, 0), (45, 5, 2, 50), (43, 11, 10, 61), (37, 0, 0, 0), (41, 8, 0, 64), (27, 0, 0, 0), (45, 6, 1, 66), (43, 11, 11, 67), (37, 0, 0, 0), (41, 6, 0, 71), (27, 0, 0, 0), (45, 7, 1, 73), (43, 11, 12, 74), (37, 0, 0, 0), (41, 3, 0, 78), (27, 0, 0, 0), (45, 8, 1, 80), (43, 11, 13, 81), (37, 0, 0, 0), (41, 4, 0, 85), (27, 0, 0, 0), (45, 9, 1, 87), (43, 11, 14, 88), (37, 0, 0, 0), (0, 2, 0, 0), (44, 11, 15, 92), (37, 0, 0, 0), (1, 1, 0, 0), (44, 11, 16, 96), (46, 0, 0, 0)], [(37, 0, 0, 0), (40, 0, 0, 181), (37, 0, 0, 0), (0, 800, 0, 0), (42, 51, 0, 0), (43, 12, 0, 1), (37, 0, 0, 0), (0, 2, 0, 0), (44, 12, 2, 25), (37, 0, 0, 0), (0, 40, 0, 0), (42, 50, 0, 0), (43, 12, 5, 31), (37, 0, 0, 0), (0, 40, 0, 0), (42, 50, 0, 0), (43, 12, 6, 35), (37, 0, 0, 0), (0, 40, 0, 0), (42, 52, 0, 0), (43, 12, 7, 46), (37, 0, 0, 0), (0, 161, 0, 0), (42, 50, 0, 0), (43, 12, 9, 53), (37, 0, 0, 0), (0, 161, 0, 0), (42, 50, 0, 0), (43, 12, 10, 56), (37, 0, 0, 0), (0, 161, 0, 0), (42, 50, 0, 0), (43, 12, 11, 69), (37, 0, 0, 0), (0, 161, 0, 0), (42, 50, 0, 0), (43, 12, 12, 75), (37, 0, 0, 0), (0, 644, 0, 0), (42, 50, 0, 0), (43, 12, 13, 72), (37, 0, 0, 0), (0, 161, 0, 0), (42, 50, 0, 0), (43, 12, 15, 82), (37, 0, 0, 0), (0, 161, 0, 0), (42, 50, 0, 0), (43, 12, 16, 85), (37, 0, 0, 0), (0, 161, 0, 0), (42, 52, 0, 0), (43, 12, 17, 88), (37, 0, 0, 0), (0, 644, 0, 0), (42, 50, 0, 0), (43, 12, 18, 91), (37, 0, 0, 0), (0, 161, 0, 0), (42, 50, 0, 0), (43, 12, 20, 106), (37, 0, 0, 0), (0, 161, 0, 0), (42, 50, 0, 0), (43, 12, 21, 109), (37, 0, 0, 0), (0, 161, 0, 0), (42, 52, 0, 0), (43, 12, 22, 112), (37, 0, 0, 0), (0, 644, 0, 0), (42, 50, 0, 0), (43, 12, 23, 115), (37, 0, 0, 0), (0, 1400, 0, 0), (42, 50, 0, 0), (43, 12, 26, 100), (37, 0, 0, 0), (0, 800, 0, 0), (42, 50, 0, 0), (43, 12, 28, 145), (37, 0, 0, 0), (0, 5, 0, 0), (42, 50, 0, 0), (43, 12, 30, 186), (37, 0, 0, 0), (0, 1000, 0, 0), (42, 50, 0, 0), (43, 12, 31, 189), (37, 0, 0, 0), (0, 4000, 0, 0), (42, 50, 0, 0), (43, 12, 32, 192), (37, 0, 0, 0), (0, 161, 0, 0), (42, 50, 0, 0), (43, 12, 33, 195), (37, 0, 0, 0), (0, 200, 0, 0), (42, 50, 0, 0), (43, 12, 34, 198), (37, 0, 0, 0), (0, 200, 0, 0), (42, 50, 0, 0), (43, 12, 35, 201), (37, 0, 0, 0), (0, 120, 0, 0), (42, 50, 0, 0), (43, 12, 36, 204), (37, 0, 0, 0), (0, 120, 0, 0), (42, 52, 0, 0), (43, 12, 37, 207), (37, 0, 0, 0), (0, 120, 0, 0), (42, 50, 0, 0), (43, 12, 38, 210), (37, 0, 0, 0), (0, 24, 0, 0), (42, 50, 0, 0), (43, 12, 39, 213), (37, 0, 0, 0), (1, 1, 0, 0), (44, 12, 42, 216), (37, 0, 0, 0), (0, 160, 0, 0), (42, 50, 0, 0), (43, 12, 44, 219), (37, 0, 0, 0), (0, 160, 0, 0), (42, 50, 0, 0), (43, 12, 45, 222), (37, 0, 0, 0), (0, 40401, 0, 225), (42, 50, 0, 0), (43, 12, 47, 226), (37, 0, 0, 0), (0, 40401, 0, 225), (42, 50, 0, 0), (43, 12, 48, 229), (37, 0, 0, 0), (0, 40401, 0, 225), (42, 50, 0, 0), (43, 12, 49, 232), (37, 0, 0, 0), (0, 40401, 0, 225), (42, 50, 0, 0), (43, 12, 50, 235), (37, 0, 0, 0), (0, 40401, 0, 225), (42, 50, 0, 0), (43, 12, 51, 238), (37, 0, 0, 0), (0, 201, 0, 0), (42, 52, 0, 0), (43, 12, 53, 241), (37, 0, 0, 0), (0, 201, 0, 0), (42, 50, 0, 0), (43, 12, 54, 244), (37, 0, 0, 0), (0, 201, 0, 0), (42, 50, 0, 0), (43, 12, 55, 247), (37, 0, 0, 0), (0, 201, 0, 0), (42, 50, 0, 0), (43, 12, 56, 250), (37, 0, 0, 0), (0, 201, 0, 0), (42, 50, 0, 0), (43, 12, 57, 253), (37, 0, 0, 0), (0, 2211, 0, 0), (42, 50, 0, 0), (43, 12, 58, 256), (37, 0, 0, 0), (0, 201, 0, 0), (42, 52, 0, 0), (43, 12, 59, 259), (37, 0, 0, 0), (0, 201, 0, 0), (42, 50, 0, 0), (43, 12, 60, 262), (37, 0, 0, 0), (0, 8000, 0, 0), (42, 51, 0, 0), (43, 12, 61, 265), (37, 0, 0, 0), (0, 800, 0, 0), (42, 50, 0, 0), (43, 12, 63, 268), (46, 0, 0, 0)]]
def iB (k : Nat) : List Ai := iBL.getD k []
def iEL : List Nat := [15, 20, 37, 79, 75, 28, 68, 26, 58, 90, 194, 414]
def iE (k : Nat) : Nat := iEL.getD k 0
def OL : List (Nat × Nat × Nat) := [(0, 3, 1106), (1, 3, 1100), (2, 3, 1197), (3, 3, 2039), (4, 5, 2064), (5, 3, 1029), (6, 3, 2020), (7, 3, 1048), (8, 3, 1222), (9, 3, 1067), (11, 3, 1021), (12, 181, 5109)]
def okO (q : Nat × Nat × Nat) : Bool := atp q.2.2 (.methodLink (cN q.1) q.2.1 objectInit)
theorem OL_ok : OL.all okO = true := by decide +kernel
def NLk : List (Nat × Nat × Nat × Nat) := [(1, 9, 0, 1101), (4, 11, 2, 2065), (6, 9, 2, 2021), (11, 9, 5, 1024), (11, 21, 7, 1043), (11, 28, 9, 1062), (11, 35, 1, 1095), (11, 48, 2, 1192), (11, 64, 8, 1217), (11, 71, 6, 2015), (11, 78, 3, 2034), (11, 85, 4, 2059), (13, 7, 11, 1016), (13, 10, 12, 5105)]
def okN (q : Nat × Nat × Nat × Nat) : Bool := atp q.2.2.2 (.classLink (cN q.1) q.2.1 (cN q.2.2.1)) && decide (q.2.2.1 < 13)
theorem NLk_ok : NLk.all okN = true := by decide +kernel
def JL : List (Nat × Nat × Nat × Nat × Nat) := [(1, 11, 3, 1, 1103), (4, 13, 5, 0, 2066), (6, 11, 5, 0, 2022), (11, 11, 0, 0, 1026), (11, 23, 1, 1, 1045), (11, 30, 2, 1, 1064), (11, 37, 4, 1, 1097), (11, 50, 5, 0, 1194), (11, 66, 6, 1, 1219), (11, 73, 7, 1, 2017), (11, 80, 8, 1, 2036), (11, 87, 9, 1, 2061), (13, 9, 10, 0, 1018), (13, 12, 11, 0, 5106)]
def jwN (q : Nat × Nat × Nat × Nat × Nat) : Cond := .methodLinkNest (cN q.1) q.2.1 (yI q.2.2.1) "WordFolder"
def jw0 (q : Nat × Nat × Nat × Nat × Nat) : Cond := .methodLink (cN q.1) q.2.1 (yI q.2.2.1)
def okJ (q : Nat × Nat × Nat × Nat × Nat) : Bool := if q.2.2.2.1 = 1 then atq q.2.2.2.2 (jwN q) else atp q.2.2.2.2 (jw0 q)
theorem JL_ok : JL.all okJ = true := by decide +kernel
def ITp : List (Nat × Nat) := [(1002, 1027), (1004, 1046), (1005, 1065), (1007, 1104), (1006, 1098), (1008, 1195), (1009, 1220), (1010, 2018), (1011, 2037), (1012, 2062), (1001, 1019), (1015, 5107)]
def okIt (k : Nat) : Bool := atp (ITp.getD k (0, 0)).1 (.initialized (yI k).cls) && atp (ITp.getD k (0, 0)).2 (.instanceMethod (yI k)) && decide ((yI k).cls = cN (kI k)) && decide (kI k < 13) && decide ((yI k).name = "<init>") && decide ((parseMethodDescriptor (yI k).desc).map (fun s => s.parameters.length + 1) = some (lI k)) && decide (lI k < 3)
theorem IT_ok : (List.range 12).all okIt = true := by decide +kernel
def INp : List (Nat × Nat) := [(1102, 1007), (1096, 1006), (1193, 1008), (2035, 1011), (2060, 1012), (1025, 1002), (2016, 1010), (1044, 1004), (1218, 1009), (1063, 1005), (0, 1013), (1017, 1001), (5096, 1015)]
def okIn (c : Nat) : Bool := atp (INp.getD c (0, 0)).1 (.instantiable (cN c) (nf c)) && atp (INp.getD c (0, 0)).2 (.initialized (cN c))
theorem IN_ok : (List.range 13).all (fun c => okIn c || decide (c = 10)) = true := by decide +kernel
set_option maxRecDepth 20000 in
theorem iw0 : (tb 1)[28]? = some (.code (yI 0) (cI 0) (lI 0) none) := rfl
set_option maxRecDepth 20000 in
theorem iw1 : (tb 1)[47]? = some (.code (yI 1) (cI 1) (lI 1) none) := rfl
set_option maxRecDepth 20000 in
theorem iw2 : (tb 1)[66]? = some (.code (yI 2) (cI 2) (lI 2) none) := rfl
set_option maxRecDepth 20000 in
theorem iw3 : (tb 1)[105]? = some (.code (yI 3) (cI 3) (lI 3) none) := rfl
set_option maxRecDepth 20000 in
theorem iw4 : (tb 1)[99]? = some (.code (yI 4) (cI 4) (lI 4) none) := rfl
set_option maxRecDepth 20000 in
theorem iw5 : (tb 1)[196]? = some (.code (yI 5) (cI 5) (lI 5) none) := rfl
set_option maxRecDepth 20000 in
theorem iw6 : (tb 1)[221]? = some (.code (yI 6) (cI 6) (lI 6) none) := rfl
set_option maxRecDepth 20000 in
theorem iw7 : (tb 2)[19]? = some (.code (yI 7) (cI 7) (lI 7) none) := rfl
set_option maxRecDepth 20000 in
theorem iw8 : (tb 2)[38]? = some (.code (yI 8) (cI 8) (lI 8) none) := rfl
set_option maxRecDepth 20000 in
theorem iw9 : (tb 2)[63]? = some (.code (yI 9) (cI 9) (lI 9) none) := rfl
set_option maxRecDepth 20000 in
theorem iw10 : (tb 1)[20]? = some (.code (yI 10) (cI 10) (lI 10) none) := rfl
set_option maxRecDepth 20000 in
theorem iw11 : (tb 5)[108]? = some (.code (yI 11) (cI 11) (lI 11) none) := rfl
theorem code_TI : ∀ k, k < 12 → Cond.code (yI k) (cI k) (lI k) none ∈ TB
  | 0, _ => List.mem_filter.mpr ⟨tb_1 (List.mem_of_getElem? iw0), rfl⟩
  | 1, _ => List.mem_filter.mpr ⟨tb_1 (List.mem_of_getElem? iw1), rfl⟩
  | 2, _ => List.mem_filter.mpr ⟨tb_1 (List.mem_of_getElem? iw2), rfl⟩
  | 3, _ => List.mem_filter.mpr ⟨tb_1 (List.mem_of_getElem? iw3), rfl⟩
  | 4, _ => List.mem_filter.mpr ⟨tb_1 (List.mem_of_getElem? iw4), rfl⟩
  | 5, _ => List.mem_filter.mpr ⟨tb_1 (List.mem_of_getElem? iw5), rfl⟩
  | 6, _ => List.mem_filter.mpr ⟨tb_1 (List.mem_of_getElem? iw6), rfl⟩
  | 7, _ => List.mem_filter.mpr ⟨tb_2 (List.mem_of_getElem? iw7), rfl⟩
  | 8, _ => List.mem_filter.mpr ⟨tb_2 (List.mem_of_getElem? iw8), rfl⟩
  | 9, _ => List.mem_filter.mpr ⟨tb_2 (List.mem_of_getElem? iw9), rfl⟩
  | 10, _ => List.mem_filter.mpr ⟨tb_1 (List.mem_of_getElem? iw10), rfl⟩
  | 11, _ => List.mem_filter.mpr ⟨tb_5 (List.mem_of_getElem? iw11), rfl⟩
  | k + 12, h => absurd h (by omega)
theorem obj_TB : Cond.instanceMethod objectInit ∈ TB ∧ Cond.code objectInit ⟨#[0xb1]⟩ 1 none ∈ TB := ⟨atp_mem (pos := 1022) (by decide +kernel), List.mem_filter.mpr ⟨tb_1 (List.mem_of_getElem? (i := 23) rfl), rfl⟩⟩
theorem arr_TB : Cond.arrayClass .int ∈ TB ∧ Cond.arrayClass .byte ∈ TB ∧ Cond.arrayClass .boolean ∈ TB := ⟨atp_mem (pos := 1042) (by decide +kernel), atp_mem (pos := 6099) (by decide +kernel), atp_mem (pos := 1061) (by decide +kernel)⟩
/-- the checker over a constructor -/
def ckJi (c d k : Nat) : Bool := JL.any (fun e => decide (e.1 = c) && decide (e.2.1 = d) && decide (e.2.2.1 = k))
def ckc1 (c : Nat) (i : Instr × Nat) (t a b d : Nat) : Bool := match t with
  | 0 => isI (a : Int) c d i
  | 1 => isI (-(a : Int)) c d i
  | 2 => decide (i = (.iload a, 2)) || (decide (i = (.iload_n (f4 a), 1)) && decide (a < 4))
  | 37 => decide (i = (.aload a, 2)) || (decide (i = (.aload_n (f4 a), 1)) && decide (a < 4))
  | 27 => decide (i = (.dup, 1))
  | 33 => decide (i = (.invokestatic d, 3)) && ckM c d 1001
  | 19 => decide (i = (.imul, 1))
  | 40 => decide (i = (.invokespecial d, 3)) && OL.any (fun e => decide (e.1 = c) && decide (e.2.1 = d))
  | 41 => decide (i = (.new d, 3)) && NLk.any (fun e => decide (e.1 = c) && decide (e.2.1 = d) && decide (e.2.2.1 = a)) && okIn a
  | 42 => (decide (a = 50) && decide (i = (.newarray .int, 2))) || (decide (a = 51) && decide (i = (.newarray .byte, 2))) || (decide (a = 52) && decide (i = (.newarray .boolean, 2)))
  | 43 => decide (i = (.putfield d, 3)) && FL.any (fun e => decide (e.1 = c) && decide (e.2.1 = d) && decide (e.2.2.1 = a) && decide (e.2.2.2.1 = b) && decide (e.2.2.2.2.1 = 0)) && decide (a = c) && (match (cTy a) b with | .object _ => true | .array _ => true | _ => false)
  | 44 => decide (i = (.putfield d, 3)) && FL.any (fun e => decide (e.1 = c) && decide (e.2.1 = d) && decide (e.2.2.1 = a) && decide (e.2.2.2.1 = b) && decide (e.2.2.2.2.1 = 0)) && decide ((cTy a) b = .int) && decide (((cT a) b).2.2.2 = false)
  | 45 => decide (i = (.invokespecial d, 3)) && ckJi c d a && decide (a < 12)
  | _ => false
def ckc (cc : ByteArray) (c pe : Nat) : Nat → List Ai → Bool
  | _, [] => false
  | pc, (t, a, b, d) :: r => if t = 46 then decide (pc = pe) else match decode cc pc with
    | .ok i => ckc1 c i t a b d && ckc cc c pe (pc + i.2) r
    | .error _ => false
theorem ckc_0 : ckc (cI 0) (kI 0) (iE 0) 0 (iB 0) = true := by decide +kernel
theorem ckc_1 : ckc (cI 1) (kI 1) (iE 1) 0 (iB 1) = true := by decide +kernel
theorem ckc_2 : ckc (cI 2) (kI 2) (iE 2) 0 (iB 2) = true := by decide +kernel
theorem ckc_3 : ckc (cI 3) (kI 3) (iE 3) 0 (iB 3) = true := by decide +kernel
theorem ckc_4 : ckc (cI 4) (kI 4) (iE 4) 0 (iB 4) = true := by decide +kernel
theorem ckc_5 : ckc (cI 5) (kI 5) (iE 5) 0 (iB 5) = true := by decide +kernel
theorem ckc_6 : ckc (cI 6) (kI 6) (iE 6) 0 (iB 6) = true := by decide +kernel
theorem ckc_7 : ckc (cI 7) (kI 7) (iE 7) 0 (iB 7) = true := by decide +kernel
theorem ckc_8 : ckc (cI 8) (kI 8) (iE 8) 0 (iB 8) = true := by decide +kernel
theorem ckc_9 : ckc (cI 9) (kI 9) (iE 9) 0 (iB 9) = true := by decide +kernel
theorem ckc_10 : ckc (cI 10) (kI 10) (iE 10) 0 (iB 10) = true := by decide +kernel
theorem ckc_11 : ckc (cI 11) (kI 11) (iE 11) 0 (iB 11) = true := by decide +kernel
theorem ckcs : ∀ k, k < 12 → ckc (cI k) (kI k) (iE k) 0 (iB k) = true
  | 0, _ => ckc_0
  | 1, _ => ckc_1
  | 2, _ => ckc_2
  | 3, _ => ckc_3
  | 4, _ => ckc_4
  | 5, _ => ckc_5
  | 6, _ => ckc_6
  | 7, _ => ckc_7
  | 8, _ => ckc_8
  | 9, _ => ckc_9
  | 10, _ => ckc_10
  | 11, _ => ckc_11
  | k + 12, h => absurd h (by omega)
theorem dre_0 : decode (cI 0) (iE 0) = .ok (.return_, 1) := by decide +kernel
theorem dre_1 : decode (cI 1) (iE 1) = .ok (.return_, 1) := by decide +kernel
theorem dre_2 : decode (cI 2) (iE 2) = .ok (.return_, 1) := by decide +kernel
theorem dre_3 : decode (cI 3) (iE 3) = .ok (.return_, 1) := by decide +kernel
theorem dre_4 : decode (cI 4) (iE 4) = .ok (.return_, 1) := by decide +kernel
theorem dre_5 : decode (cI 5) (iE 5) = .ok (.return_, 1) := by decide +kernel
theorem dre_6 : decode (cI 6) (iE 6) = .ok (.return_, 1) := by decide +kernel
theorem dre_7 : decode (cI 7) (iE 7) = .ok (.return_, 1) := by decide +kernel
theorem dre_8 : decode (cI 8) (iE 8) = .ok (.return_, 1) := by decide +kernel
theorem dre_9 : decode (cI 9) (iE 9) = .ok (.return_, 1) := by decide +kernel
theorem dres : ∀ k, k < 10 → decode (cI k) (iE k) = .ok (.return_, 1)
  | 0, _ => dre_0
  | 1, _ => dre_1
  | 2, _ => dre_2
  | 3, _ => dre_3
  | 4, _ => dre_4
  | 5, _ => dre_5
  | 6, _ => dre_6
  | 7, _ => dre_7
  | 8, _ => dre_8
  | 9, _ => dre_9
  | k + 10, h => absurd h (by omega)
def tC : List Ai := [(37, 0, 0, 0), (7, 11, 8, 31), (37, 0, 0, 0), (7, 11, 5, 24), (1, 1, 0, 0), (30, 252, 3, 99), (37, 0, 0, 0), (7, 11, 13, 38), (37, 0, 0, 0), (7, 11, 8, 31), (30, 173, 2, 103), (67, 0, 0, 0)]
def tCb (b : Nat) : List Ai := if b = 0 then tC else []
theorem ck_tC : ck (cI 10) (kI 10) (lI 10) none (fun _ => iE 10) (iE 10) tC = true := by decide +kernel
def tM : List Ai := [(37, 0, 0, 0), (30, 59, 1, 178), (67, 0, 0, 0)]
def tMb (b : Nat) : List Ai := if b = 0 then tM else []
theorem ck_tM : ck (cI 11) (kI 11) (lI 11) none (fun _ => iE 11) (iE 11) tM = true := by decide +kernel
def parL : List (Nat × Nat) := [(0, 0), (0, 0), (1, 0), (0, 1), (3, 0), (0, 2), (5, 0), (5, 1), (0, 3), (8, 0), (8, 1), (8, 2), (8, 3), (0, 4), (13, 0), (14, 0), (14, 1), (14, 2), (14, 3), (14, 4), (14, 5), (14, 6), (14, 7), (14, 8), (13, 1), (13, 2), (13, 3), (13, 4), (13, 5), (13, 6), (13, 7), (0, 5), (31, 0), (31, 1), (31, 2), (31, 3), (0, 6), (36, 0), (37, 0), (37, 1), (37, 2), (37, 3), (37, 4), (37, 5), (37, 6), (37, 7), (37, 8), (36, 1), (36, 2), (36, 3), (36, 4), (36, 5), (36, 6), (36, 7), (0, 7), (54, 0), (54, 1), (0, 8), (57, 0), (57, 1), (0, 9), (60, 0), (60, 1), (0, 10), (63, 0), (63, 1), (0, 11), (66, 0), (66, 1), (66, 2), (66, 3), (66, 4), (66, 5), (66, 6), (66, 7), (0, 12), (75, 0), (76, 0), (76, 1), (75, 1), (0, 13), (80, 0), (80, 1), (80, 2), (80, 3), (80, 4), (80, 5), (0, 14), (87, 0), (88, 0), (88, 1), (87, 1), (87, 2), (87, 3), (87, 4), (87, 5), (87, 6), (87, 7), (87, 8), (0, 0), (99, 0), (99, 5), (99, 6), (99, 7), (99, 9), (99, 10), (99, 11), (99, 12), (99, 13), (99, 15), (99, 16), (99, 17), (99, 18), (99, 20), (99, 21), (99, 22), (99, 23), (99, 26), (99, 28), (99, 30), (99, 31), (99, 32), (99, 33), (99, 34), (99, 35), (99, 36), (99, 37), (99, 38), (99, 39), (99, 44), (99, 45), (99, 47), (99, 48), (99, 49), (99, 50), (99, 51), (99, 53), (99, 54), (99, 55), (99, 56), (99, 57), (99, 58), (99, 59), (99, 60), (99, 61), (99, 63)]
