/-- the cells behind the two constructors: kind (a class by its place in vwCl; 100 ints, 101 bytes, 102 booleans, 103 longs, 104 Texts, 105 Seasons), length, refs that stay -/
def SH0 : List (Nat × Nat × List Nat) := [(11, 8, [1, 114, 227, 228, 233, 235, 262, 266]), (10, 7, [2, 12, 15, 107, 0, 0, 0]), (2, 11, [0, 3, 4, 5, 0, 6, 7, 8, 9, 10, 11]), (100, 6, []), (100, 6, []), (100, 6, []), (100, 40, []), (100, 10, []), (100, 10, []), (100, 10, []), (100, 5, []), (100, 10, []), (5, 8, [0, 0, 0, 0, 0, 13, 0, 14]), (100, 24, []), (100, 80, []), (6, 3, [0, 0, 16]), (105, 30, [17, 20, 23, 26, 29, 32, 35, 38, 41, 44, 47, 50, 53, 56, 59, 62, 65, 68, 71, 74, 77, 80, 83, 86, 89, 92, 95, 98, 101, 104]), (5, 8, [0, 0, 0, 0, 0, 18, 0, 19]), (100, 24, []), (100, 80, []), (5, 8, [0, 0, 0, 0, 0, 21, 0, 22]), (100, 24, []), (100, 80, []), (5, 8, [0, 0, 0, 0, 0, 24, 0, 25]), (100, 24, []), (100, 80, []), (5, 8, [0, 0, 0, 0, 0, 27, 0, 28]), (100, 24, []), (100, 80, []), (5, 8, [0, 0, 0, 0, 0, 30, 0, 31]), (100, 24, []), (100, 80, []), (5, 8, [0, 0, 0, 0, 0, 33, 0, 34]), (100, 24, []), (100, 80, []), (5, 8, [0, 0, 0, 0, 0, 36, 0, 37]), (100, 24, []), (100, 80, []), (5, 8, [0, 0, 0, 0, 0, 39, 0, 40]), (100, 24, [])]
def SH1 : List (Nat × Nat × List Nat) := [(100, 80, []), (5, 8, [0, 0, 0, 0, 0, 42, 0, 43]), (100, 24, []), (100, 80, []), (5, 8, [0, 0, 0, 0, 0, 45, 0, 46]), (100, 24, []), (100, 80, []), (5, 8, [0, 0, 0, 0, 0, 48, 0, 49]), (100, 24, []), (100, 80, []), (5, 8, [0, 0, 0, 0, 0, 51, 0, 52]), (100, 24, []), (100, 80, []), (5, 8, [0, 0, 0, 0, 0, 54, 0, 55]), (100, 24, []), (100, 80, []), (5, 8, [0, 0, 0, 0, 0, 57, 0, 58]), (100, 24, []), (100, 80, []), (5, 8, [0, 0, 0, 0, 0, 60, 0, 61]), (100, 24, []), (100, 80, []), (5, 8, [0, 0, 0, 0, 0, 63, 0, 64]), (100, 24, []), (100, 80, []), (5, 8, [0, 0, 0, 0, 0, 66, 0, 67]), (100, 24, []), (100, 80, []), (5, 8, [0, 0, 0, 0, 0, 69, 0, 70]), (100, 24, []), (100, 80, []), (5, 8, [0, 0, 0, 0, 0, 72, 0, 73]), (100, 24, []), (100, 80, []), (5, 8, [0, 0, 0, 0, 0, 75, 0, 76]), (100, 24, []), (100, 80, []), (5, 8, [0, 0, 0, 0, 0, 78, 0, 79]), (100, 24, []), (100, 80, [])]
def SH2 : List (Nat × Nat × List Nat) := [(5, 8, [0, 0, 0, 0, 0, 81, 0, 82]), (100, 24, []), (100, 80, []), (5, 8, [0, 0, 0, 0, 0, 84, 0, 85]), (100, 24, []), (100, 80, []), (5, 8, [0, 0, 0, 0, 0, 87, 0, 88]), (100, 24, []), (100, 80, []), (5, 8, [0, 0, 0, 0, 0, 90, 0, 91]), (100, 24, []), (100, 80, []), (5, 8, [0, 0, 0, 0, 0, 93, 0, 94]), (100, 24, []), (100, 80, []), (5, 8, [0, 0, 0, 0, 0, 96, 0, 97]), (100, 24, []), (100, 80, []), (5, 8, [0, 0, 0, 0, 0, 99, 0, 100]), (100, 24, []), (100, 80, []), (5, 8, [0, 0, 0, 0, 0, 102, 0, 103]), (100, 24, []), (100, 80, []), (5, 8, [0, 0, 0, 0, 0, 105, 0, 106]), (100, 24, []), (100, 80, []), (9, 7, [108, 109, 0, 110, 111, 112, 113]), (100, 10, []), (100, 10, []), (100, 8, []), (100, 8, []), (100, 2, []), (100, 24, []), (10, 7, [115, 125, 128, 220, 0, 0, 0]), (2, 11, [0, 116, 117, 118, 0, 119, 120, 121, 122, 123, 124]), (100, 6, []), (100, 6, []), (100, 6, []), (100, 40, [])]
def SH3 : List (Nat × Nat × List Nat) := [(100, 10, []), (100, 10, []), (100, 10, []), (100, 5, []), (100, 10, []), (5, 8, [0, 0, 0, 0, 0, 126, 0, 127]), (100, 24, []), (100, 80, []), (6, 3, [0, 0, 129]), (105, 30, [130, 133, 136, 139, 142, 145, 148, 151, 154, 157, 160, 163, 166, 169, 172, 175, 178, 181, 184, 187, 190, 193, 196, 199, 202, 205, 208, 211, 214, 217]), (5, 8, [0, 0, 0, 0, 0, 131, 0, 132]), (100, 24, []), (100, 80, []), (5, 8, [0, 0, 0, 0, 0, 134, 0, 135]), (100, 24, []), (100, 80, []), (5, 8, [0, 0, 0, 0, 0, 137, 0, 138]), (100, 24, []), (100, 80, []), (5, 8, [0, 0, 0, 0, 0, 140, 0, 141]), (100, 24, []), (100, 80, []), (5, 8, [0, 0, 0, 0, 0, 143, 0, 144]), (100, 24, []), (100, 80, []), (5, 8, [0, 0, 0, 0, 0, 146, 0, 147]), (100, 24, []), (100, 80, []), (5, 8, [0, 0, 0, 0, 0, 149, 0, 150]), (100, 24, []), (100, 80, []), (5, 8, [0, 0, 0, 0, 0, 152, 0, 153]), (100, 24, []), (100, 80, []), (5, 8, [0, 0, 0, 0, 0, 155, 0, 156]), (100, 24, []), (100, 80, []), (5, 8, [0, 0, 0, 0, 0, 158, 0, 159]), (100, 24, []), (100, 80, [])]
def SH4 : List (Nat × Nat × List Nat) := [(5, 8, [0, 0, 0, 0, 0, 161, 0, 162]), (100, 24, []), (100, 80, []), (5, 8, [0, 0, 0, 0, 0, 164, 0, 165]), (100, 24, []), (100, 80, []), (5, 8, [0, 0, 0, 0, 0, 167, 0, 168]), (100, 24, []), (100, 80, []), (5, 8, [0, 0, 0, 0, 0, 170, 0, 171]), (100, 24, []), (100, 80, []), (5, 8, [0, 0, 0, 0, 0, 173, 0, 174]), (100, 24, []), (100, 80, []), (5, 8, [0, 0, 0, 0, 0, 176, 0, 177]), (100, 24, []), (100, 80, []), (5, 8, [0, 0, 0, 0, 0, 179, 0, 180]), (100, 24, []), (100, 80, []), (5, 8, [0, 0, 0, 0, 0, 182, 0, 183]), (100, 24, []), (100, 80, []), (5, 8, [0, 0, 0, 0, 0, 185, 0, 186]), (100, 24, []), (100, 80, []), (5, 8, [0, 0, 0, 0, 0, 188, 0, 189]), (100, 24, []), (100, 80, []), (5, 8, [0, 0, 0, 0, 0, 191, 0, 192]), (100, 24, []), (100, 80, []), (5, 8, [0, 0, 0, 0, 0, 194, 0, 195]), (100, 24, []), (100, 80, []), (5, 8, [0, 0, 0, 0, 0, 197, 0, 198]), (100, 24, []), (100, 80, []), (5, 8, [0, 0, 0, 0, 0, 200, 0, 201])]
def SH5 : List (Nat × Nat × List Nat) := [(100, 24, []), (100, 80, []), (5, 8, [0, 0, 0, 0, 0, 203, 0, 204]), (100, 24, []), (100, 80, []), (5, 8, [0, 0, 0, 0, 0, 206, 0, 207]), (100, 24, []), (100, 80, []), (5, 8, [0, 0, 0, 0, 0, 209, 0, 210]), (100, 24, []), (100, 80, []), (5, 8, [0, 0, 0, 0, 0, 212, 0, 213]), (100, 24, []), (100, 80, []), (5, 8, [0, 0, 0, 0, 0, 215, 0, 216]), (100, 24, []), (100, 80, []), (5, 8, [0, 0, 0, 0, 0, 218, 0, 219]), (100, 24, []), (100, 80, []), (9, 7, [221, 222, 0, 223, 224, 225, 226]), (100, 10, []), (100, 10, []), (100, 8, []), (100, 8, []), (100, 2, []), (100, 24, []), (104, 4, [238, 244, 250, 256]), (7, 5, [0, 229, 230, 231, 232]), (101, 300, []), (100, 301, []), (100, 301, []), (100, 301, []), (3, 13, [0, 0, 228, 0, 0, 0, 234, 0, 0, 0, 0, 0, 0]), (100, 64, []), (4, 2, [236, 237]), (100, 120, []), (100, 120, []), (8, 9, [0, 0, 239, 240, 0, 0, 241, 242, 243]), (100, 24, [])]
def SH6 : List (Nat × Nat × List Nat) := [(100, 144, []), (100, 300, []), (100, 3, []), (100, 3, []), (8, 9, [0, 0, 245, 246, 0, 0, 247, 248, 249]), (100, 24, []), (100, 144, []), (100, 300, []), (100, 3, []), (100, 3, []), (8, 9, [0, 0, 251, 252, 0, 0, 253, 254, 255]), (100, 24, []), (100, 144, []), (100, 300, []), (100, 3, []), (100, 3, []), (8, 9, [0, 0, 257, 258, 0, 0, 259, 260, 261]), (100, 24, []), (100, 144, []), (100, 300, []), (100, 3, []), (100, 3, []), (1, 5, [1, 227, 263, 264, 265]), (100, 23, []), (100, 64, []), (100, 2400, []), (0, 9, [1, 262, 0, 267, 268, 269, 270, 271, 272]), (100, 24, []), (100, 25, []), (100, 25, []), (100, 25, []), (100, 6250, []), (100, 5, []), (12, 35, [274, 275, 276, 277, 278, 0, 0, 0, 0, 0, 0, 0, 0, 0, 0, 0, 279, 0, 0, 0, 0, 280, 281, 282, 283, 284, 285, 286, 287, 288, 289, 290, 291, 292, 0]), (100, 5968, []), (100, 5968, []), (100, 3204, []), (100, 4, []), (100, 300, []), (100, 160, [])]
def SH7 : List (Nat × Nat × List Nat) := [(100, 13, []), (103, 330, []), (102, 330, []), (100, 24, []), (100, 6875, []), (102, 2500, []), (102, 10, []), (100, 24, []), (100, 24, []), (100, 625, []), (100, 10, []), (100, 120, []), (100, 120, [])]
def SH : List (Nat × Nat × List Nat) := SH0 ++ (SH1 ++ (SH2 ++ (SH3 ++ (SH4 ++ (SH5 ++ (SH6 ++ (SH7)))))))
/-- fields by class: 0 an int, 1 a long, 2 a ref that stays, 3 one that changes -/
def FT : Nat → List Nat := fun k => match k with
  | 0 => [2, 2, 0, 2, 2, 2, 2, 2, 2]
  | 1 => [2, 2, 2, 2, 2]
  | 2 => [0, 2, 2, 2, 0, 2, 2, 2, 2, 2, 2]
  | 3 => [0, 0, 2, 3, 0, 0, 2, 0, 0, 0, 0, 0, 0]
  | 4 => [2, 2]
  | 5 => [0, 0, 0, 0, 0, 2, 0, 2]
  | 6 => [0, 0, 2]
  | 7 => [0, 2, 2, 2, 2]
  | 8 => [0, 0, 2, 2, 0, 0, 2, 2, 2]
  | 9 => [2, 2, 0, 2, 2, 2, 2]
  | 10 => [2, 2, 2, 2, 0, 0, 0]
  | 11 => [2, 2, 2, 2, 2, 2, 2, 2]
  | _ => [2, 2, 2, 2, 2, 0, 0, 0, 0, 0, 0, 0, 1, 0, 0, 0, 2, 0, 0, 0, 0, 2, 2, 2, 2, 2, 2, 2, 2, 2, 2, 2, 2, 2, 0]
theorem SH_len : SH.length = 293 := by decide +kernel
theorem sh_0 : SH[0]? = some (11, 8, [1, 114, 227, 228, 233, 235, 262, 266]) := by decide +kernel
theorem sh_1 : SH[1]? = some (10, 7, [2, 12, 15, 107, 0, 0, 0]) := by decide +kernel
theorem sh_2 : SH[2]? = some (2, 11, [0, 3, 4, 5, 0, 6, 7, 8, 9, 10, 11]) := by decide +kernel
theorem sh_3 : SH[3]? = some (100, 6, []) := by decide +kernel
theorem sh_4 : SH[4]? = some (100, 6, []) := by decide +kernel
theorem sh_5 : SH[5]? = some (100, 6, []) := by decide +kernel
theorem sh_6 : SH[6]? = some (100, 40, []) := by decide +kernel
theorem sh_7 : SH[7]? = some (100, 10, []) := by decide +kernel
theorem sh_8 : SH[8]? = some (100, 10, []) := by decide +kernel
theorem sh_9 : SH[9]? = some (100, 10, []) := by decide +kernel
theorem sh_10 : SH[10]? = some (100, 5, []) := by decide +kernel
theorem sh_11 : SH[11]? = some (100, 10, []) := by decide +kernel
theorem sh_12 : SH[12]? = some (5, 8, [0, 0, 0, 0, 0, 13, 0, 14]) := by decide +kernel
theorem sh_13 : SH[13]? = some (100, 24, []) := by decide +kernel
theorem sh_14 : SH[14]? = some (100, 80, []) := by decide +kernel
theorem sh_15 : SH[15]? = some (6, 3, [0, 0, 16]) := by decide +kernel
theorem sh_16 : SH[16]? = some (105, 30, [17, 20, 23, 26, 29, 32, 35, 38, 41, 44, 47, 50, 53, 56, 59, 62, 65, 68, 71, 74, 77, 80, 83, 86, 89, 92, 95, 98, 101, 104]) := by decide +kernel
theorem sh_17 : SH[17]? = some (5, 8, [0, 0, 0, 0, 0, 18, 0, 19]) := by decide +kernel
theorem sh_18 : SH[18]? = some (100, 24, []) := by decide +kernel
theorem sh_19 : SH[19]? = some (100, 80, []) := by decide +kernel
theorem sh_20 : SH[20]? = some (5, 8, [0, 0, 0, 0, 0, 21, 0, 22]) := by decide +kernel
theorem sh_21 : SH[21]? = some (100, 24, []) := by decide +kernel
theorem sh_22 : SH[22]? = some (100, 80, []) := by decide +kernel
theorem sh_23 : SH[23]? = some (5, 8, [0, 0, 0, 0, 0, 24, 0, 25]) := by decide +kernel
theorem sh_24 : SH[24]? = some (100, 24, []) := by decide +kernel
theorem sh_25 : SH[25]? = some (100, 80, []) := by decide +kernel
theorem sh_26 : SH[26]? = some (5, 8, [0, 0, 0, 0, 0, 27, 0, 28]) := by decide +kernel
theorem sh_27 : SH[27]? = some (100, 24, []) := by decide +kernel
theorem sh_28 : SH[28]? = some (100, 80, []) := by decide +kernel
theorem sh_29 : SH[29]? = some (5, 8, [0, 0, 0, 0, 0, 30, 0, 31]) := by decide +kernel
theorem sh_30 : SH[30]? = some (100, 24, []) := by decide +kernel
theorem sh_31 : SH[31]? = some (100, 80, []) := by decide +kernel
theorem sh_32 : SH[32]? = some (5, 8, [0, 0, 0, 0, 0, 33, 0, 34]) := by decide +kernel
theorem sh_33 : SH[33]? = some (100, 24, []) := by decide +kernel
theorem sh_34 : SH[34]? = some (100, 80, []) := by decide +kernel
theorem sh_35 : SH[35]? = some (5, 8, [0, 0, 0, 0, 0, 36, 0, 37]) := by decide +kernel
theorem sh_36 : SH[36]? = some (100, 24, []) := by decide +kernel
theorem sh_37 : SH[37]? = some (100, 80, []) := by decide +kernel
theorem sh_38 : SH[38]? = some (5, 8, [0, 0, 0, 0, 0, 39, 0, 40]) := by decide +kernel
theorem sh_39 : SH[39]? = some (100, 24, []) := by decide +kernel
theorem sh_40 : SH[40]? = some (100, 80, []) := by decide +kernel
theorem sh_41 : SH[41]? = some (5, 8, [0, 0, 0, 0, 0, 42, 0, 43]) := by decide +kernel
theorem sh_42 : SH[42]? = some (100, 24, []) := by decide +kernel
theorem sh_43 : SH[43]? = some (100, 80, []) := by decide +kernel
theorem sh_44 : SH[44]? = some (5, 8, [0, 0, 0, 0, 0, 45, 0, 46]) := by decide +kernel
theorem sh_45 : SH[45]? = some (100, 24, []) := by decide +kernel
theorem sh_46 : SH[46]? = some (100, 80, []) := by decide +kernel
theorem sh_47 : SH[47]? = some (5, 8, [0, 0, 0, 0, 0, 48, 0, 49]) := by decide +kernel
theorem sh_48 : SH[48]? = some (100, 24, []) := by decide +kernel
theorem sh_49 : SH[49]? = some (100, 80, []) := by decide +kernel
theorem sh_50 : SH[50]? = some (5, 8, [0, 0, 0, 0, 0, 51, 0, 52]) := by decide +kernel
theorem sh_51 : SH[51]? = some (100, 24, []) := by decide +kernel
theorem sh_52 : SH[52]? = some (100, 80, []) := by decide +kernel
theorem sh_53 : SH[53]? = some (5, 8, [0, 0, 0, 0, 0, 54, 0, 55]) := by decide +kernel
theorem sh_54 : SH[54]? = some (100, 24, []) := by decide +kernel
theorem sh_55 : SH[55]? = some (100, 80, []) := by decide +kernel
theorem sh_56 : SH[56]? = some (5, 8, [0, 0, 0, 0, 0, 57, 0, 58]) := by decide +kernel
theorem sh_57 : SH[57]? = some (100, 24, []) := by decide +kernel
theorem sh_58 : SH[58]? = some (100, 80, []) := by decide +kernel
theorem sh_59 : SH[59]? = some (5, 8, [0, 0, 0, 0, 0, 60, 0, 61]) := by decide +kernel
theorem sh_60 : SH[60]? = some (100, 24, []) := by decide +kernel
theorem sh_61 : SH[61]? = some (100, 80, []) := by decide +kernel
theorem sh_62 : SH[62]? = some (5, 8, [0, 0, 0, 0, 0, 63, 0, 64]) := by decide +kernel
theorem sh_63 : SH[63]? = some (100, 24, []) := by decide +kernel
theorem sh_64 : SH[64]? = some (100, 80, []) := by decide +kernel
theorem sh_65 : SH[65]? = some (5, 8, [0, 0, 0, 0, 0, 66, 0, 67]) := by decide +kernel
theorem sh_66 : SH[66]? = some (100, 24, []) := by decide +kernel
theorem sh_67 : SH[67]? = some (100, 80, []) := by decide +kernel
theorem sh_68 : SH[68]? = some (5, 8, [0, 0, 0, 0, 0, 69, 0, 70]) := by decide +kernel
theorem sh_69 : SH[69]? = some (100, 24, []) := by decide +kernel
theorem sh_70 : SH[70]? = some (100, 80, []) := by decide +kernel
theorem sh_71 : SH[71]? = some (5, 8, [0, 0, 0, 0, 0, 72, 0, 73]) := by decide +kernel
theorem sh_72 : SH[72]? = some (100, 24, []) := by decide +kernel
theorem sh_73 : SH[73]? = some (100, 80, []) := by decide +kernel
theorem sh_74 : SH[74]? = some (5, 8, [0, 0, 0, 0, 0, 75, 0, 76]) := by decide +kernel
theorem sh_75 : SH[75]? = some (100, 24, []) := by decide +kernel
theorem sh_76 : SH[76]? = some (100, 80, []) := by decide +kernel
theorem sh_77 : SH[77]? = some (5, 8, [0, 0, 0, 0, 0, 78, 0, 79]) := by decide +kernel
theorem sh_78 : SH[78]? = some (100, 24, []) := by decide +kernel
theorem sh_79 : SH[79]? = some (100, 80, []) := by decide +kernel
theorem sh_80 : SH[80]? = some (5, 8, [0, 0, 0, 0, 0, 81, 0, 82]) := by decide +kernel
theorem sh_81 : SH[81]? = some (100, 24, []) := by decide +kernel
theorem sh_82 : SH[82]? = some (100, 80, []) := by decide +kernel
theorem sh_83 : SH[83]? = some (5, 8, [0, 0, 0, 0, 0, 84, 0, 85]) := by decide +kernel
theorem sh_84 : SH[84]? = some (100, 24, []) := by decide +kernel
theorem sh_85 : SH[85]? = some (100, 80, []) := by decide +kernel
theorem sh_86 : SH[86]? = some (5, 8, [0, 0, 0, 0, 0, 87, 0, 88]) := by decide +kernel
theorem sh_87 : SH[87]? = some (100, 24, []) := by decide +kernel
theorem sh_88 : SH[88]? = some (100, 80, []) := by decide +kernel
theorem sh_89 : SH[89]? = some (5, 8, [0, 0, 0, 0, 0, 90, 0, 91]) := by decide +kernel
theorem sh_90 : SH[90]? = some (100, 24, []) := by decide +kernel
theorem sh_91 : SH[91]? = some (100, 80, []) := by decide +kernel
theorem sh_92 : SH[92]? = some (5, 8, [0, 0, 0, 0, 0, 93, 0, 94]) := by decide +kernel
theorem sh_93 : SH[93]? = some (100, 24, []) := by decide +kernel
theorem sh_94 : SH[94]? = some (100, 80, []) := by decide +kernel
theorem sh_95 : SH[95]? = some (5, 8, [0, 0, 0, 0, 0, 96, 0, 97]) := by decide +kernel
theorem sh_96 : SH[96]? = some (100, 24, []) := by decide +kernel
theorem sh_97 : SH[97]? = some (100, 80, []) := by decide +kernel
theorem sh_98 : SH[98]? = some (5, 8, [0, 0, 0, 0, 0, 99, 0, 100]) := by decide +kernel
theorem sh_99 : SH[99]? = some (100, 24, []) := by decide +kernel
theorem sh_100 : SH[100]? = some (100, 80, []) := by decide +kernel
theorem sh_101 : SH[101]? = some (5, 8, [0, 0, 0, 0, 0, 102, 0, 103]) := by decide +kernel
theorem sh_102 : SH[102]? = some (100, 24, []) := by decide +kernel
theorem sh_103 : SH[103]? = some (100, 80, []) := by decide +kernel
theorem sh_104 : SH[104]? = some (5, 8, [0, 0, 0, 0, 0, 105, 0, 106]) := by decide +kernel
theorem sh_105 : SH[105]? = some (100, 24, []) := by decide +kernel
theorem sh_106 : SH[106]? = some (100, 80, []) := by decide +kernel
theorem sh_107 : SH[107]? = some (9, 7, [108, 109, 0, 110, 111, 112, 113]) := by decide +kernel
theorem sh_108 : SH[108]? = some (100, 10, []) := by decide +kernel
theorem sh_109 : SH[109]? = some (100, 10, []) := by decide +kernel
theorem sh_110 : SH[110]? = some (100, 8, []) := by decide +kernel
theorem sh_111 : SH[111]? = some (100, 8, []) := by decide +kernel
theorem sh_112 : SH[112]? = some (100, 2, []) := by decide +kernel
theorem sh_113 : SH[113]? = some (100, 24, []) := by decide +kernel
theorem sh_114 : SH[114]? = some (10, 7, [115, 125, 128, 220, 0, 0, 0]) := by decide +kernel
theorem sh_115 : SH[115]? = some (2, 11, [0, 116, 117, 118, 0, 119, 120, 121, 122, 123, 124]) := by decide +kernel
theorem sh_116 : SH[116]? = some (100, 6, []) := by decide +kernel
theorem sh_117 : SH[117]? = some (100, 6, []) := by decide +kernel
theorem sh_118 : SH[118]? = some (100, 6, []) := by decide +kernel
theorem sh_119 : SH[119]? = some (100, 40, []) := by decide +kernel
theorem sh_120 : SH[120]? = some (100, 10, []) := by decide +kernel
theorem sh_121 : SH[121]? = some (100, 10, []) := by decide +kernel
theorem sh_122 : SH[122]? = some (100, 10, []) := by decide +kernel
theorem sh_123 : SH[123]? = some (100, 5, []) := by decide +kernel
theorem sh_124 : SH[124]? = some (100, 10, []) := by decide +kernel
theorem sh_125 : SH[125]? = some (5, 8, [0, 0, 0, 0, 0, 126, 0, 127]) := by decide +kernel
theorem sh_126 : SH[126]? = some (100, 24, []) := by decide +kernel
theorem sh_127 : SH[127]? = some (100, 80, []) := by decide +kernel
theorem sh_128 : SH[128]? = some (6, 3, [0, 0, 129]) := by decide +kernel
theorem sh_129 : SH[129]? = some (105, 30, [130, 133, 136, 139, 142, 145, 148, 151, 154, 157, 160, 163, 166, 169, 172, 175, 178, 181, 184, 187, 190, 193, 196, 199, 202, 205, 208, 211, 214, 217]) := by decide +kernel
theorem sh_130 : SH[130]? = some (5, 8, [0, 0, 0, 0, 0, 131, 0, 132]) := by decide +kernel
theorem sh_131 : SH[131]? = some (100, 24, []) := by decide +kernel
theorem sh_132 : SH[132]? = some (100, 80, []) := by decide +kernel
theorem sh_133 : SH[133]? = some (5, 8, [0, 0, 0, 0, 0, 134, 0, 135]) := by decide +kernel
theorem sh_134 : SH[134]? = some (100, 24, []) := by decide +kernel
theorem sh_135 : SH[135]? = some (100, 80, []) := by decide +kernel
theorem sh_136 : SH[136]? = some (5, 8, [0, 0, 0, 0, 0, 137, 0, 138]) := by decide +kernel
theorem sh_137 : SH[137]? = some (100, 24, []) := by decide +kernel
theorem sh_138 : SH[138]? = some (100, 80, []) := by decide +kernel
theorem sh_139 : SH[139]? = some (5, 8, [0, 0, 0, 0, 0, 140, 0, 141]) := by decide +kernel
theorem sh_140 : SH[140]? = some (100, 24, []) := by decide +kernel
theorem sh_141 : SH[141]? = some (100, 80, []) := by decide +kernel
theorem sh_142 : SH[142]? = some (5, 8, [0, 0, 0, 0, 0, 143, 0, 144]) := by decide +kernel
theorem sh_143 : SH[143]? = some (100, 24, []) := by decide +kernel
theorem sh_144 : SH[144]? = some (100, 80, []) := by decide +kernel
theorem sh_145 : SH[145]? = some (5, 8, [0, 0, 0, 0, 0, 146, 0, 147]) := by decide +kernel
theorem sh_146 : SH[146]? = some (100, 24, []) := by decide +kernel
theorem sh_147 : SH[147]? = some (100, 80, []) := by decide +kernel
theorem sh_148 : SH[148]? = some (5, 8, [0, 0, 0, 0, 0, 149, 0, 150]) := by decide +kernel
theorem sh_149 : SH[149]? = some (100, 24, []) := by decide +kernel
theorem sh_150 : SH[150]? = some (100, 80, []) := by decide +kernel
theorem sh_151 : SH[151]? = some (5, 8, [0, 0, 0, 0, 0, 152, 0, 153]) := by decide +kernel
theorem sh_152 : SH[152]? = some (100, 24, []) := by decide +kernel
theorem sh_153 : SH[153]? = some (100, 80, []) := by decide +kernel
theorem sh_154 : SH[154]? = some (5, 8, [0, 0, 0, 0, 0, 155, 0, 156]) := by decide +kernel
theorem sh_155 : SH[155]? = some (100, 24, []) := by decide +kernel
theorem sh_156 : SH[156]? = some (100, 80, []) := by decide +kernel
theorem sh_157 : SH[157]? = some (5, 8, [0, 0, 0, 0, 0, 158, 0, 159]) := by decide +kernel
theorem sh_158 : SH[158]? = some (100, 24, []) := by decide +kernel
theorem sh_159 : SH[159]? = some (100, 80, []) := by decide +kernel
theorem sh_160 : SH[160]? = some (5, 8, [0, 0, 0, 0, 0, 161, 0, 162]) := by decide +kernel
theorem sh_161 : SH[161]? = some (100, 24, []) := by decide +kernel
theorem sh_162 : SH[162]? = some (100, 80, []) := by decide +kernel
theorem sh_163 : SH[163]? = some (5, 8, [0, 0, 0, 0, 0, 164, 0, 165]) := by decide +kernel
theorem sh_164 : SH[164]? = some (100, 24, []) := by decide +kernel
theorem sh_165 : SH[165]? = some (100, 80, []) := by decide +kernel
theorem sh_166 : SH[166]? = some (5, 8, [0, 0, 0, 0, 0, 167, 0, 168]) := by decide +kernel
theorem sh_167 : SH[167]? = some (100, 24, []) := by decide +kernel
theorem sh_168 : SH[168]? = some (100, 80, []) := by decide +kernel
theorem sh_169 : SH[169]? = some (5, 8, [0, 0, 0, 0, 0, 170, 0, 171]) := by decide +kernel
theorem sh_170 : SH[170]? = some (100, 24, []) := by decide +kernel
theorem sh_171 : SH[171]? = some (100, 80, []) := by decide +kernel
theorem sh_172 : SH[172]? = some (5, 8, [0, 0, 0, 0, 0, 173, 0, 174]) := by decide +kernel
theorem sh_173 : SH[173]? = some (100, 24, []) := by decide +kernel
theorem sh_174 : SH[174]? = some (100, 80, []) := by decide +kernel
theorem sh_175 : SH[175]? = some (5, 8, [0, 0, 0, 0, 0, 176, 0, 177]) := by decide +kernel
theorem sh_176 : SH[176]? = some (100, 24, []) := by decide +kernel
theorem sh_177 : SH[177]? = some (100, 80, []) := by decide +kernel
theorem sh_178 : SH[178]? = some (5, 8, [0, 0, 0, 0, 0, 179, 0, 180]) := by decide +kernel
theorem sh_179 : SH[179]? = some (100, 24, []) := by decide +kernel
theorem sh_180 : SH[180]? = some (100, 80, []) := by decide +kernel
theorem sh_181 : SH[181]? = some (5, 8, [0, 0, 0, 0, 0, 182, 0, 183]) := by decide +kernel
theorem sh_182 : SH[182]? = some (100, 24, []) := by decide +kernel
theorem sh_183 : SH[183]? = some (100, 80, []) := by decide +kernel
theorem sh_184 : SH[184]? = some (5, 8, [0, 0, 0, 0, 0, 185, 0, 186]) := by decide +kernel
theorem sh_185 : SH[185]? = some (100, 24, []) := by decide +kernel
theorem sh_186 : SH[186]? = some (100, 80, []) := by decide +kernel
theorem sh_187 : SH[187]? = some (5, 8, [0, 0, 0, 0, 0, 188, 0, 189]) := by decide +kernel
theorem sh_188 : SH[188]? = some (100, 24, []) := by decide +kernel
theorem sh_189 : SH[189]? = some (100, 80, []) := by decide +kernel
theorem sh_190 : SH[190]? = some (5, 8, [0, 0, 0, 0, 0, 191, 0, 192]) := by decide +kernel
theorem sh_191 : SH[191]? = some (100, 24, []) := by decide +kernel
theorem sh_192 : SH[192]? = some (100, 80, []) := by decide +kernel
theorem sh_193 : SH[193]? = some (5, 8, [0, 0, 0, 0, 0, 194, 0, 195]) := by decide +kernel
theorem sh_194 : SH[194]? = some (100, 24, []) := by decide +kernel
theorem sh_195 : SH[195]? = some (100, 80, []) := by decide +kernel
theorem sh_196 : SH[196]? = some (5, 8, [0, 0, 0, 0, 0, 197, 0, 198]) := by decide +kernel
theorem sh_197 : SH[197]? = some (100, 24, []) := by decide +kernel
theorem sh_198 : SH[198]? = some (100, 80, []) := by decide +kernel
theorem sh_199 : SH[199]? = some (5, 8, [0, 0, 0, 0, 0, 200, 0, 201]) := by decide +kernel
theorem sh_200 : SH[200]? = some (100, 24, []) := by decide +kernel
theorem sh_201 : SH[201]? = some (100, 80, []) := by decide +kernel
theorem sh_202 : SH[202]? = some (5, 8, [0, 0, 0, 0, 0, 203, 0, 204]) := by decide +kernel
theorem sh_203 : SH[203]? = some (100, 24, []) := by decide +kernel
theorem sh_204 : SH[204]? = some (100, 80, []) := by decide +kernel
theorem sh_205 : SH[205]? = some (5, 8, [0, 0, 0, 0, 0, 206, 0, 207]) := by decide +kernel
theorem sh_206 : SH[206]? = some (100, 24, []) := by decide +kernel
theorem sh_207 : SH[207]? = some (100, 80, []) := by decide +kernel
theorem sh_208 : SH[208]? = some (5, 8, [0, 0, 0, 0, 0, 209, 0, 210]) := by decide +kernel
theorem sh_209 : SH[209]? = some (100, 24, []) := by decide +kernel
theorem sh_210 : SH[210]? = some (100, 80, []) := by decide +kernel
theorem sh_211 : SH[211]? = some (5, 8, [0, 0, 0, 0, 0, 212, 0, 213]) := by decide +kernel
theorem sh_212 : SH[212]? = some (100, 24, []) := by decide +kernel
theorem sh_213 : SH[213]? = some (100, 80, []) := by decide +kernel
theorem sh_214 : SH[214]? = some (5, 8, [0, 0, 0, 0, 0, 215, 0, 216]) := by decide +kernel
theorem sh_215 : SH[215]? = some (100, 24, []) := by decide +kernel
theorem sh_216 : SH[216]? = some (100, 80, []) := by decide +kernel
theorem sh_217 : SH[217]? = some (5, 8, [0, 0, 0, 0, 0, 218, 0, 219]) := by decide +kernel
theorem sh_218 : SH[218]? = some (100, 24, []) := by decide +kernel
theorem sh_219 : SH[219]? = some (100, 80, []) := by decide +kernel
theorem sh_220 : SH[220]? = some (9, 7, [221, 222, 0, 223, 224, 225, 226]) := by decide +kernel
theorem sh_221 : SH[221]? = some (100, 10, []) := by decide +kernel
theorem sh_222 : SH[222]? = some (100, 10, []) := by decide +kernel
theorem sh_223 : SH[223]? = some (100, 8, []) := by decide +kernel
theorem sh_224 : SH[224]? = some (100, 8, []) := by decide +kernel
theorem sh_225 : SH[225]? = some (100, 2, []) := by decide +kernel
theorem sh_226 : SH[226]? = some (100, 24, []) := by decide +kernel
theorem sh_227 : SH[227]? = some (104, 4, [238, 244, 250, 256]) := by decide +kernel
theorem sh_228 : SH[228]? = some (7, 5, [0, 229, 230, 231, 232]) := by decide +kernel
theorem sh_229 : SH[229]? = some (101, 300, []) := by decide +kernel
theorem sh_230 : SH[230]? = some (100, 301, []) := by decide +kernel
theorem sh_231 : SH[231]? = some (100, 301, []) := by decide +kernel
theorem sh_232 : SH[232]? = some (100, 301, []) := by decide +kernel
theorem sh_233 : SH[233]? = some (3, 13, [0, 0, 228, 0, 0, 0, 234, 0, 0, 0, 0, 0, 0]) := by decide +kernel
theorem sh_234 : SH[234]? = some (100, 64, []) := by decide +kernel
theorem sh_235 : SH[235]? = some (4, 2, [236, 237]) := by decide +kernel
theorem sh_236 : SH[236]? = some (100, 120, []) := by decide +kernel
theorem sh_237 : SH[237]? = some (100, 120, []) := by decide +kernel
theorem sh_238 : SH[238]? = some (8, 9, [0, 0, 239, 240, 0, 0, 241, 242, 243]) := by decide +kernel
theorem sh_239 : SH[239]? = some (100, 24, []) := by decide +kernel
theorem sh_240 : SH[240]? = some (100, 144, []) := by decide +kernel
theorem sh_241 : SH[241]? = some (100, 300, []) := by decide +kernel
theorem sh_242 : SH[242]? = some (100, 3, []) := by decide +kernel
theorem sh_243 : SH[243]? = some (100, 3, []) := by decide +kernel
theorem sh_244 : SH[244]? = some (8, 9, [0, 0, 245, 246, 0, 0, 247, 248, 249]) := by decide +kernel
theorem sh_245 : SH[245]? = some (100, 24, []) := by decide +kernel
theorem sh_246 : SH[246]? = some (100, 144, []) := by decide +kernel
theorem sh_247 : SH[247]? = some (100, 300, []) := by decide +kernel
theorem sh_248 : SH[248]? = some (100, 3, []) := by decide +kernel
theorem sh_249 : SH[249]? = some (100, 3, []) := by decide +kernel
theorem sh_250 : SH[250]? = some (8, 9, [0, 0, 251, 252, 0, 0, 253, 254, 255]) := by decide +kernel
theorem sh_251 : SH[251]? = some (100, 24, []) := by decide +kernel
theorem sh_252 : SH[252]? = some (100, 144, []) := by decide +kernel
theorem sh_253 : SH[253]? = some (100, 300, []) := by decide +kernel
theorem sh_254 : SH[254]? = some (100, 3, []) := by decide +kernel
theorem sh_255 : SH[255]? = some (100, 3, []) := by decide +kernel
theorem sh_256 : SH[256]? = some (8, 9, [0, 0, 257, 258, 0, 0, 259, 260, 261]) := by decide +kernel
theorem sh_257 : SH[257]? = some (100, 24, []) := by decide +kernel
theorem sh_258 : SH[258]? = some (100, 144, []) := by decide +kernel
theorem sh_259 : SH[259]? = some (100, 300, []) := by decide +kernel
theorem sh_260 : SH[260]? = some (100, 3, []) := by decide +kernel
theorem sh_261 : SH[261]? = some (100, 3, []) := by decide +kernel
theorem sh_262 : SH[262]? = some (1, 5, [1, 227, 263, 264, 265]) := by decide +kernel
theorem sh_263 : SH[263]? = some (100, 23, []) := by decide +kernel
theorem sh_264 : SH[264]? = some (100, 64, []) := by decide +kernel
theorem sh_265 : SH[265]? = some (100, 2400, []) := by decide +kernel
theorem sh_266 : SH[266]? = some (0, 9, [1, 262, 0, 267, 268, 269, 270, 271, 272]) := by decide +kernel
theorem sh_267 : SH[267]? = some (100, 24, []) := by decide +kernel
theorem sh_268 : SH[268]? = some (100, 25, []) := by decide +kernel
theorem sh_269 : SH[269]? = some (100, 25, []) := by decide +kernel
theorem sh_270 : SH[270]? = some (100, 25, []) := by decide +kernel
theorem sh_271 : SH[271]? = some (100, 6250, []) := by decide +kernel
theorem sh_272 : SH[272]? = some (100, 5, []) := by decide +kernel
theorem sh_273 : SH[273]? = some (12, 35, [274, 275, 276, 277, 278, 0, 0, 0, 0, 0, 0, 0, 0, 0, 0, 0, 279, 0, 0, 0, 0, 280, 281, 282, 283, 284, 285, 286, 287, 288, 289, 290, 291, 292, 0]) := by decide +kernel
theorem sh_274 : SH[274]? = some (100, 5968, []) := by decide +kernel
theorem sh_275 : SH[275]? = some (100, 5968, []) := by decide +kernel
theorem sh_276 : SH[276]? = some (100, 3204, []) := by decide +kernel
theorem sh_277 : SH[277]? = some (100, 4, []) := by decide +kernel
theorem sh_278 : SH[278]? = some (100, 300, []) := by decide +kernel
theorem sh_279 : SH[279]? = some (100, 160, []) := by decide +kernel
theorem sh_280 : SH[280]? = some (100, 13, []) := by decide +kernel
theorem sh_281 : SH[281]? = some (103, 330, []) := by decide +kernel
theorem sh_282 : SH[282]? = some (102, 330, []) := by decide +kernel
theorem sh_283 : SH[283]? = some (100, 24, []) := by decide +kernel
theorem sh_284 : SH[284]? = some (100, 6875, []) := by decide +kernel
theorem sh_285 : SH[285]? = some (102, 2500, []) := by decide +kernel
theorem sh_286 : SH[286]? = some (102, 10, []) := by decide +kernel
theorem sh_287 : SH[287]? = some (100, 24, []) := by decide +kernel
theorem sh_288 : SH[288]? = some (100, 24, []) := by decide +kernel
theorem sh_289 : SH[289]? = some (100, 625, []) := by decide +kernel
theorem sh_290 : SH[290]? = some (100, 10, []) := by decide +kernel
theorem sh_291 : SH[291]? = some (100, 120, []) := by decide +kernel
theorem sh_292 : SH[292]? = some (100, 120, []) := by decide +kernel
