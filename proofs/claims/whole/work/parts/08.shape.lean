/-- the cells, in the order of their making: an object (its class, its fields: 0 an int, 1 a long, r + 2 the cell r), an array (its kind, its length, its cells) -/
def SHL : List ((Nat × List Nat) ⊕ (Nat × Nat × List Nat)) := [
  .inl (7, [3, 0, 0, 4, 9, 14, 15, 23, 31, 48, 49, 53, 56, 64, 70]),
  .inr (1, 400, []),
  .inl (4, [0, 0, 0, 5, 6, 7, 8]),
  .inr (0, 5, []),
  .inr (0, 20, []),
  .inr (0, 20, []),
  .inr (0, 30, []),
  .inl (4, [0, 0, 0, 10, 11, 12, 13]),
  .inr (0, 5, []),
  .inr (0, 20, []),
  .inr (0, 20, []),
  .inr (0, 30, []),
  .inl (2, [3, 9, 0, 0, 0, 0, 0, 0]),
  .inl (5, [4, 0, 0, 0, 0, 16, 17, 18, 19, 20, 21, 22]),
  .inr (0, 32, []),
  .inr (0, 32, []),
  .inr (0, 32, []),
  .inr (0, 32, []),
  .inr (0, 640, []),
  .inr (0, 5, []),
  .inr (0, 30, []),
  .inl (5, [4, 0, 0, 0, 0, 24, 25, 26, 27, 28, 29, 30]),
  .inr (0, 32, []),
  .inr (0, 32, []),
  .inr (0, 32, []),
  .inr (0, 32, []),
  .inr (0, 640, []),
  .inr (0, 5, []),
  .inr (0, 30, []),
  .inr (3, 2, [30, 38]),
  .inl (5, [4, 0, 0, 0, 0, 33, 34, 35, 36, 37, 38, 39]),
  .inr (0, 32, []),
  .inr (0, 32, []),
  .inr (0, 32, []),
  .inr (0, 32, []),
  .inr (0, 640, []),
  .inr (0, 5, []),
  .inr (0, 30, []),
  .inl (5, [4, 0, 0, 0, 0, 41, 42, 43, 44, 45, 46, 47]),
  .inr (0, 32, []),
  .inr (0, 32, []),
  .inr (0, 32, []),
  .inr (0, 32, []),
  .inr (0, 640, []),
  .inr (0, 5, []),
  .inr (0, 30, []),
  .inr (2, 2, []),
  .inl (0, [0, 50, 51, 52]),
  .inr (0, 40, []),
  .inr (0, 40, []),
  .inr (2, 40, []),
  .inl (1, [15, 54, 55, 0]),
  .inr (0, 32, []),
  .inr (0, 32, []),
  .inl (3, [15, 0, 0, 57, 58, 59, 60, 61, 62, 63]),
  .inr (0, 5, []),
  .inr (0, 5, []),
  .inr (0, 5, []),
  .inr (0, 5, []),
  .inr (0, 20, []),
  .inr (0, 5, []),
  .inr (0, 25, []),
  .inl (6, [15, 65, 66, 67, 68, 69, 0]),
  .inr (0, 2, []),
  .inr (0, 2, []),
  .inr (0, 2, []),
  .inr (0, 6, []),
  .inr (0, 6, []),
  .inr (0, 5, []),
  .inl (8, [0, 0, 72, 73, 0, 74, 75, 0, 76, 77, 78, 79, 80, 0, 0, 81, 0, 0, 0, 1, 0, 0, 0, 0, 0, 82, 0, 83, 84, 0, 85, 86, 87, 88, 89, 90, 91, 92, 0, 93, 0, 94, 95, 96, 97, 98]),
  .inr (0, 5, []),
  .inr (0, 30, []),
  .inr (0, 20, []),
  .inr (0, 20, []),
  .inr (0, 32, []),
  .inr (0, 32, []),
  .inr (0, 32, []),
  .inr (0, 32, []),
  .inr (0, 640, []),
  .inr (0, 400, []),
  .inr (0, 5, []),
  .inr (0, 20, []),
  .inr (0, 20, []),
  .inr (0, 30, []),
  .inr (0, 5, []),
  .inr (0, 32, []),
  .inr (0, 5, []),
  .inr (0, 5, []),
  .inr (0, 5, []),
  .inr (0, 5, []),
  .inr (0, 8, []),
  .inr (0, 6561, []),
  .inr (0, 40, []),
  .inr (0, 40, []),
  .inr (2, 40, []),
  .inr (0, 2400, []),
  .inr (2, 2, [])]
theorem so_0 : SHL[0]? = some (.inl (7, [3, 0, 0, 4, 9, 14, 15, 23, 31, 48, 49, 53, 56, 64, 70])) := rfl
theorem so_1 : SHL[1]? = some (.inr (1, 400, [])) := rfl
theorem so_2 : SHL[2]? = some (.inl (4, [0, 0, 0, 5, 6, 7, 8])) := rfl
theorem so_3 : SHL[3]? = some (.inr (0, 5, [])) := rfl
theorem so_4 : SHL[4]? = some (.inr (0, 20, [])) := rfl
theorem so_5 : SHL[5]? = some (.inr (0, 20, [])) := rfl
theorem so_6 : SHL[6]? = some (.inr (0, 30, [])) := rfl
theorem so_7 : SHL[7]? = some (.inl (4, [0, 0, 0, 10, 11, 12, 13])) := rfl
theorem so_8 : SHL[8]? = some (.inr (0, 5, [])) := rfl
theorem so_9 : SHL[9]? = some (.inr (0, 20, [])) := rfl
theorem so_10 : SHL[10]? = some (.inr (0, 20, [])) := rfl
theorem so_11 : SHL[11]? = some (.inr (0, 30, [])) := rfl
theorem so_12 : SHL[12]? = some (.inl (2, [3, 9, 0, 0, 0, 0, 0, 0])) := rfl
theorem so_13 : SHL[13]? = some (.inl (5, [4, 0, 0, 0, 0, 16, 17, 18, 19, 20, 21, 22])) := rfl
theorem so_14 : SHL[14]? = some (.inr (0, 32, [])) := rfl
theorem so_15 : SHL[15]? = some (.inr (0, 32, [])) := rfl
theorem so_16 : SHL[16]? = some (.inr (0, 32, [])) := rfl
theorem so_17 : SHL[17]? = some (.inr (0, 32, [])) := rfl
theorem so_18 : SHL[18]? = some (.inr (0, 640, [])) := rfl
theorem so_19 : SHL[19]? = some (.inr (0, 5, [])) := rfl
theorem so_20 : SHL[20]? = some (.inr (0, 30, [])) := rfl
theorem so_21 : SHL[21]? = some (.inl (5, [4, 0, 0, 0, 0, 24, 25, 26, 27, 28, 29, 30])) := rfl
theorem so_22 : SHL[22]? = some (.inr (0, 32, [])) := rfl
theorem so_23 : SHL[23]? = some (.inr (0, 32, [])) := rfl
theorem so_24 : SHL[24]? = some (.inr (0, 32, [])) := rfl
theorem so_25 : SHL[25]? = some (.inr (0, 32, [])) := rfl
theorem so_26 : SHL[26]? = some (.inr (0, 640, [])) := rfl
theorem so_27 : SHL[27]? = some (.inr (0, 5, [])) := rfl
theorem so_28 : SHL[28]? = some (.inr (0, 30, [])) := rfl
theorem so_29 : SHL[29]? = some (.inr (3, 2, [30, 38])) := rfl
theorem so_30 : SHL[30]? = some (.inl (5, [4, 0, 0, 0, 0, 33, 34, 35, 36, 37, 38, 39])) := rfl
theorem so_31 : SHL[31]? = some (.inr (0, 32, [])) := rfl
theorem so_32 : SHL[32]? = some (.inr (0, 32, [])) := rfl
theorem so_33 : SHL[33]? = some (.inr (0, 32, [])) := rfl
theorem so_34 : SHL[34]? = some (.inr (0, 32, [])) := rfl
theorem so_35 : SHL[35]? = some (.inr (0, 640, [])) := rfl
theorem so_36 : SHL[36]? = some (.inr (0, 5, [])) := rfl
theorem so_37 : SHL[37]? = some (.inr (0, 30, [])) := rfl
theorem so_38 : SHL[38]? = some (.inl (5, [4, 0, 0, 0, 0, 41, 42, 43, 44, 45, 46, 47])) := rfl
theorem so_39 : SHL[39]? = some (.inr (0, 32, [])) := rfl
theorem so_40 : SHL[40]? = some (.inr (0, 32, [])) := rfl
theorem so_41 : SHL[41]? = some (.inr (0, 32, [])) := rfl
theorem so_42 : SHL[42]? = some (.inr (0, 32, [])) := rfl
theorem so_43 : SHL[43]? = some (.inr (0, 640, [])) := rfl
theorem so_44 : SHL[44]? = some (.inr (0, 5, [])) := rfl
theorem so_45 : SHL[45]? = some (.inr (0, 30, [])) := rfl
theorem so_46 : SHL[46]? = some (.inr (2, 2, [])) := rfl
theorem so_47 : SHL[47]? = some (.inl (0, [0, 50, 51, 52])) := rfl
theorem so_48 : SHL[48]? = some (.inr (0, 40, [])) := rfl
theorem so_49 : SHL[49]? = some (.inr (0, 40, [])) := rfl
theorem so_50 : SHL[50]? = some (.inr (2, 40, [])) := rfl
theorem so_51 : SHL[51]? = some (.inl (1, [15, 54, 55, 0])) := rfl
theorem so_52 : SHL[52]? = some (.inr (0, 32, [])) := rfl
theorem so_53 : SHL[53]? = some (.inr (0, 32, [])) := rfl
theorem so_54 : SHL[54]? = some (.inl (3, [15, 0, 0, 57, 58, 59, 60, 61, 62, 63])) := rfl
theorem so_55 : SHL[55]? = some (.inr (0, 5, [])) := rfl
theorem so_56 : SHL[56]? = some (.inr (0, 5, [])) := rfl
theorem so_57 : SHL[57]? = some (.inr (0, 5, [])) := rfl
theorem so_58 : SHL[58]? = some (.inr (0, 5, [])) := rfl
theorem so_59 : SHL[59]? = some (.inr (0, 20, [])) := rfl
theorem so_60 : SHL[60]? = some (.inr (0, 5, [])) := rfl
theorem so_61 : SHL[61]? = some (.inr (0, 25, [])) := rfl
theorem so_62 : SHL[62]? = some (.inl (6, [15, 65, 66, 67, 68, 69, 0])) := rfl
theorem so_63 : SHL[63]? = some (.inr (0, 2, [])) := rfl
theorem so_64 : SHL[64]? = some (.inr (0, 2, [])) := rfl
theorem so_65 : SHL[65]? = some (.inr (0, 2, [])) := rfl
theorem so_66 : SHL[66]? = some (.inr (0, 6, [])) := rfl
theorem so_67 : SHL[67]? = some (.inr (0, 6, [])) := rfl
theorem so_68 : SHL[68]? = some (.inr (0, 5, [])) := rfl
theorem so_69 : SHL[69]? = some (.inl (8, [0, 0, 72, 73, 0, 74, 75, 0, 76, 77, 78, 79, 80, 0, 0, 81, 0, 0, 0, 1, 0, 0, 0, 0, 0, 82, 0, 83, 84, 0, 85, 86, 87, 88, 89, 90, 91, 92, 0, 93, 0, 94, 95, 96, 97, 98])) := rfl
theorem so_70 : SHL[70]? = some (.inr (0, 5, [])) := rfl
theorem so_71 : SHL[71]? = some (.inr (0, 30, [])) := rfl
theorem so_72 : SHL[72]? = some (.inr (0, 20, [])) := rfl
theorem so_73 : SHL[73]? = some (.inr (0, 20, [])) := rfl
theorem so_74 : SHL[74]? = some (.inr (0, 32, [])) := rfl
theorem so_75 : SHL[75]? = some (.inr (0, 32, [])) := rfl
theorem so_76 : SHL[76]? = some (.inr (0, 32, [])) := rfl
theorem so_77 : SHL[77]? = some (.inr (0, 32, [])) := rfl
theorem so_78 : SHL[78]? = some (.inr (0, 640, [])) := rfl
theorem so_79 : SHL[79]? = some (.inr (0, 400, [])) := rfl
theorem so_80 : SHL[80]? = some (.inr (0, 5, [])) := rfl
theorem so_81 : SHL[81]? = some (.inr (0, 20, [])) := rfl
theorem so_82 : SHL[82]? = some (.inr (0, 20, [])) := rfl
theorem so_83 : SHL[83]? = some (.inr (0, 30, [])) := rfl
theorem so_84 : SHL[84]? = some (.inr (0, 5, [])) := rfl
theorem so_85 : SHL[85]? = some (.inr (0, 32, [])) := rfl
theorem so_86 : SHL[86]? = some (.inr (0, 5, [])) := rfl
theorem so_87 : SHL[87]? = some (.inr (0, 5, [])) := rfl
theorem so_88 : SHL[88]? = some (.inr (0, 5, [])) := rfl
theorem so_89 : SHL[89]? = some (.inr (0, 5, [])) := rfl
theorem so_90 : SHL[90]? = some (.inr (0, 8, [])) := rfl
theorem so_91 : SHL[91]? = some (.inr (0, 6561, [])) := rfl
theorem so_92 : SHL[92]? = some (.inr (0, 40, [])) := rfl
theorem so_93 : SHL[93]? = some (.inr (0, 40, [])) := rfl
theorem so_94 : SHL[94]? = some (.inr (2, 40, [])) := rfl
theorem so_95 : SHL[95]? = some (.inr (0, 2400, [])) := rfl
theorem so_96 : SHL[96]? = some (.inr (2, 2, [])) := rfl
