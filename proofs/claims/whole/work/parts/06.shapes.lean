/-! ===== the shapes of the two worlds ===== -/
def shC : List fm_Sh := [(16, 12, [some 1, some 15, some 29, some 58, some 59, some 173, some 175, some 176, some 178, some 181, some 200, some 220]), (14, 5, [none, none, some 2, some 9, some 14]), (4, 6, [some 3, some 4, some 5, some 6, some 7, some 8]), (0, 6, []), (0, 6, []), (0, 6, []), (0, 6, []), (0, 6, []), (0, 6, []), (4, 4, [some 10, some 11, some 12, some 13]), (0, 15, []), (0, 15, []), (0, 15, []), (0, 15, []), (0, 3, []), (14, 5, [none, none, some 16, some 23, some 28]), (4, 6, [some 17, some 18, some 19, some 20, some 21, some 22]), (0, 6, []), (0, 6, []), (0, 6, []), (0, 6, []), (0, 6, []), (0, 6, []), (4, 4, [some 24, some 25, some 26, some 27]), (0, 15, []), (0, 15, []), (0, 15, []), (0, 15, []), (0, 3, []), (5, 2, [some 30, some 44]), (14, 5, [none, none, some 31, some 38, some 43]), (4, 6, [some 32, some 33, some 34, some 35, some 36, some 37]), (0, 6, []), (0, 6, []), (0, 6, []), (0, 6, []), (0, 6, []), (0, 6, []), (4, 4, [some 39, some 40, some 41, some 42]), (0, 15, []), (0, 15, []), (0, 15, []), (0, 15, []), (0, 3, []), (14, 5, [none, none, some 45, some 52, some 57]), (4, 6, [some 46, some 47, some 48, some 49, some 50, some 51]), (0, 6, []), (0, 6, []), (0, 6, []), (0, 6, []), (0, 6, []), (0, 6, []), (4, 4, [some 53, some 54, some 55, some 56]), (0, 15, []), (0, 15, []), (0, 15, []), (0, 15, []), (0, 3, []), (2, 2, []), (12, 2, [some 60, none]), (6, 8, []), (14, 5, [none, none, some 62, some 69, some 74]), (4, 6, [some 63, some 64, some 65, some 66, some 67, some 68]), (0, 6, []), (0, 6, []), (0, 6, []), (0, 6, []), (0, 6, []), (0, 6, []), (4, 4, [some 70, some 71, some 72, some 73]), (0, 15, []), (0, 15, []), (0, 15, []), (0, 15, []), (0, 3, []), (14, 5, [none, none, some 76, some 83, some 88]), (4, 6, [some 77, some 78, some 79, some 80, some 81, some 82]), (0, 6, []), (0, 6, []), (0, 6, []), (0, 6, []), (0, 6, []), (0, 6, []), (4, 4, [some 84, some 85, some 86, some 87]), (0, 15, []), (0, 15, []), (0, 15, []), (0, 15, []), (0, 3, []), (14, 5, [none, none, some 90, some 97, some 102]), (4, 6, [some 91, some 92, some 93, some 94, some 95, some 96]), (0, 6, []), (0, 6, []), (0, 6, []), (0, 6, []), (0, 6, []), (0, 6, []), (4, 4, [some 98, some 99, some 100, some 101]), (0, 15, []), (0, 15, []), (0, 15, []), (0, 15, []), (0, 3, []), (14, 5, [none, none, some 104, some 111, some 116]), (4, 6, [some 105, some 106, some 107, some 108, some 109, some 110]), (0, 6, []), (0, 6, []), (0, 6, []), (0, 6, []), (0, 6, []), (0, 6, []), (4, 4, [some 112, some 113, some 114, some 115]), (0, 15, []), (0, 15, []), (0, 15, []), (0, 15, []), (0, 3, []), (14, 5, [none, none, some 118, some 125, some 130]), (4, 6, [some 119, some 120, some 121, some 122, some 123, some 124]), (0, 6, []), (0, 6, []), (0, 6, []), (0, 6, []), (0, 6, []), (0, 6, []), (4, 4, [some 126, some 127, some 128, some 129]), (0, 15, []), (0, 15, []), (0, 15, []), (0, 15, []), (0, 3, []), (14, 5, [none, none, some 132, some 139, some 144]), (4, 6, [some 133, some 134, some 135, some 136, some 137, some 138]), (0, 6, []), (0, 6, []), (0, 6, []), (0, 6, []), (0, 6, []), (0, 6, []), (4, 4, [some 140, some 141, some 142, some 143]), (0, 15, []), (0, 15, []), (0, 15, []), (0, 15, []), (0, 3, []), (14, 5, [none, none, some 146, some 153, some 158]), (4, 6, [some 147, some 148, some 149, some 150, some 151, some 152]), (0, 6, []), (0, 6, []), (0, 6, []), (0, 6, []), (0, 6, []), (0, 6, []), (4, 4, [some 154, some 155, some 156, some 157]), (0, 15, []), (0, 15, []), (0, 15, []), (0, 15, []), (0, 3, []), (14, 5, [none, none, some 160, some 167, some 172]), (4, 6, [some 161, some 162, some 163, some 164, some 165, some 166]), (0, 6, []), (0, 6, []), (0, 6, []), (0, 6, []), (0, 6, []), (0, 6, []), (4, 4, [some 168, some 169, some 170, some 171]), (0, 15, []), (0, 15, []), (0, 15, []), (0, 15, []), (0, 3, []), (11, 2, [some 174, none]), (0, 80, []), (13, 1, [some 173]), (15, 2, [some 177, none]), (3, 17, []), (10, 5, [some 1, some 179, some 180, none, none]), (0, 3606, []), (0, 3606, []), (7, 11, [some 1, some 178, some 182, some 189, some 190, some 191, some 197, some 198, some 199, none, none]), (4, 6, [some 183, some 184, some 185, some 186, some 187, some 188]), (0, 48, []), (0, 48, []), (0, 48, []), (0, 48, []), (0, 48, []), (0, 48, []), (0, 48, []), (0, 48, []), (4, 5, [some 192, some 193, some 194, some 195, some 196]), (0, 48, []), (0, 48, []), (0, 48, []), (0, 48, []), (0, 48, []), (0, 48, []), (0, 5, []), (0, 48, []), (8, 3, [some 181, some 201, some 219]), (4, 17, [some 202, some 203, some 204, some 205, some 206, some 207, some 208, some 209, some 210, some 211, some 212, some 213, some 214, some 215, some 216, some 217, some 218]), (0, 48, []), (0, 48, []), (0, 48, []), (0, 48, []), (0, 48, []), (0, 48, []), (0, 48, []), (0, 48, []), (0, 48, []), (0, 48, []), (0, 48, []), (0, 48, []), (0, 48, []), (0, 48, []), (0, 48, []), (0, 48, []), (0, 48, []), (0, 17, []), (9, 1, [none])]
def shM : List fm_Sh := [(17, 31, [some 1, some 2, none, some 3, none, none, none, none, none, some 4, some 5, none, none, none, some 6, none, some 7, some 8, some 9, some 10, none, some 11, some 12, some 13, some 14, none, some 15, none, some 16, some 17, some 18]), (0, 101, []), (1, 80, []), (3, 32, []), (0, 320, []), (0, 3606, []), (0, 6, []), (0, 48, []), (0, 288, []), (0, 48, []), (0, 48, []), (0, 17, []), (0, 49, []), (0, 808, []), (0, 101, []), (0, 6, []), (0, 101, []), (0, 202, []), (2, 2, [])]
theorem hC_0 : shC[0]? = some (16, 12, [some 1, some 15, some 29, some 58, some 59, some 173, some 175, some 176, some 178, some 181, some 200, some 220]) := by decide +kernel
theorem hC_1 : shC[1]? = some (14, 5, [none, none, some 2, some 9, some 14]) := by decide +kernel
theorem hC_2 : shC[2]? = some (4, 6, [some 3, some 4, some 5, some 6, some 7, some 8]) := by decide +kernel
theorem hC_3 : shC[3]? = some (0, 6, []) := by decide +kernel
theorem hC_4 : shC[4]? = some (0, 6, []) := by decide +kernel
theorem hC_5 : shC[5]? = some (0, 6, []) := by decide +kernel
theorem hC_6 : shC[6]? = some (0, 6, []) := by decide +kernel
theorem hC_7 : shC[7]? = some (0, 6, []) := by decide +kernel
theorem hC_8 : shC[8]? = some (0, 6, []) := by decide +kernel
theorem hC_9 : shC[9]? = some (4, 4, [some 10, some 11, some 12, some 13]) := by decide +kernel
theorem hC_10 : shC[10]? = some (0, 15, []) := by decide +kernel
theorem hC_11 : shC[11]? = some (0, 15, []) := by decide +kernel
theorem hC_12 : shC[12]? = some (0, 15, []) := by decide +kernel
theorem hC_13 : shC[13]? = some (0, 15, []) := by decide +kernel
theorem hC_14 : shC[14]? = some (0, 3, []) := by decide +kernel
theorem hC_15 : shC[15]? = some (14, 5, [none, none, some 16, some 23, some 28]) := by decide +kernel
theorem hC_16 : shC[16]? = some (4, 6, [some 17, some 18, some 19, some 20, some 21, some 22]) := by decide +kernel
theorem hC_17 : shC[17]? = some (0, 6, []) := by decide +kernel
theorem hC_18 : shC[18]? = some (0, 6, []) := by decide +kernel
theorem hC_19 : shC[19]? = some (0, 6, []) := by decide +kernel
theorem hC_20 : shC[20]? = some (0, 6, []) := by decide +kernel
theorem hC_21 : shC[21]? = some (0, 6, []) := by decide +kernel
theorem hC_22 : shC[22]? = some (0, 6, []) := by decide +kernel
theorem hC_23 : shC[23]? = some (4, 4, [some 24, some 25, some 26, some 27]) := by decide +kernel
theorem hC_24 : shC[24]? = some (0, 15, []) := by decide +kernel
theorem hC_25 : shC[25]? = some (0, 15, []) := by decide +kernel
theorem hC_26 : shC[26]? = some (0, 15, []) := by decide +kernel
theorem hC_27 : shC[27]? = some (0, 15, []) := by decide +kernel
theorem hC_28 : shC[28]? = some (0, 3, []) := by decide +kernel
theorem hC_29 : shC[29]? = some (5, 2, [some 30, some 44]) := by decide +kernel
theorem hC_30 : shC[30]? = some (14, 5, [none, none, some 31, some 38, some 43]) := by decide +kernel
theorem hC_31 : shC[31]? = some (4, 6, [some 32, some 33, some 34, some 35, some 36, some 37]) := by decide +kernel
theorem hC_32 : shC[32]? = some (0, 6, []) := by decide +kernel
theorem hC_33 : shC[33]? = some (0, 6, []) := by decide +kernel
theorem hC_34 : shC[34]? = some (0, 6, []) := by decide +kernel
theorem hC_35 : shC[35]? = some (0, 6, []) := by decide +kernel
theorem hC_36 : shC[36]? = some (0, 6, []) := by decide +kernel
theorem hC_37 : shC[37]? = some (0, 6, []) := by decide +kernel
theorem hC_38 : shC[38]? = some (4, 4, [some 39, some 40, some 41, some 42]) := by decide +kernel
theorem hC_39 : shC[39]? = some (0, 15, []) := by decide +kernel
theorem hC_40 : shC[40]? = some (0, 15, []) := by decide +kernel
theorem hC_41 : shC[41]? = some (0, 15, []) := by decide +kernel
theorem hC_42 : shC[42]? = some (0, 15, []) := by decide +kernel
theorem hC_43 : shC[43]? = some (0, 3, []) := by decide +kernel
theorem hC_44 : shC[44]? = some (14, 5, [none, none, some 45, some 52, some 57]) := by decide +kernel
theorem hC_45 : shC[45]? = some (4, 6, [some 46, some 47, some 48, some 49, some 50, some 51]) := by decide +kernel
theorem hC_46 : shC[46]? = some (0, 6, []) := by decide +kernel
theorem hC_47 : shC[47]? = some (0, 6, []) := by decide +kernel
theorem hC_48 : shC[48]? = some (0, 6, []) := by decide +kernel
theorem hC_49 : shC[49]? = some (0, 6, []) := by decide +kernel
theorem hC_50 : shC[50]? = some (0, 6, []) := by decide +kernel
theorem hC_51 : shC[51]? = some (0, 6, []) := by decide +kernel
theorem hC_52 : shC[52]? = some (4, 4, [some 53, some 54, some 55, some 56]) := by decide +kernel
theorem hC_53 : shC[53]? = some (0, 15, []) := by decide +kernel
theorem hC_54 : shC[54]? = some (0, 15, []) := by decide +kernel
theorem hC_55 : shC[55]? = some (0, 15, []) := by decide +kernel
theorem hC_56 : shC[56]? = some (0, 15, []) := by decide +kernel
theorem hC_57 : shC[57]? = some (0, 3, []) := by decide +kernel
theorem hC_58 : shC[58]? = some (2, 2, []) := by decide +kernel
theorem hC_59 : shC[59]? = some (12, 2, [some 60, none]) := by decide +kernel
theorem hC_60 : shC[60]? = some (6, 8, []) := by decide +kernel
theorem hC_61 : shC[61]? = some (14, 5, [none, none, some 62, some 69, some 74]) := by decide +kernel
theorem hC_62 : shC[62]? = some (4, 6, [some 63, some 64, some 65, some 66, some 67, some 68]) := by decide +kernel
theorem hC_63 : shC[63]? = some (0, 6, []) := by decide +kernel
theorem hC_64 : shC[64]? = some (0, 6, []) := by decide +kernel
theorem hC_65 : shC[65]? = some (0, 6, []) := by decide +kernel
theorem hC_66 : shC[66]? = some (0, 6, []) := by decide +kernel
theorem hC_67 : shC[67]? = some (0, 6, []) := by decide +kernel
theorem hC_68 : shC[68]? = some (0, 6, []) := by decide +kernel
theorem hC_69 : shC[69]? = some (4, 4, [some 70, some 71, some 72, some 73]) := by decide +kernel
theorem hC_70 : shC[70]? = some (0, 15, []) := by decide +kernel
theorem hC_71 : shC[71]? = some (0, 15, []) := by decide +kernel
theorem hC_72 : shC[72]? = some (0, 15, []) := by decide +kernel
theorem hC_73 : shC[73]? = some (0, 15, []) := by decide +kernel
theorem hC_74 : shC[74]? = some (0, 3, []) := by decide +kernel
theorem hC_75 : shC[75]? = some (14, 5, [none, none, some 76, some 83, some 88]) := by decide +kernel
theorem hC_76 : shC[76]? = some (4, 6, [some 77, some 78, some 79, some 80, some 81, some 82]) := by decide +kernel
theorem hC_77 : shC[77]? = some (0, 6, []) := by decide +kernel
theorem hC_78 : shC[78]? = some (0, 6, []) := by decide +kernel
theorem hC_79 : shC[79]? = some (0, 6, []) := by decide +kernel
theorem hC_80 : shC[80]? = some (0, 6, []) := by decide +kernel
theorem hC_81 : shC[81]? = some (0, 6, []) := by decide +kernel
theorem hC_82 : shC[82]? = some (0, 6, []) := by decide +kernel
theorem hC_83 : shC[83]? = some (4, 4, [some 84, some 85, some 86, some 87]) := by decide +kernel
theorem hC_84 : shC[84]? = some (0, 15, []) := by decide +kernel
theorem hC_85 : shC[85]? = some (0, 15, []) := by decide +kernel
theorem hC_86 : shC[86]? = some (0, 15, []) := by decide +kernel
theorem hC_87 : shC[87]? = some (0, 15, []) := by decide +kernel
theorem hC_88 : shC[88]? = some (0, 3, []) := by decide +kernel
theorem hC_89 : shC[89]? = some (14, 5, [none, none, some 90, some 97, some 102]) := by decide +kernel
theorem hC_90 : shC[90]? = some (4, 6, [some 91, some 92, some 93, some 94, some 95, some 96]) := by decide +kernel
theorem hC_91 : shC[91]? = some (0, 6, []) := by decide +kernel
theorem hC_92 : shC[92]? = some (0, 6, []) := by decide +kernel
theorem hC_93 : shC[93]? = some (0, 6, []) := by decide +kernel
theorem hC_94 : shC[94]? = some (0, 6, []) := by decide +kernel
theorem hC_95 : shC[95]? = some (0, 6, []) := by decide +kernel
theorem hC_96 : shC[96]? = some (0, 6, []) := by decide +kernel
theorem hC_97 : shC[97]? = some (4, 4, [some 98, some 99, some 100, some 101]) := by decide +kernel
theorem hC_98 : shC[98]? = some (0, 15, []) := by decide +kernel
theorem hC_99 : shC[99]? = some (0, 15, []) := by decide +kernel
theorem hC_100 : shC[100]? = some (0, 15, []) := by decide +kernel
theorem hC_101 : shC[101]? = some (0, 15, []) := by decide +kernel
theorem hC_102 : shC[102]? = some (0, 3, []) := by decide +kernel
theorem hC_103 : shC[103]? = some (14, 5, [none, none, some 104, some 111, some 116]) := by decide +kernel
theorem hC_104 : shC[104]? = some (4, 6, [some 105, some 106, some 107, some 108, some 109, some 110]) := by decide +kernel
theorem hC_105 : shC[105]? = some (0, 6, []) := by decide +kernel
theorem hC_106 : shC[106]? = some (0, 6, []) := by decide +kernel
theorem hC_107 : shC[107]? = some (0, 6, []) := by decide +kernel
theorem hC_108 : shC[108]? = some (0, 6, []) := by decide +kernel
theorem hC_109 : shC[109]? = some (0, 6, []) := by decide +kernel
theorem hC_110 : shC[110]? = some (0, 6, []) := by decide +kernel
theorem hC_111 : shC[111]? = some (4, 4, [some 112, some 113, some 114, some 115]) := by decide +kernel
theorem hC_112 : shC[112]? = some (0, 15, []) := by decide +kernel
theorem hC_113 : shC[113]? = some (0, 15, []) := by decide +kernel
theorem hC_114 : shC[114]? = some (0, 15, []) := by decide +kernel
theorem hC_115 : shC[115]? = some (0, 15, []) := by decide +kernel
theorem hC_116 : shC[116]? = some (0, 3, []) := by decide +kernel
theorem hC_117 : shC[117]? = some (14, 5, [none, none, some 118, some 125, some 130]) := by decide +kernel
theorem hC_118 : shC[118]? = some (4, 6, [some 119, some 120, some 121, some 122, some 123, some 124]) := by decide +kernel
theorem hC_119 : shC[119]? = some (0, 6, []) := by decide +kernel
theorem hC_120 : shC[120]? = some (0, 6, []) := by decide +kernel
theorem hC_121 : shC[121]? = some (0, 6, []) := by decide +kernel
theorem hC_122 : shC[122]? = some (0, 6, []) := by decide +kernel
theorem hC_123 : shC[123]? = some (0, 6, []) := by decide +kernel
theorem hC_124 : shC[124]? = some (0, 6, []) := by decide +kernel
theorem hC_125 : shC[125]? = some (4, 4, [some 126, some 127, some 128, some 129]) := by decide +kernel
theorem hC_126 : shC[126]? = some (0, 15, []) := by decide +kernel
theorem hC_127 : shC[127]? = some (0, 15, []) := by decide +kernel
theorem hC_128 : shC[128]? = some (0, 15, []) := by decide +kernel
theorem hC_129 : shC[129]? = some (0, 15, []) := by decide +kernel
theorem hC_130 : shC[130]? = some (0, 3, []) := by decide +kernel
theorem hC_131 : shC[131]? = some (14, 5, [none, none, some 132, some 139, some 144]) := by decide +kernel
theorem hC_132 : shC[132]? = some (4, 6, [some 133, some 134, some 135, some 136, some 137, some 138]) := by decide +kernel
theorem hC_133 : shC[133]? = some (0, 6, []) := by decide +kernel
theorem hC_134 : shC[134]? = some (0, 6, []) := by decide +kernel
theorem hC_135 : shC[135]? = some (0, 6, []) := by decide +kernel
theorem hC_136 : shC[136]? = some (0, 6, []) := by decide +kernel
theorem hC_137 : shC[137]? = some (0, 6, []) := by decide +kernel
theorem hC_138 : shC[138]? = some (0, 6, []) := by decide +kernel
theorem hC_139 : shC[139]? = some (4, 4, [some 140, some 141, some 142, some 143]) := by decide +kernel
theorem hC_140 : shC[140]? = some (0, 15, []) := by decide +kernel
theorem hC_141 : shC[141]? = some (0, 15, []) := by decide +kernel
theorem hC_142 : shC[142]? = some (0, 15, []) := by decide +kernel
theorem hC_143 : shC[143]? = some (0, 15, []) := by decide +kernel
theorem hC_144 : shC[144]? = some (0, 3, []) := by decide +kernel
theorem hC_145 : shC[145]? = some (14, 5, [none, none, some 146, some 153, some 158]) := by decide +kernel
theorem hC_146 : shC[146]? = some (4, 6, [some 147, some 148, some 149, some 150, some 151, some 152]) := by decide +kernel
theorem hC_147 : shC[147]? = some (0, 6, []) := by decide +kernel
theorem hC_148 : shC[148]? = some (0, 6, []) := by decide +kernel
theorem hC_149 : shC[149]? = some (0, 6, []) := by decide +kernel
theorem hC_150 : shC[150]? = some (0, 6, []) := by decide +kernel
theorem hC_151 : shC[151]? = some (0, 6, []) := by decide +kernel
theorem hC_152 : shC[152]? = some (0, 6, []) := by decide +kernel
theorem hC_153 : shC[153]? = some (4, 4, [some 154, some 155, some 156, some 157]) := by decide +kernel
theorem hC_154 : shC[154]? = some (0, 15, []) := by decide +kernel
theorem hC_155 : shC[155]? = some (0, 15, []) := by decide +kernel
theorem hC_156 : shC[156]? = some (0, 15, []) := by decide +kernel
theorem hC_157 : shC[157]? = some (0, 15, []) := by decide +kernel
theorem hC_158 : shC[158]? = some (0, 3, []) := by decide +kernel
theorem hC_159 : shC[159]? = some (14, 5, [none, none, some 160, some 167, some 172]) := by decide +kernel
theorem hC_160 : shC[160]? = some (4, 6, [some 161, some 162, some 163, some 164, some 165, some 166]) := by decide +kernel
theorem hC_161 : shC[161]? = some (0, 6, []) := by decide +kernel
theorem hC_162 : shC[162]? = some (0, 6, []) := by decide +kernel
theorem hC_163 : shC[163]? = some (0, 6, []) := by decide +kernel
theorem hC_164 : shC[164]? = some (0, 6, []) := by decide +kernel
theorem hC_165 : shC[165]? = some (0, 6, []) := by decide +kernel
theorem hC_166 : shC[166]? = some (0, 6, []) := by decide +kernel
theorem hC_167 : shC[167]? = some (4, 4, [some 168, some 169, some 170, some 171]) := by decide +kernel
theorem hC_168 : shC[168]? = some (0, 15, []) := by decide +kernel
theorem hC_169 : shC[169]? = some (0, 15, []) := by decide +kernel
theorem hC_170 : shC[170]? = some (0, 15, []) := by decide +kernel
theorem hC_171 : shC[171]? = some (0, 15, []) := by decide +kernel
theorem hC_172 : shC[172]? = some (0, 3, []) := by decide +kernel
theorem hC_173 : shC[173]? = some (11, 2, [some 174, none]) := by decide +kernel
theorem hC_174 : shC[174]? = some (0, 80, []) := by decide +kernel
theorem hC_175 : shC[175]? = some (13, 1, [some 173]) := by decide +kernel
theorem hC_176 : shC[176]? = some (15, 2, [some 177, none]) := by decide +kernel
theorem hC_177 : shC[177]? = some (3, 17, []) := by decide +kernel
theorem hC_178 : shC[178]? = some (10, 5, [some 1, some 179, some 180, none, none]) := by decide +kernel
theorem hC_179 : shC[179]? = some (0, 3606, []) := by decide +kernel
theorem hC_180 : shC[180]? = some (0, 3606, []) := by decide +kernel
theorem hC_181 : shC[181]? = some (7, 11, [some 1, some 178, some 182, some 189, some 190, some 191, some 197, some 198, some 199, none, none]) := by decide +kernel
theorem hC_182 : shC[182]? = some (4, 6, [some 183, some 184, some 185, some 186, some 187, some 188]) := by decide +kernel
theorem hC_183 : shC[183]? = some (0, 48, []) := by decide +kernel
theorem hC_184 : shC[184]? = some (0, 48, []) := by decide +kernel
theorem hC_185 : shC[185]? = some (0, 48, []) := by decide +kernel
theorem hC_186 : shC[186]? = some (0, 48, []) := by decide +kernel
theorem hC_187 : shC[187]? = some (0, 48, []) := by decide +kernel
theorem hC_188 : shC[188]? = some (0, 48, []) := by decide +kernel
theorem hC_189 : shC[189]? = some (0, 48, []) := by decide +kernel
theorem hC_190 : shC[190]? = some (0, 48, []) := by decide +kernel
theorem hC_191 : shC[191]? = some (4, 5, [some 192, some 193, some 194, some 195, some 196]) := by decide +kernel
theorem hC_192 : shC[192]? = some (0, 48, []) := by decide +kernel
theorem hC_193 : shC[193]? = some (0, 48, []) := by decide +kernel
theorem hC_194 : shC[194]? = some (0, 48, []) := by decide +kernel
theorem hC_195 : shC[195]? = some (0, 48, []) := by decide +kernel
theorem hC_196 : shC[196]? = some (0, 48, []) := by decide +kernel
theorem hC_197 : shC[197]? = some (0, 48, []) := by decide +kernel
theorem hC_198 : shC[198]? = some (0, 5, []) := by decide +kernel
theorem hC_199 : shC[199]? = some (0, 48, []) := by decide +kernel
theorem hC_200 : shC[200]? = some (8, 3, [some 181, some 201, some 219]) := by decide +kernel
theorem hC_201 : shC[201]? = some (4, 17, [some 202, some 203, some 204, some 205, some 206, some 207, some 208, some 209, some 210, some 211, some 212, some 213, some 214, some 215, some 216, some 217, some 218]) := by decide +kernel
theorem hC_202 : shC[202]? = some (0, 48, []) := by decide +kernel
theorem hC_203 : shC[203]? = some (0, 48, []) := by decide +kernel
theorem hC_204 : shC[204]? = some (0, 48, []) := by decide +kernel
theorem hC_205 : shC[205]? = some (0, 48, []) := by decide +kernel
theorem hC_206 : shC[206]? = some (0, 48, []) := by decide +kernel
theorem hC_207 : shC[207]? = some (0, 48, []) := by decide +kernel
theorem hC_208 : shC[208]? = some (0, 48, []) := by decide +kernel
theorem hC_209 : shC[209]? = some (0, 48, []) := by decide +kernel
theorem hC_210 : shC[210]? = some (0, 48, []) := by decide +kernel
theorem hC_211 : shC[211]? = some (0, 48, []) := by decide +kernel
theorem hC_212 : shC[212]? = some (0, 48, []) := by decide +kernel
theorem hC_213 : shC[213]? = some (0, 48, []) := by decide +kernel
theorem hC_214 : shC[214]? = some (0, 48, []) := by decide +kernel
theorem hC_215 : shC[215]? = some (0, 48, []) := by decide +kernel
theorem hC_216 : shC[216]? = some (0, 48, []) := by decide +kernel
theorem hC_217 : shC[217]? = some (0, 48, []) := by decide +kernel
theorem hC_218 : shC[218]? = some (0, 48, []) := by decide +kernel
theorem hC_219 : shC[219]? = some (0, 17, []) := by decide +kernel
theorem hC_220 : shC[220]? = some (9, 1, [none]) := by decide +kernel
theorem hM_0 : shM[0]? = some (17, 31, [some 1, some 2, none, some 3, none, none, none, none, none, some 4, some 5, none, none, none, some 6, none, some 7, some 8, some 9, some 10, none, some 11, some 12, some 13, some 14, none, some 15, none, some 16, some 17, some 18]) := by decide +kernel
theorem hM_1 : shM[1]? = some (0, 101, []) := by decide +kernel
theorem hM_2 : shM[2]? = some (1, 80, []) := by decide +kernel
theorem hM_3 : shM[3]? = some (3, 32, []) := by decide +kernel
theorem hM_4 : shM[4]? = some (0, 320, []) := by decide +kernel
theorem hM_5 : shM[5]? = some (0, 3606, []) := by decide +kernel
theorem hM_6 : shM[6]? = some (0, 6, []) := by decide +kernel
theorem hM_7 : shM[7]? = some (0, 48, []) := by decide +kernel
theorem hM_8 : shM[8]? = some (0, 288, []) := by decide +kernel
theorem hM_9 : shM[9]? = some (0, 48, []) := by decide +kernel
theorem hM_10 : shM[10]? = some (0, 48, []) := by decide +kernel
theorem hM_11 : shM[11]? = some (0, 17, []) := by decide +kernel
theorem hM_12 : shM[12]? = some (0, 49, []) := by decide +kernel
theorem hM_13 : shM[13]? = some (0, 808, []) := by decide +kernel
theorem hM_14 : shM[14]? = some (0, 101, []) := by decide +kernel
theorem hM_15 : shM[15]? = some (0, 6, []) := by decide +kernel
theorem hM_16 : shM[16]? = some (0, 101, []) := by decide +kernel
theorem hM_17 : shM[17]? = some (0, 202, []) := by decide +kernel
theorem hM_18 : shM[18]? = some (2, 2, []) := by decide +kernel
theorem hC_six : ∀ (j : Nat) (sj : fm_Sh), shC[j]? = some sj → sj.1 = 6 → j = 60 := by
  intro j sj h h6
  have hl : j < 221 := by have := (List.getElem?_eq_some_iff.mp h).1; exact this
  have key : (List.range 221).all (fun j => !decide ((shC.getD j (0, 0, [])).1 = 6) || decide (j = 60)) = true := by decide +kernel
  have h2 := List.all_eq_true.mp key j (List.mem_range.mpr hl)
  have h3 : shC.getD j (0, 0, []) = sj := by rw [List.getD_eq_getElem?_getD, h]; rfl
  rw [h3] at h2
  simpa [h6] using h2
/-- the numbers of Scenes -/
def fm_sc (k : Nat) : Bool := [1, 15, 30, 44, 61, 75, 89, 103, 117, 131, 145, 159].contains k
theorem fm_sc_all : (List.range 221).all (fun k => !fm_sc k || decide (shC[k]? = some (14, 5, [none, none, some (k + 1), some (k + 8), some (k + 13)]))) = true := by decide +kernel
theorem fm_sc_lt {k : Nat} (h : fm_sc k = true) : k < 221 := by
  simp only [fm_sc, List.contains_eq_mem, List.mem_cons, List.not_mem_nil, or_false, decide_eq_true_eq] at h
  omega
theorem fm_sc_at {k : Nat} (h : fm_sc k = true) : shC[k]? = some (14, 5, [none, none, some (k + 1), some (k + 8), some (k + 13)]) := by
  have h2 := List.all_eq_true.mp fm_sc_all k (List.mem_range.mpr (fm_sc_lt h))
  simpa [h] using h2
theorem fm_sca_1 : (List.range 221).all (fun k => !fm_sc k || decide (shC[k + 1]? = some (4, 6, [some (k + 2), some (k + 3), some (k + 4), some (k + 5), some (k + 6), some (k + 7)]))) = true := by decide +kernel
theorem fm_sc_1 {k : Nat} (h : fm_sc k = true) : shC[k + 1]? = some (4, 6, [some (k + 2), some (k + 3), some (k + 4), some (k + 5), some (k + 6), some (k + 7)]) := by
  have h2 := List.all_eq_true.mp fm_sca_1 k (List.mem_range.mpr (fm_sc_lt h))
  simpa [h] using h2
theorem fm_sca_8 : (List.range 221).all (fun k => !fm_sc k || decide (shC[k + 8]? = some (4, 4, [some (k + 9), some (k + 10), some (k + 11), some (k + 12)]))) = true := by decide +kernel
theorem fm_sc_8 {k : Nat} (h : fm_sc k = true) : shC[k + 8]? = some (4, 4, [some (k + 9), some (k + 10), some (k + 11), some (k + 12)]) := by
  have h2 := List.all_eq_true.mp fm_sca_8 k (List.mem_range.mpr (fm_sc_lt h))
  simpa [h] using h2
theorem fm_sca_13 : (List.range 221).all (fun k => !fm_sc k || decide (shC[k + 13]? = some (0, 3, []))) = true := by decide +kernel
theorem fm_sc_13 {k : Nat} (h : fm_sc k = true) : shC[k + 13]? = some (0, 3, []) := by
  have h2 := List.all_eq_true.mp fm_sca_13 k (List.mem_range.mpr (fm_sc_lt h))
  simpa [h] using h2
theorem fm_scb_1 : (List.range 221).all (fun k => !fm_sc k || (List.range 6).all (fun j => decide (shC[k + 2 + j]? = some (0, 6, [])))) = true := by decide +kernel
theorem fm_sc_t1 {k : Nat} (h : fm_sc k = true) : ∀ j, j < 6 → shC[k + 2 + j]? = some (0, 6, []) := by
  intro j hj
  have h2 := List.all_eq_true.mp fm_scb_1 k (List.mem_range.mpr (fm_sc_lt h))
  simp only [h, Bool.not_true, Bool.false_or] at h2
  simpa using List.all_eq_true.mp h2 j (List.mem_range.mpr hj)
theorem fm_scb_8 : (List.range 221).all (fun k => !fm_sc k || (List.range 4).all (fun j => decide (shC[k + 9 + j]? = some (0, 15, [])))) = true := by decide +kernel
theorem fm_sc_t8 {k : Nat} (h : fm_sc k = true) : ∀ j, j < 4 → shC[k + 9 + j]? = some (0, 15, []) := by
  intro j hj
  have h2 := List.all_eq_true.mp fm_scb_8 k (List.mem_range.mpr (fm_sc_lt h))
  simp only [h, Bool.not_true, Bool.false_or] at h2
  simpa using List.all_eq_true.mp h2 j (List.mem_range.mpr hj)
theorem fm_sc_l1 (k j : Nat) (h : j < 6) : ([some (k + 2), some (k + 3), some (k + 4), some (k + 5), some (k + 6), some (k + 7)] : List (Option Nat))[j]? = some (some (k + 2 + j)) := by
  match j, h with
  | 0, _ => rfl
  | 1, _ => rfl
  | 2, _ => rfl
  | 3, _ => rfl
  | 4, _ => rfl
  | 5, _ => rfl
  | n + 6, h => omega
theorem fm_sc_l8 (k j : Nat) (h : j < 4) : ([some (k + 9), some (k + 10), some (k + 11), some (k + 12)] : List (Option Nat))[j]? = some (some (k + 9 + j)) := by
  match j, h with
  | 0, _ => rfl
  | 1, _ => rfl
  | 2, _ => rfl
  | 3, _ => rfl
  | n + 4, h => omega
/-- what a Scene holds behind copyFrom -/
def fm_cpS (M : fm_M) (k o : Nat) : fm_M := (fun a => if a = k then upd (upd (M.1 k) 0 (M.1 o 0)) 1 (M.1 o 1) else if k + 2 ≤ a ∧ a < k + 8 then va_cpy (M.1 (o + (a - k))) (M.1 a) 0 0 6 else if k + 9 ≤ a ∧ a < k + 13 then va_cpy (M.1 (o + (a - k))) (M.1 a) 0 0 15 else if a = k + 13 then va_cpy (M.1 (o + 13)) (M.1 a) 0 0 3 else M.1 a, M.2)
